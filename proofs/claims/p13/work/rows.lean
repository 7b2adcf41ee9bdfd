section
-- ===== PART A: goes FIRST, ahead of the names: the tables' words, and 'selects' of the private methods out of them =====
/-- a private method of a class that the tables say can be made, by its rows of tables_1 -/
def lw_okq (q : MethodName × Nat) : Prop := (q.1.cls ≠ "java/lang/invoke/MethodHandle" ∧ q.1.cls ≠ "java/lang/invoke/VarHandle") ∧ Cond.instantiable q.1.cls q.2 ∈ tables_1 ∧ Cond.privateMethod q.1 ∈ tables_1 ∧ Cond.instanceMethod q.1 ∈ tables_1
theorem lw_p0 : lw_okq (⟨"GrownGraphs$Page", "fitsHead", "(I)Z"⟩, 2) := ⟨⟨by decide +kernel, by decide +kernel⟩, List.mem_of_getElem? (i := 21) (by decide +kernel), List.mem_of_getElem? (i := 210) (by decide +kernel), List.mem_of_getElem? (i := 211) (by decide +kernel)⟩
theorem lw_p1 : lw_okq (⟨"GrownGraphs$Page", "fitsEdge", "(IIZ)Z"⟩, 2) := ⟨⟨by decide +kernel, by decide +kernel⟩, List.mem_of_getElem? (i := 21) (by decide +kernel), List.mem_of_getElem? (i := 220) (by decide +kernel), List.mem_of_getElem? (i := 221) (by decide +kernel)⟩
theorem lw_p2 : lw_okq (⟨"GrownGraphs$Page", "isWhole", "(I)Z"⟩, 2) := ⟨⟨by decide +kernel, by decide +kernel⟩, List.mem_of_getElem? (i := 21) (by decide +kernel), List.mem_of_getElem? (i := 232) (by decide +kernel), List.mem_of_getElem? (i := 233) (by decide +kernel)⟩
theorem lw_p3 : lw_okq (⟨"GrownGraphs$Page", "names", "(I)Z"⟩, 2) := ⟨⟨by decide +kernel, by decide +kernel⟩, List.mem_of_getElem? (i := 21) (by decide +kernel), List.mem_of_getElem? (i := 237) (by decide +kernel), List.mem_of_getElem? (i := 238) (by decide +kernel)⟩
theorem lw_p4 : lw_okq (⟨"GrownGraphs$Page", "namesNoGap", "()Z"⟩, 2) := ⟨⟨by decide +kernel, by decide +kernel⟩, List.mem_of_getElem? (i := 21) (by decide +kernel), List.mem_of_getElem? (i := 241) (by decide +kernel), List.mem_of_getElem? (i := 242) (by decide +kernel)⟩
theorem lw_p5 : lw_okq (⟨"GrownGraphs$Page", "copyEdges", "(LGrownGraphs$Figure;I)V"⟩, 2) := ⟨⟨by decide +kernel, by decide +kernel⟩, List.mem_of_getElem? (i := 21) (by decide +kernel), List.mem_of_getElem? (i := 264) (by decide +kernel), List.mem_of_getElem? (i := 265) (by decide +kernel)⟩
theorem lw_p6 : lw_okq (⟨"GrownGraphs$Figure", "put", "(IIII)V"⟩, 5) := ⟨⟨by decide +kernel, by decide +kernel⟩, List.mem_of_getElem? (i := 50) (by decide +kernel), List.mem_of_getElem? (i := 276) (by decide +kernel), List.mem_of_getElem? (i := 277) (by decide +kernel)⟩
theorem lw_p7 : lw_okq (⟨"GrownGraphs$Figure", "comes", "(III)Z"⟩, 5) := ⟨⟨by decide +kernel, by decide +kernel⟩, List.mem_of_getElem? (i := 50) (by decide +kernel), List.mem_of_getElem? (i := 288) (by decide +kernel), List.mem_of_getElem? (i := 289) (by decide +kernel)⟩
theorem lw_p8 : lw_okq (⟨"GrownGraphs$Figure", "allows", "(II)Z"⟩, 5) := ⟨⟨by decide +kernel, by decide +kernel⟩, List.mem_of_getElem? (i := 50) (by decide +kernel), List.mem_of_getElem? (i := 296) (by decide +kernel), List.mem_of_getElem? (i := 297) (by decide +kernel)⟩
theorem lw_p9 : lw_okq (⟨"GrownGraphs", "noteNewGraph", "()V"⟩, 10) := ⟨⟨by decide +kernel, by decide +kernel⟩, List.mem_of_getElem? (i := 13) (by decide +kernel), List.mem_of_getElem? (i := 325) (by decide +kernel), List.mem_of_getElem? (i := 326) (by decide +kernel)⟩
theorem lw_p10 : lw_okq (⟨"GrownGraphs$Figure", "nodeFor", "(III)I"⟩, 5) := ⟨⟨by decide +kernel, by decide +kernel⟩, List.mem_of_getElem? (i := 50) (by decide +kernel), List.mem_of_getElem? (i := 354) (by decide +kernel), List.mem_of_getElem? (i := 355) (by decide +kernel)⟩
theorem lw_p11 : lw_okq (⟨"GrownGraphs$Origins", "improve", "(LGrownGraphs$Figure;ILGrownGraphs$RuleBook;Z)Z"⟩, 2) := ⟨⟨by decide +kernel, by decide +kernel⟩, List.mem_of_getElem? (i := 118) (by decide +kernel), List.mem_of_getElem? (i := 393) (by decide +kernel), List.mem_of_getElem? (i := 394) (by decide +kernel)⟩
theorem lw_p12 : lw_okq (⟨"GrownGraphs$Figure", "nodesOf", "(I)I"⟩, 5) := ⟨⟨by decide +kernel, by decide +kernel⟩, List.mem_of_getElem? (i := 50) (by decide +kernel), List.mem_of_getElem? (i := 407) (by decide +kernel), List.mem_of_getElem? (i := 408) (by decide +kernel)⟩
theorem lw_p13 : lw_okq (⟨"GrownGraphs$Origins", "byRule", "(LGrownGraphs$Figure;ILGrownGraphs$Rule;)I"⟩, 2) := ⟨⟨by decide +kernel, by decide +kernel⟩, List.mem_of_getElem? (i := 118) (by decide +kernel), List.mem_of_getElem? (i := 414) (by decide +kernel), List.mem_of_getElem? (i := 415) (by decide +kernel)⟩
theorem lw_p14 : lw_okq (⟨"GrownGraphs$Origins", "standsApart", "(I)Z"⟩, 2) := ⟨⟨by decide +kernel, by decide +kernel⟩, List.mem_of_getElem? (i := 118) (by decide +kernel), List.mem_of_getElem? (i := 418) (by decide +kernel), List.mem_of_getElem? (i := 419) (by decide +kernel)⟩
theorem lw_p15 : lw_okq (⟨"GrownGraphs$Origins", "bySplit", "(LGrownGraphs$Figure;ILGrownGraphs$Rule;)I"⟩, 2) := ⟨⟨by decide +kernel, by decide +kernel⟩, List.mem_of_getElem? (i := 118) (by decide +kernel), List.mem_of_getElem? (i := 422) (by decide +kernel), List.mem_of_getElem? (i := 423) (by decide +kernel)⟩
def lw_privs_1 : List (MethodName × Nat) := [(⟨"GrownGraphs$Page", "fitsHead", "(I)Z"⟩, 2), (⟨"GrownGraphs$Page", "fitsEdge", "(IIZ)Z"⟩, 2), (⟨"GrownGraphs$Page", "isWhole", "(I)Z"⟩, 2), (⟨"GrownGraphs$Page", "names", "(I)Z"⟩, 2), (⟨"GrownGraphs$Page", "namesNoGap", "()Z"⟩, 2), (⟨"GrownGraphs$Page", "copyEdges", "(LGrownGraphs$Figure;I)V"⟩, 2), (⟨"GrownGraphs$Figure", "put", "(IIII)V"⟩, 5), (⟨"GrownGraphs$Figure", "comes", "(III)Z"⟩, 5), (⟨"GrownGraphs$Figure", "allows", "(II)Z"⟩, 5), (⟨"GrownGraphs", "noteNewGraph", "()V"⟩, 10), (⟨"GrownGraphs$Figure", "nodeFor", "(III)I"⟩, 5), (⟨"GrownGraphs$Origins", "improve", "(LGrownGraphs$Figure;ILGrownGraphs$RuleBook;Z)Z"⟩, 2), (⟨"GrownGraphs$Figure", "nodesOf", "(I)I"⟩, 5), (⟨"GrownGraphs$Origins", "byRule", "(LGrownGraphs$Figure;ILGrownGraphs$Rule;)I"⟩, 2), (⟨"GrownGraphs$Origins", "standsApart", "(I)Z"⟩, 2), (⟨"GrownGraphs$Origins", "bySplit", "(LGrownGraphs$Figure;ILGrownGraphs$Rule;)I"⟩, 2)]
theorem lw_r1 : ∀ q ∈ lw_privs_1, lw_okq q := List.forall_mem_cons.mpr ⟨lw_p0, List.forall_mem_cons.mpr ⟨lw_p1, List.forall_mem_cons.mpr ⟨lw_p2, List.forall_mem_cons.mpr ⟨lw_p3, List.forall_mem_cons.mpr ⟨lw_p4, List.forall_mem_cons.mpr ⟨lw_p5, List.forall_mem_cons.mpr ⟨lw_p6, List.forall_mem_cons.mpr ⟨lw_p7, List.forall_mem_cons.mpr ⟨lw_p8, List.forall_mem_cons.mpr ⟨lw_p9, List.forall_mem_cons.mpr ⟨lw_p10, List.forall_mem_cons.mpr ⟨lw_p11, List.forall_mem_cons.mpr ⟨lw_p12, List.forall_mem_cons.mpr ⟨lw_p13, List.forall_mem_cons.mpr ⟨lw_p14, List.forall_mem_cons.mpr ⟨lw_p15, fun _ h => absurd h List.not_mem_nil⟩⟩⟩⟩⟩⟩⟩⟩⟩⟩⟩⟩⟩⟩⟩⟩
theorem lw_p16 : lw_okq (⟨"GrownGraphs$Origins", "bySlot", "(LGrownGraphs$Figure;ILGrownGraphs$Rule;I)I"⟩, 2) := ⟨⟨by decide +kernel, by decide +kernel⟩, List.mem_of_getElem? (i := 118) (by decide +kernel), List.mem_of_getElem? (i := 426) (by decide +kernel), List.mem_of_getElem? (i := 427) (by decide +kernel)⟩
theorem lw_p17 : lw_okq (⟨"GrownGraphs$Origins", "lower", "(II)Z"⟩, 2) := ⟨⟨by decide +kernel, by decide +kernel⟩, List.mem_of_getElem? (i := 118) (by decide +kernel), List.mem_of_getElem? (i := 438) (by decide +kernel), List.mem_of_getElem? (i := 439) (by decide +kernel)⟩
theorem lw_p18 : lw_okq (⟨"GrownGraphs", "bringLights", "()V"⟩, 10) := ⟨⟨by decide +kernel, by decide +kernel⟩, List.mem_of_getElem? (i := 13) (by decide +kernel), List.mem_of_getElem? (i := 451) (by decide +kernel), List.mem_of_getElem? (i := 452) (by decide +kernel)⟩
theorem lw_p19 : lw_okq (⟨"GrownGraphs$Lights", "forget", "()V"⟩, 5) := ⟨⟨by decide +kernel, by decide +kernel⟩, List.mem_of_getElem? (i := 131) (by decide +kernel), List.mem_of_getElem? (i := 459) (by decide +kernel), List.mem_of_getElem? (i := 460) (by decide +kernel)⟩
theorem lw_p20 : lw_okq (⟨"GrownGraphs$Lights", "offer", "(IIJI)V"⟩, 5) := ⟨⟨by decide +kernel, by decide +kernel⟩, List.mem_of_getElem? (i := 131) (by decide +kernel), List.mem_of_getElem? (i := 468) (by decide +kernel), List.mem_of_getElem? (i := 469) (by decide +kernel)⟩
theorem lw_p21 : lw_okq (⟨"GrownGraphs$Lights", "nearest", "()I"⟩, 5) := ⟨⟨by decide +kernel, by decide +kernel⟩, List.mem_of_getElem? (i := 131) (by decide +kernel), List.mem_of_getElem? (i := 472) (by decide +kernel), List.mem_of_getElem? (i := 473) (by decide +kernel)⟩
theorem lw_p22 : lw_okq (⟨"GrownGraphs$Lights", "settle", "(II)V"⟩, 5) := ⟨⟨by decide +kernel, by decide +kernel⟩, List.mem_of_getElem? (i := 131) (by decide +kernel), List.mem_of_getElem? (i := 476) (by decide +kernel), List.mem_of_getElem? (i := 477) (by decide +kernel)⟩
theorem lw_p23 : lw_okq (⟨"GrownGraphs$Lights", "spread", "(LGrownGraphs$Rule;III)V"⟩, 5) := ⟨⟨by decide +kernel, by decide +kernel⟩, List.mem_of_getElem? (i := 131) (by decide +kernel), List.mem_of_getElem? (i := 480) (by decide +kernel), List.mem_of_getElem? (i := 481) (by decide +kernel)⟩
theorem lw_p24 : lw_okq (⟨"GrownGraphs$Lights", "combine", "(LGrownGraphs$Rule;III)V"⟩, 5) := ⟨⟨by decide +kernel, by decide +kernel⟩, List.mem_of_getElem? (i := 131) (by decide +kernel), List.mem_of_getElem? (i := 484) (by decide +kernel), List.mem_of_getElem? (i := 485) (by decide +kernel)⟩
theorem lw_p25 : lw_okq (⟨"GrownGraphs$Lights", "choices", "(LGrownGraphs$Rule;II)I"⟩, 5) := ⟨⟨by decide +kernel, by decide +kernel⟩, List.mem_of_getElem? (i := 131) (by decide +kernel), List.mem_of_getElem? (i := 488) (by decide +kernel), List.mem_of_getElem? (i := 489) (by decide +kernel)⟩
theorem lw_p26 : lw_okq (⟨"GrownGraphs$Lights", "settledKind", "(LGrownGraphs$Rule;II)I"⟩, 5) := ⟨⟨by decide +kernel, by decide +kernel⟩, List.mem_of_getElem? (i := 131) (by decide +kernel), List.mem_of_getElem? (i := 492) (by decide +kernel), List.mem_of_getElem? (i := 493) (by decide +kernel)⟩
theorem lw_p27 : lw_okq (⟨"GrownGraphs$Lights", "stepsIn", "(LGrownGraphs$Rule;II)J"⟩, 5) := ⟨⟨by decide +kernel, by decide +kernel⟩, List.mem_of_getElem? (i := 131) (by decide +kernel), List.mem_of_getElem? (i := 496) (by decide +kernel), List.mem_of_getElem? (i := 497) (by decide +kernel)⟩
theorem lw_p28 : lw_okq (⟨"GrownGraphsModel", "read", "(Z)I"⟩, 27) := ⟨⟨by decide +kernel, by decide +kernel⟩, List.mem_of_getElem? (i := 546) (by decide +kernel), List.mem_of_getElem? (i := 649) (by decide +kernel), List.mem_of_getElem? (i := 650) (by decide +kernel)⟩
theorem lw_p29 : lw_okq (⟨"GrownGraphsModel", "takes", "(IIZ)Z"⟩, 27) := ⟨⟨by decide +kernel, by decide +kernel⟩, List.mem_of_getElem? (i := 546) (by decide +kernel), List.mem_of_getElem? (i := 653) (by decide +kernel), List.mem_of_getElem? (i := 654) (by decide +kernel)⟩
theorem lw_p30 : lw_okq (⟨"GrownGraphsModel", "takesEdge", "(IZ)Z"⟩, 27) := ⟨⟨by decide +kernel, by decide +kernel⟩, List.mem_of_getElem? (i := 546) (by decide +kernel), List.mem_of_getElem? (i := 657) (by decide +kernel), List.mem_of_getElem? (i := 658) (by decide +kernel)⟩
theorem lw_p31 : lw_okq (⟨"GrownGraphsModel", "isWhole", "(Z)Z"⟩, 27) := ⟨⟨by decide +kernel, by decide +kernel⟩, List.mem_of_getElem? (i := 546) (by decide +kernel), List.mem_of_getElem? (i := 668) (by decide +kernel), List.mem_of_getElem? (i := 669) (by decide +kernel)⟩
def lw_privs_2 : List (MethodName × Nat) := [(⟨"GrownGraphs$Origins", "bySlot", "(LGrownGraphs$Figure;ILGrownGraphs$Rule;I)I"⟩, 2), (⟨"GrownGraphs$Origins", "lower", "(II)Z"⟩, 2), (⟨"GrownGraphs", "bringLights", "()V"⟩, 10), (⟨"GrownGraphs$Lights", "forget", "()V"⟩, 5), (⟨"GrownGraphs$Lights", "offer", "(IIJI)V"⟩, 5), (⟨"GrownGraphs$Lights", "nearest", "()I"⟩, 5), (⟨"GrownGraphs$Lights", "settle", "(II)V"⟩, 5), (⟨"GrownGraphs$Lights", "spread", "(LGrownGraphs$Rule;III)V"⟩, 5), (⟨"GrownGraphs$Lights", "combine", "(LGrownGraphs$Rule;III)V"⟩, 5), (⟨"GrownGraphs$Lights", "choices", "(LGrownGraphs$Rule;II)I"⟩, 5), (⟨"GrownGraphs$Lights", "settledKind", "(LGrownGraphs$Rule;II)I"⟩, 5), (⟨"GrownGraphs$Lights", "stepsIn", "(LGrownGraphs$Rule;II)J"⟩, 5), (⟨"GrownGraphsModel", "read", "(Z)I"⟩, 27), (⟨"GrownGraphsModel", "takes", "(IIZ)Z"⟩, 27), (⟨"GrownGraphsModel", "takesEdge", "(IZ)Z"⟩, 27), (⟨"GrownGraphsModel", "isWhole", "(Z)Z"⟩, 27)]
theorem lw_r2 : ∀ q ∈ lw_privs_2, lw_okq q := List.forall_mem_cons.mpr ⟨lw_p16, List.forall_mem_cons.mpr ⟨lw_p17, List.forall_mem_cons.mpr ⟨lw_p18, List.forall_mem_cons.mpr ⟨lw_p19, List.forall_mem_cons.mpr ⟨lw_p20, List.forall_mem_cons.mpr ⟨lw_p21, List.forall_mem_cons.mpr ⟨lw_p22, List.forall_mem_cons.mpr ⟨lw_p23, List.forall_mem_cons.mpr ⟨lw_p24, List.forall_mem_cons.mpr ⟨lw_p25, List.forall_mem_cons.mpr ⟨lw_p26, List.forall_mem_cons.mpr ⟨lw_p27, List.forall_mem_cons.mpr ⟨lw_p28, List.forall_mem_cons.mpr ⟨lw_p29, List.forall_mem_cons.mpr ⟨lw_p30, List.forall_mem_cons.mpr ⟨lw_p31, fun _ h => absurd h List.not_mem_nil⟩⟩⟩⟩⟩⟩⟩⟩⟩⟩⟩⟩⟩⟩⟩⟩
theorem lw_p32 : lw_okq (⟨"GrownGraphsModel", "altered", "()V"⟩, 27) := ⟨⟨by decide +kernel, by decide +kernel⟩, List.mem_of_getElem? (i := 546) (by decide +kernel), List.mem_of_getElem? (i := 678) (by decide +kernel), List.mem_of_getElem? (i := 679) (by decide +kernel)⟩
theorem lw_p33 : lw_okq (⟨"GrownGraphsModel", "isRule", "(I)Z"⟩, 27) := ⟨⟨by decide +kernel, by decide +kernel⟩, List.mem_of_getElem? (i := 546) (by decide +kernel), List.mem_of_getElem? (i := 686) (by decide +kernel), List.mem_of_getElem? (i := 687) (by decide +kernel)⟩
theorem lw_p34 : lw_okq (⟨"GrownGraphsModel", "ruleNow", "(II)I"⟩, 27) := ⟨⟨by decide +kernel, by decide +kernel⟩, List.mem_of_getElem? (i := 546) (by decide +kernel), List.mem_of_getElem? (i := 698) (by decide +kernel), List.mem_of_getElem? (i := 699) (by decide +kernel)⟩
theorem lw_p35 : lw_okq (⟨"GrownGraphsModel", "isEdge", "(I)Z"⟩, 27) := ⟨⟨by decide +kernel, by decide +kernel⟩, List.mem_of_getElem? (i := 546) (by decide +kernel), List.mem_of_getElem? (i := 710) (by decide +kernel), List.mem_of_getElem? (i := 711) (by decide +kernel)⟩
theorem lw_p36 : lw_okq (⟨"GrownGraphsModel", "nodeFor", "(II)I"⟩, 27) := ⟨⟨by decide +kernel, by decide +kernel⟩, List.mem_of_getElem? (i := 546) (by decide +kernel), List.mem_of_getElem? (i := 720) (by decide +kernel), List.mem_of_getElem? (i := 721) (by decide +kernel)⟩
theorem lw_p37 : lw_okq (⟨"GrownGraphsModel", "isDone", "()Z"⟩, 27) := ⟨⟨by decide +kernel, by decide +kernel⟩, List.mem_of_getElem? (i := 546) (by decide +kernel), List.mem_of_getElem? (i := 735) (by decide +kernel), List.mem_of_getElem? (i := 736) (by decide +kernel)⟩
theorem lw_p38 : lw_okq (⟨"GrownGraphsModel", "opens", "()I"⟩, 27) := ⟨⟨by decide +kernel, by decide +kernel⟩, List.mem_of_getElem? (i := 546) (by decide +kernel), List.mem_of_getElem? (i := 739) (by decide +kernel), List.mem_of_getElem? (i := 740) (by decide +kernel)⟩
theorem lw_p39 : lw_okq (⟨"GrownGraphsModel", "kindNow", "()I"⟩, 27) := ⟨⟨by decide +kernel, by decide +kernel⟩, List.mem_of_getElem? (i := 546) (by decide +kernel), List.mem_of_getElem? (i := 743) (by decide +kernel), List.mem_of_getElem? (i := 744) (by decide +kernel)⟩
theorem lw_p40 : lw_okq (⟨"GrownGraphsModel", "leadsTo", "(II)Z"⟩, 27) := ⟨⟨by decide +kernel, by decide +kernel⟩, List.mem_of_getElem? (i := 546) (by decide +kernel), List.mem_of_getElem? (i := 747) (by decide +kernel), List.mem_of_getElem? (i := 748) (by decide +kernel)⟩
theorem lw_p41 : lw_okq (⟨"GrownGraphsModel", "coloured", "()I"⟩, 27) := ⟨⟨by decide +kernel, by decide +kernel⟩, List.mem_of_getElem? (i := 546) (by decide +kernel), List.mem_of_getElem? (i := 751) (by decide +kernel), List.mem_of_getElem? (i := 752) (by decide +kernel)⟩
theorem lw_p42 : lw_okq (⟨"GrownGraphsModel", "fewestNow", "(I)I"⟩, 27) := ⟨⟨by decide +kernel, by decide +kernel⟩, List.mem_of_getElem? (i := 546) (by decide +kernel), List.mem_of_getElem? (i := 759) (by decide +kernel), List.mem_of_getElem? (i := 760) (by decide +kernel)⟩
theorem lw_p43 : lw_okq (⟨"GrownGraphsModel", "layFewest", "()V"⟩, 27) := ⟨⟨by decide +kernel, by decide +kernel⟩, List.mem_of_getElem? (i := 546) (by decide +kernel), List.mem_of_getElem? (i := 763) (by decide +kernel), List.mem_of_getElem? (i := 764) (by decide +kernel)⟩
theorem lw_p44 : lw_okq (⟨"GrownGraphsModel", "laySet", "(I)V"⟩, 27) := ⟨⟨by decide +kernel, by decide +kernel⟩, List.mem_of_getElem? (i := 546) (by decide +kernel), List.mem_of_getElem? (i := 770) (by decide +kernel), List.mem_of_getElem? (i := 771) (by decide +kernel)⟩
theorem lw_p45 : lw_okq (⟨"GrownGraphsModel", "layEnds", "(III)V"⟩, 27) := ⟨⟨by decide +kernel, by decide +kernel⟩, List.mem_of_getElem? (i := 546) (by decide +kernel), List.mem_of_getElem? (i := 774) (by decide +kernel), List.mem_of_getElem? (i := 775) (by decide +kernel)⟩
theorem lw_p46 : lw_okq (⟨"GrownGraphsModel", "at", "(IIII)I"⟩, 27) := ⟨⟨by decide +kernel, by decide +kernel⟩, List.mem_of_getElem? (i := 546) (by decide +kernel), List.mem_of_getElem? (i := 778) (by decide +kernel), List.mem_of_getElem? (i := 779) (by decide +kernel)⟩
theorem lw_p47 : lw_okq (⟨"GrownGraphsModel", "byInner", "(II)I"⟩, 27) := ⟨⟨by decide +kernel, by decide +kernel⟩, List.mem_of_getElem? (i := 546) (by decide +kernel), List.mem_of_getElem? (i := 783) (by decide +kernel), List.mem_of_getElem? (i := 784) (by decide +kernel)⟩
def lw_privs_3 : List (MethodName × Nat) := [(⟨"GrownGraphsModel", "altered", "()V"⟩, 27), (⟨"GrownGraphsModel", "isRule", "(I)Z"⟩, 27), (⟨"GrownGraphsModel", "ruleNow", "(II)I"⟩, 27), (⟨"GrownGraphsModel", "isEdge", "(I)Z"⟩, 27), (⟨"GrownGraphsModel", "nodeFor", "(II)I"⟩, 27), (⟨"GrownGraphsModel", "isDone", "()Z"⟩, 27), (⟨"GrownGraphsModel", "opens", "()I"⟩, 27), (⟨"GrownGraphsModel", "kindNow", "()I"⟩, 27), (⟨"GrownGraphsModel", "leadsTo", "(II)Z"⟩, 27), (⟨"GrownGraphsModel", "coloured", "()I"⟩, 27), (⟨"GrownGraphsModel", "fewestNow", "(I)I"⟩, 27), (⟨"GrownGraphsModel", "layFewest", "()V"⟩, 27), (⟨"GrownGraphsModel", "laySet", "(I)V"⟩, 27), (⟨"GrownGraphsModel", "layEnds", "(III)V"⟩, 27), (⟨"GrownGraphsModel", "at", "(IIII)I"⟩, 27), (⟨"GrownGraphsModel", "byInner", "(II)I"⟩, 27)]
theorem lw_r3 : ∀ q ∈ lw_privs_3, lw_okq q := List.forall_mem_cons.mpr ⟨lw_p32, List.forall_mem_cons.mpr ⟨lw_p33, List.forall_mem_cons.mpr ⟨lw_p34, List.forall_mem_cons.mpr ⟨lw_p35, List.forall_mem_cons.mpr ⟨lw_p36, List.forall_mem_cons.mpr ⟨lw_p37, List.forall_mem_cons.mpr ⟨lw_p38, List.forall_mem_cons.mpr ⟨lw_p39, List.forall_mem_cons.mpr ⟨lw_p40, List.forall_mem_cons.mpr ⟨lw_p41, List.forall_mem_cons.mpr ⟨lw_p42, List.forall_mem_cons.mpr ⟨lw_p43, List.forall_mem_cons.mpr ⟨lw_p44, List.forall_mem_cons.mpr ⟨lw_p45, List.forall_mem_cons.mpr ⟨lw_p46, List.forall_mem_cons.mpr ⟨lw_p47, fun _ h => absurd h List.not_mem_nil⟩⟩⟩⟩⟩⟩⟩⟩⟩⟩⟩⟩⟩⟩⟩⟩
theorem lw_p48 : lw_okq (⟨"GrownGraphsModel", "areUnlike", "(I)Z"⟩, 27) := ⟨⟨by decide +kernel, by decide +kernel⟩, List.mem_of_getElem? (i := 546) (by decide +kernel), List.mem_of_getElem? (i := 787) (by decide +kernel), List.mem_of_getElem? (i := 788) (by decide +kernel)⟩
theorem lw_p49 : lw_okq (⟨"GrownGraphsModel", "bySplits", "(II)I"⟩, 27) := ⟨⟨by decide +kernel, by decide +kernel⟩, List.mem_of_getElem? (i := 546) (by decide +kernel), List.mem_of_getElem? (i := 791) (by decide +kernel), List.mem_of_getElem? (i := 792) (by decide +kernel)⟩
theorem lw_p50 : lw_okq (⟨"GrownGraphsModel", "stepsFor", "(II)I"⟩, 27) := ⟨⟨by decide +kernel, by decide +kernel⟩, List.mem_of_getElem? (i := 546) (by decide +kernel), List.mem_of_getElem? (i := 795) (by decide +kernel), List.mem_of_getElem? (i := 796) (by decide +kernel)⟩
theorem lw_p51 : lw_okq (⟨"GrownGraphsModel", "stepsOf", "(IIII)I"⟩, 27) := ⟨⟨by decide +kernel, by decide +kernel⟩, List.mem_of_getElem? (i := 546) (by decide +kernel), List.mem_of_getElem? (i := 799) (by decide +kernel), List.mem_of_getElem? (i := 800) (by decide +kernel)⟩
theorem lw_p52 : lw_okq (⟨"GrownGraphsModel", "areApart", "(IIII)Z"⟩, 27) := ⟨⟨by decide +kernel, by decide +kernel⟩, List.mem_of_getElem? (i := 546) (by decide +kernel), List.mem_of_getElem? (i := 803) (by decide +kernel), List.mem_of_getElem? (i := 804) (by decide +kernel)⟩
theorem lw_p53 : lw_okq (⟨"GrownGraphsModel", "laySingles", "(III)Z"⟩, 27) := ⟨⟨by decide +kernel, by decide +kernel⟩, List.mem_of_getElem? (i := 546) (by decide +kernel), List.mem_of_getElem? (i := 807) (by decide +kernel), List.mem_of_getElem? (i := 808) (by decide +kernel)⟩
theorem lw_p54 : lw_okq (⟨"GrownGraphsModel", "kindsNow", "(I)I"⟩, 27) := ⟨⟨by decide +kernel, by decide +kernel⟩, List.mem_of_getElem? (i := 546) (by decide +kernel), List.mem_of_getElem? (i := 815) (by decide +kernel), List.mem_of_getElem? (i := 816) (by decide +kernel)⟩
theorem lw_p55 : lw_okq (⟨"GrownGraphsModel", "layLights", "()V"⟩, 27) := ⟨⟨by decide +kernel, by decide +kernel⟩, List.mem_of_getElem? (i := 546) (by decide +kernel), List.mem_of_getElem? (i := 819) (by decide +kernel), List.mem_of_getElem? (i := 820) (by decide +kernel)⟩
theorem lw_p56 : lw_okq (⟨"GrownGraphsModel", "layRule", "(IZ)Z"⟩, 27) := ⟨⟨by decide +kernel, by decide +kernel⟩, List.mem_of_getElem? (i := 546) (by decide +kernel), List.mem_of_getElem? (i := 827) (by decide +kernel), List.mem_of_getElem? (i := 828) (by decide +kernel)⟩
theorem lw_p57 : lw_okq (⟨"GrownGraphsModel", "layLight", "(IJZ)Z"⟩, 27) := ⟨⟨by decide +kernel, by decide +kernel⟩, List.mem_of_getElem? (i := 546) (by decide +kernel), List.mem_of_getElem? (i := 831) (by decide +kernel), List.mem_of_getElem? (i := 832) (by decide +kernel)⟩
theorem lw_p58 : lw_okq (⟨"GrownGraphsModel", "leads", "(IZ)Z"⟩, 27) := ⟨⟨by decide +kernel, by decide +kernel⟩, List.mem_of_getElem? (i := 546) (by decide +kernel), List.mem_of_getElem? (i := 835) (by decide +kernel), List.mem_of_getElem? (i := 836) (by decide +kernel)⟩
theorem lw_p59 : lw_okq (⟨"GrownGraphsModel", "colouredBy", "(I)I"⟩, 27) := ⟨⟨by decide +kernel, by decide +kernel⟩, List.mem_of_getElem? (i := 546) (by decide +kernel), List.mem_of_getElem? (i := 839) (by decide +kernel), List.mem_of_getElem? (i := 840) (by decide +kernel)⟩
theorem lw_p60 : lw_okq (⟨"GrownGraphsModel", "lightNow", "(III)I"⟩, 27) := ⟨⟨by decide +kernel, by decide +kernel⟩, List.mem_of_getElem? (i := 546) (by decide +kernel), List.mem_of_getElem? (i := 847) (by decide +kernel), List.mem_of_getElem? (i := 848) (by decide +kernel)⟩
theorem lw_p61 : lw_okq (⟨"GrownGraphsModel", "howMany", "(I)I"⟩, 27) := ⟨⟨by decide +kernel, by decide +kernel⟩, List.mem_of_getElem? (i := 546) (by decide +kernel), List.mem_of_getElem? (i := 855) (by decide +kernel), List.mem_of_getElem? (i := 856) (by decide +kernel)⟩
theorem lw_p62 : lw_okq (⟨"GrownGraphsModel", "mix", "(J)V"⟩, 27) := ⟨⟨by decide +kernel, by decide +kernel⟩, List.mem_of_getElem? (i := 546) (by decide +kernel), List.mem_of_getElem? (i := 864) (by decide +kernel), List.mem_of_getElem? (i := 865) (by decide +kernel)⟩
theorem lw_p63 : lw_okq (⟨"GrownGraphsModel", "mixOpen", "(I)V"⟩, 27) := ⟨⟨by decide +kernel, by decide +kernel⟩, List.mem_of_getElem? (i := 546) (by decide +kernel), List.mem_of_getElem? (i := 870) (by decide +kernel), List.mem_of_getElem? (i := 871) (by decide +kernel)⟩
def lw_privs_4 : List (MethodName × Nat) := [(⟨"GrownGraphsModel", "areUnlike", "(I)Z"⟩, 27), (⟨"GrownGraphsModel", "bySplits", "(II)I"⟩, 27), (⟨"GrownGraphsModel", "stepsFor", "(II)I"⟩, 27), (⟨"GrownGraphsModel", "stepsOf", "(IIII)I"⟩, 27), (⟨"GrownGraphsModel", "areApart", "(IIII)Z"⟩, 27), (⟨"GrownGraphsModel", "laySingles", "(III)Z"⟩, 27), (⟨"GrownGraphsModel", "kindsNow", "(I)I"⟩, 27), (⟨"GrownGraphsModel", "layLights", "()V"⟩, 27), (⟨"GrownGraphsModel", "layRule", "(IZ)Z"⟩, 27), (⟨"GrownGraphsModel", "layLight", "(IJZ)Z"⟩, 27), (⟨"GrownGraphsModel", "leads", "(IZ)Z"⟩, 27), (⟨"GrownGraphsModel", "colouredBy", "(I)I"⟩, 27), (⟨"GrownGraphsModel", "lightNow", "(III)I"⟩, 27), (⟨"GrownGraphsModel", "howMany", "(I)I"⟩, 27), (⟨"GrownGraphsModel", "mix", "(J)V"⟩, 27), (⟨"GrownGraphsModel", "mixOpen", "(I)V"⟩, 27)]
theorem lw_r4 : ∀ q ∈ lw_privs_4, lw_okq q := List.forall_mem_cons.mpr ⟨lw_p48, List.forall_mem_cons.mpr ⟨lw_p49, List.forall_mem_cons.mpr ⟨lw_p50, List.forall_mem_cons.mpr ⟨lw_p51, List.forall_mem_cons.mpr ⟨lw_p52, List.forall_mem_cons.mpr ⟨lw_p53, List.forall_mem_cons.mpr ⟨lw_p54, List.forall_mem_cons.mpr ⟨lw_p55, List.forall_mem_cons.mpr ⟨lw_p56, List.forall_mem_cons.mpr ⟨lw_p57, List.forall_mem_cons.mpr ⟨lw_p58, List.forall_mem_cons.mpr ⟨lw_p59, List.forall_mem_cons.mpr ⟨lw_p60, List.forall_mem_cons.mpr ⟨lw_p61, List.forall_mem_cons.mpr ⟨lw_p62, List.forall_mem_cons.mpr ⟨lw_p63, fun _ h => absurd h List.not_mem_nil⟩⟩⟩⟩⟩⟩⟩⟩⟩⟩⟩⟩⟩⟩⟩⟩
def lw_privs : List (MethodName × Nat) := lw_privs_1 ++ (lw_privs_2 ++ (lw_privs_3 ++ (lw_privs_4)))
def lw_tbl : List Cond := k2_sels lw_privs ++ tables_1
theorem lw_privs_ok : ∀ q ∈ lw_privs, lw_okq q := by
  show ∀ q ∈ lw_privs_1 ++ (lw_privs_2 ++ (lw_privs_3 ++ (lw_privs_4))), lw_okq q
  exact List.forall_mem_append.mpr ⟨lw_r1, List.forall_mem_append.mpr ⟨lw_r2, List.forall_mem_append.mpr ⟨lw_r3, lw_r4⟩⟩⟩
end
section
def RX0 : String := "GrownGraphs$Figure"
def TX0 : u_T := fun k => match k with
  | 0 => ("GrownGraphs$Figure", "letters", "[I", true)
  | 1 => ("GrownGraphs$Figure", "from", "[I", true)
  | 2 => ("GrownGraphs$Figure", "to", "[I", true)
  | 3 => ("GrownGraphs$Figure", "size", "I", false)
  | _ => ("GrownGraphs$Figure", "nodes", "I", false)
def tyX0 : Nat → FieldType := fun k => match k with
  | 0 => .array .int
  | 1 => .array .int
  | 2 => .array .int
  | 3 => .int
  | _ => .int
abbrev wsX00 : List Cond := u_ws RX0 TX0 5
theorem nmX0 : ∀ a, a < 5 → ∀ b, b < 5 → a ≠ b → (TX0 a).2.1 ≠ (TX0 b).2.1 := by decide +kernel
theorem tyX0_ok : ∀ k, k < 5 → parseFieldDescriptor (TX0 k).2.2.1 = some (tyX0 k) := by decide +kernel
abbrev cX0_init : ByteArray := prog_2_method_1_code
def yX0_init : MethodName := ⟨RX0, "<init>", "(I)V"⟩
abbrev cX0_clear : ByteArray := prog_2_method_2_code
def yX0_clear : MethodName := ⟨RX0, "clear", "(I)V"⟩
abbrev cX0_has : ByteArray := prog_2_method_3_code
def yX0_has : MethodName := ⟨RX0, "has", "(I)Z"⟩
abbrev cX0_append : ByteArray := prog_2_method_4_code
def yX0_append : MethodName := ⟨RX0, "append", "(III)V"⟩
abbrev cX0_put : ByteArray := prog_2_method_5_code
def yX0_put : MethodName := ⟨RX0, "put", "(IIII)V"⟩
abbrev cX0_told : ByteArray := prog_2_method_6_code
def yX0_told : MethodName := ⟨RX0, "told", "(I)I"⟩
abbrev cX0_openEdges : ByteArray := prog_2_method_7_code
def yX0_openEdges : MethodName := ⟨RX0, "openEdges", "()I"⟩
abbrev cX0_isDone : ByteArray := prog_2_method_8_code
def yX0_isDone : MethodName := ⟨RX0, "isDone", "()Z"⟩
abbrev cX0_replace : ByteArray := prog_2_method_9_code
def yX0_replace : MethodName := ⟨RX0, "replace", "(ILGrownGraphs$Figure;)V"⟩
abbrev cX0_nodeFor : ByteArray := prog_2_method_10_code
def yX0_nodeFor : MethodName := ⟨RX0, "nodeFor", "(III)I"⟩
abbrev cX0_isPart : ByteArray := prog_2_method_11_code
def yX0_isPart : MethodName := ⟨RX0, "isPart", "(III)Z"⟩
abbrev cX0_nodesOf : ByteArray := prog_2_method_12_code
def yX0_nodesOf : MethodName := ⟨RX0, "nodesOf", "(I)I"⟩
abbrev cX0_isEdge : ByteArray := prog_2_method_13_code
def yX0_isEdge : MethodName := ⟨RX0, "isEdge", "(IIII)Z"⟩
abbrev cX0_ownKind : ByteArray := prog_2_method_14_code
def yX0_ownKind : MethodName := ⟨RX0, "ownKind", "()I"⟩
abbrev cX0_waysOf : ByteArray := prog_2_method_15_code
def yX0_waysOf : MethodName := ⟨RX0, "waysOf", "(I)I"⟩
abbrev cX0_comes : ByteArray := prog_2_method_16_code
def yX0_comes : MethodName := ⟨RX0, "comes", "(III)Z"⟩
abbrev cX0_huesOf : ByteArray := prog_2_method_17_code
def yX0_huesOf : MethodName := ⟨RX0, "huesOf", "(I)I"⟩
abbrev cX0_allows : ByteArray := prog_2_method_18_code
def yX0_allows : MethodName := ⟨RX0, "allows", "(II)Z"⟩
def RX1 : String := "GrownGraphs$Lights"
def TX1 : u_T := fun k => match k with
  | 0 => ("GrownGraphs$Lights", "steps", "[J", true)
  | 1 => ("GrownGraphs$Lights", "firsts", "[I", true)
  | 2 => ("GrownGraphs$Lights", "settled", "[Z", true)
  | 3 => ("GrownGraphs$Lights", "settledKinds", "[I", true)
  | _ => ("GrownGraphs$Lights", "settledCount", "[I", true)
def tyX1 : Nat → FieldType := fun k => match k with
  | 0 => .array .long
  | 1 => .array .int
  | 2 => .array .boolean
  | 3 => .array .int
  | _ => .array .int
abbrev wsX10 : List Cond := u_ws RX1 TX1 5
theorem nmX1 : ∀ a, a < 5 → ∀ b, b < 5 → a ≠ b → (TX1 a).2.1 ≠ (TX1 b).2.1 := by decide +kernel
theorem tyX1_ok : ∀ k, k < 5 → parseFieldDescriptor (TX1 k).2.2.1 = some (tyX1 k) := by decide +kernel
abbrev cX1_init : ByteArray := prog_3_method_1_code
def yX1_init : MethodName := ⟨RX1, "<init>", "()V"⟩
abbrev cX1_reaches : ByteArray := prog_3_method_2_code
def yX1_reaches : MethodName := ⟨RX1, "reaches", "(II)Z"⟩
abbrev cX1_stepsTo : ByteArray := prog_3_method_3_code
def yX1_stepsTo : MethodName := ⟨RX1, "stepsTo", "(II)I"⟩
abbrev cX1_firstTo : ByteArray := prog_3_method_4_code
def yX1_firstTo : MethodName := ⟨RX1, "firstTo", "(II)I"⟩
abbrev cX1_find : ByteArray := prog_3_method_5_code
def yX1_find : MethodName := ⟨RX1, "find", "(LGrownGraphs$RuleBook;)V"⟩
abbrev cX1_forget : ByteArray := prog_3_method_6_code
def yX1_forget : MethodName := ⟨RX1, "forget", "()V"⟩
abbrev cX1_offer : ByteArray := prog_3_method_7_code
def yX1_offer : MethodName := ⟨RX1, "offer", "(IIJI)V"⟩
abbrev cX1_nearest : ByteArray := prog_3_method_8_code
def yX1_nearest : MethodName := ⟨RX1, "nearest", "()I"⟩
abbrev cX1_settle : ByteArray := prog_3_method_9_code
def yX1_settle : MethodName := ⟨RX1, "settle", "(II)V"⟩
abbrev cX1_spread : ByteArray := prog_3_method_10_code
def yX1_spread : MethodName := ⟨RX1, "spread", "(LGrownGraphs$Rule;III)V"⟩
abbrev cX1_combine : ByteArray := prog_3_method_11_code
def yX1_combine : MethodName := ⟨RX1, "combine", "(LGrownGraphs$Rule;III)V"⟩
abbrev cX1_choices : ByteArray := prog_3_method_12_code
def yX1_choices : MethodName := ⟨RX1, "choices", "(LGrownGraphs$Rule;II)I"⟩
abbrev cX1_settledKind : ByteArray := prog_3_method_13_code
def yX1_settledKind : MethodName := ⟨RX1, "settledKind", "(LGrownGraphs$Rule;II)I"⟩
abbrev cX1_stepsIn : ByteArray := prog_3_method_14_code
def yX1_stepsIn : MethodName := ⟨RX1, "stepsIn", "(LGrownGraphs$Rule;II)J"⟩
def RX2 : String := "GrownGraphs$Origins"
def TX2 : u_T := fun k => match k with
  | 0 => ("GrownGraphs$Origins", "steps", "[I", true)
  | _ => ("GrownGraphs$Origins", "stand", "[I", true)
def tyX2 : Nat → FieldType := fun k => match k with
  | 0 => .array .int
  | _ => .array .int
abbrev wsX20 : List Cond := u_ws RX2 TX2 2
theorem nmX2 : ∀ a, a < 2 → ∀ b, b < 2 → a ≠ b → (TX2 a).2.1 ≠ (TX2 b).2.1 := by decide +kernel
theorem tyX2_ok : ∀ k, k < 2 → parseFieldDescriptor (TX2 k).2.2.1 = some (tyX2 k) := by decide +kernel
abbrev cX2_init : ByteArray := prog_4_method_1_code
def yX2_init : MethodName := ⟨RX2, "<init>", "()V"⟩
abbrev cX2_ofWhole : ByteArray := prog_4_method_2_code
def yX2_ofWhole : MethodName := ⟨RX2, "ofWhole", "(LGrownGraphs$Figure;I)I"⟩
abbrev cX2_at : ByteArray := prog_4_method_3_code
def yX2_at : MethodName := ⟨RX2, "at", "(IIII)I"⟩
abbrev cX2_find : ByteArray := prog_4_method_4_code
def yX2_find : MethodName := ⟨RX2, "find", "(LGrownGraphs$Figure;LGrownGraphs$RuleBook;)V"⟩
abbrev cX2_improve : ByteArray := prog_4_method_5_code
def yX2_improve : MethodName := ⟨RX2, "improve", "(LGrownGraphs$Figure;ILGrownGraphs$RuleBook;Z)Z"⟩
abbrev cX2_lower : ByteArray := prog_4_method_6_code
def yX2_lower : MethodName := ⟨RX2, "lower", "(II)Z"⟩
abbrev cX2_byRule : ByteArray := prog_4_method_7_code
def yX2_byRule : MethodName := ⟨RX2, "byRule", "(LGrownGraphs$Figure;ILGrownGraphs$Rule;)I"⟩
abbrev cX2_standsApart : ByteArray := prog_4_method_8_code
def yX2_standsApart : MethodName := ⟨RX2, "standsApart", "(I)Z"⟩
abbrev cX2_bySplit : ByteArray := prog_4_method_9_code
def yX2_bySplit : MethodName := ⟨RX2, "bySplit", "(LGrownGraphs$Figure;ILGrownGraphs$Rule;)I"⟩
abbrev cX2_bySlot : ByteArray := prog_4_method_10_code
def yX2_bySlot : MethodName := ⟨RX2, "bySlot", "(LGrownGraphs$Figure;ILGrownGraphs$Rule;I)I"⟩
def RX3 : String := "GrownGraphs$Page"
def TX3 : u_T := fun k => match k with
  | 0 => ("GrownGraphs$Page", "codes", "[I", true)
  | _ => ("GrownGraphs$Page", "size", "I", false)
def tyX3 : Nat → FieldType := fun k => match k with
  | 0 => .array .int
  | _ => .int
abbrev wsX30 : List Cond := u_ws RX3 TX3 2
theorem nmX3 : ∀ a, a < 2 → ∀ b, b < 2 → a ≠ b → (TX3 a).2.1 ≠ (TX3 b).2.1 := by decide +kernel
theorem tyX3_ok : ∀ k, k < 2 → parseFieldDescriptor (TX3 k).2.2.1 = some (tyX3 k) := by decide +kernel
abbrev cX3_init : ByteArray := prog_5_method_1_code
def yX3_init : MethodName := ⟨RX3, "<init>", "()V"⟩
abbrev cX3_clear : ByteArray := prog_5_method_2_code
def yX3_clear : MethodName := ⟨RX3, "clear", "()V"⟩
abbrev cX3_write : ByteArray := prog_5_method_3_code
def yX3_write : MethodName := ⟨RX3, "write", "(I)V"⟩
abbrev cX3_firstFault : ByteArray := prog_5_method_4_code
def yX3_firstFault : MethodName := ⟨RX3, "firstFault", "(Z)I"⟩
abbrev cX3_fitsHead : ByteArray := prog_5_method_5_code
def yX3_fitsHead : MethodName := ⟨RX3, "fitsHead", "(I)Z"⟩
abbrev cX3_fitsEdge : ByteArray := prog_5_method_6_code
def yX3_fitsEdge : MethodName := ⟨RX3, "fitsEdge", "(IIZ)Z"⟩
abbrev cX3_letterOf : ByteArray := prog_5_method_7_code
def yX3_letterOf : MethodName := ⟨RX3, "letterOf", "(I)I"⟩
abbrev cX3_isRule : ByteArray := prog_5_method_8_code
def yX3_isRule : MethodName := ⟨RX3, "isRule", "()Z"⟩
abbrev cX3_isGraph : ByteArray := prog_5_method_9_code
def yX3_isGraph : MethodName := ⟨RX3, "isGraph", "()Z"⟩
abbrev cX3_isWhole : ByteArray := prog_5_method_10_code
def yX3_isWhole : MethodName := ⟨RX3, "isWhole", "(I)Z"⟩
abbrev cX3_names : ByteArray := prog_5_method_11_code
def yX3_names : MethodName := ⟨RX3, "names", "(I)Z"⟩
abbrev cX3_namesNoGap : ByteArray := prog_5_method_12_code
def yX3_namesNoGap : MethodName := ⟨RX3, "namesNoGap", "()Z"⟩
abbrev cX3_openLetter : ByteArray := prog_5_method_13_code
def yX3_openLetter : MethodName := ⟨RX3, "openLetter", "()I"⟩
abbrev cX3_copyRule : ByteArray := prog_5_method_14_code
def yX3_copyRule : MethodName := ⟨RX3, "copyRule", "(LGrownGraphs$Figure;)V"⟩
abbrev cX3_copyGraph : ByteArray := prog_5_method_15_code
def yX3_copyGraph : MethodName := ⟨RX3, "copyGraph", "(LGrownGraphs$Figure;)V"⟩
abbrev cX3_copyEdges : ByteArray := prog_5_method_16_code
def yX3_copyEdges : MethodName := ⟨RX3, "copyEdges", "(LGrownGraphs$Figure;I)V"⟩
def RX4 : String := "GrownGraphs$Rule"
def TX4 : u_T := fun k => match k with
  | 0 => ("GrownGraphs$Rule", "open", "I", false)
  | 1 => ("GrownGraphs$Rule", "body", "LGrownGraphs$Figure;", true)
  | 2 => ("GrownGraphs$Rule", "slots", "[I", true)
  | 3 => ("GrownGraphs$Rule", "ways", "[I", true)
  | _ => ("GrownGraphs$Rule", "hues", "[I", true)
def tyX4 : Nat → FieldType := fun k => match k with
  | 0 => .int
  | 1 => .object "GrownGraphs$Figure"
  | 2 => .array .int
  | 3 => .array .int
  | _ => .array .int
abbrev wsX40 : List Cond := u_ws RX4 TX4 5
theorem nmX4 : ∀ a, a < 5 → ∀ b, b < 5 → a ≠ b → (TX4 a).2.1 ≠ (TX4 b).2.1 := by decide +kernel
theorem tyX4_ok : ∀ k, k < 5 → parseFieldDescriptor (TX4 k).2.2.1 = some (tyX4 k) := by decide +kernel
abbrev cX4_init : ByteArray := prog_6_method_1_code
def yX4_init : MethodName := ⟨RX4, "<init>", "()V"⟩
abbrev cX4_read : ByteArray := prog_6_method_2_code
def yX4_read : MethodName := ⟨RX4, "read", "(LGrownGraphs$Page;)V"⟩
abbrev cX4_kindFrom : ByteArray := prog_6_method_3_code
def yX4_kindFrom : MethodName := ⟨RX4, "kindFrom", "(III)I"⟩
def RX5 : String := "GrownGraphs$RuleBook"
def TX5 : u_T := fun k => match k with
  | 0 => ("GrownGraphs$RuleBook", "rules", "[LGrownGraphs$Rule;", true)
  | _ => ("GrownGraphs$RuleBook", "size", "I", false)
def tyX5 : Nat → FieldType := fun k => match k with
  | 0 => .array (.object "GrownGraphs$Rule")
  | _ => .int
abbrev wsX50 : List Cond := u_ws RX5 TX5 2
theorem nmX5 : ∀ a, a < 2 → ∀ b, b < 2 → a ≠ b → (TX5 a).2.1 ≠ (TX5 b).2.1 := by decide +kernel
theorem tyX5_ok : ∀ k, k < 2 → parseFieldDescriptor (TX5 k).2.2.1 = some (tyX5 k) := by decide +kernel
abbrev cX5_init : ByteArray := prog_7_method_1_code
def yX5_init : MethodName := ⟨RX5, "<init>", "()V"⟩
abbrev cX5_has : ByteArray := prog_7_method_2_code
def yX5_has : MethodName := ⟨RX5, "has", "(I)Z"⟩
abbrev cX5_add : ByteArray := prog_7_method_3_code
def yX5_add : MethodName := ⟨RX5, "add", "(LGrownGraphs$Page;)V"⟩
abbrev cX5_remove : ByteArray := prog_7_method_4_code
def yX5_remove : MethodName := ⟨RX5, "remove", "(I)V"⟩
def RX6 : String := "GrownGraphs"
def TX6 : u_T := fun k => match k with
  | 0 => ("GrownGraphs", "page", "LGrownGraphs$Page;", true)
  | 1 => ("GrownGraphs", "book", "LGrownGraphs$RuleBook;", true)
  | 2 => ("GrownGraphs", "figure", "LGrownGraphs$Figure;", true)
  | 3 => ("GrownGraphs", "origins", "LGrownGraphs$Origins;", true)
  | 4 => ("GrownGraphs", "lights", "LGrownGraphs$Lights;", true)
  | 5 => ("GrownGraphs", "originsStand", "Z", false)
  | 6 => ("GrownGraphs", "lightsStand", "Z", false)
  | 7 => ("GrownGraphs", "stepsSinceBegin", "I", false)
  | 8 => ("GrownGraphs", "stepsEver", "I", false)
  | _ => ("GrownGraphs", "graphsEver", "I", false)
def tyX6 : Nat → FieldType := fun k => match k with
  | 0 => .object "GrownGraphs$Page"
  | 1 => .object "GrownGraphs$RuleBook"
  | 2 => .object "GrownGraphs$Figure"
  | 3 => .object "GrownGraphs$Origins"
  | 4 => .object "GrownGraphs$Lights"
  | 5 => .boolean
  | 6 => .boolean
  | 7 => .int
  | 8 => .int
  | _ => .int
abbrev wsX60 : List Cond := u_ws RX6 TX6 10
theorem nmX6 : ∀ a, a < 10 → ∀ b, b < 10 → a ≠ b → (TX6 a).2.1 ≠ (TX6 b).2.1 := by decide +kernel
theorem tyX6_ok : ∀ k, k < 10 → parseFieldDescriptor (TX6 k).2.2.1 = some (tyX6 k) := by decide +kernel
abbrev cX6_init : ByteArray := prog_1_method_1_code
def yX6_init : MethodName := ⟨RX6, "<init>", "()V"⟩
abbrev cX6_letter : ByteArray := prog_1_method_2_code
def yX6_letter : MethodName := ⟨RX6, "letter", "(I)I"⟩
abbrev cX6_blank : ByteArray := prog_1_method_3_code
def yX6_blank : MethodName := ⟨RX6, "blank", "()I"⟩
abbrev cX6_fault : ByteArray := prog_1_method_4_code
def yX6_fault : MethodName := ⟨RX6, "fault", "(Z)I"⟩
abbrev cX6_rule : ByteArray := prog_1_method_5_code
def yX6_rule : MethodName := ⟨RX6, "rule", "()I"⟩
abbrev cX6_drop : ByteArray := prog_1_method_6_code
def yX6_drop : MethodName := ⟨RX6, "drop", "(I)I"⟩
abbrev cX6_graph : ByteArray := prog_1_method_7_code
def yX6_graph : MethodName := ⟨RX6, "graph", "()I"⟩
abbrev cX6_of : ByteArray := prog_1_method_8_code
def yX6_of : MethodName := ⟨RX6, "of", "(II)I"⟩
abbrev cX6_begin : ByteArray := prog_1_method_9_code
def yX6_begin : MethodName := ⟨RX6, "begin", "(I)I"⟩
abbrev cX6_step : ByteArray := prog_1_method_10_code
def yX6_step : MethodName := ⟨RX6, "step", "(II)I"⟩
abbrev cX6_edge : ByteArray := prog_1_method_11_code
def yX6_edge : MethodName := ⟨RX6, "edge", "(I)I"⟩
abbrev cX6_kind : ByteArray := prog_1_method_12_code
def yX6_kind : MethodName := ⟨RX6, "kind", "()I"⟩
abbrev cX6_fewest : ByteArray := prog_1_method_13_code
def yX6_fewest : MethodName := ⟨RX6, "fewest", "(I)I"⟩
abbrev cX6_kinds : ByteArray := prog_1_method_14_code
def yX6_kinds : MethodName := ⟨RX6, "kinds", "(I)I"⟩
abbrev cX6_light : ByteArray := prog_1_method_15_code
def yX6_light : MethodName := ⟨RX6, "light", "(III)I"⟩
abbrev cX6_count : ByteArray := prog_1_method_16_code
def yX6_count : MethodName := ⟨RX6, "count", "(I)I"⟩
abbrev cX6_digest : ByteArray := prog_1_method_17_code
def yX6_digest : MethodName := ⟨RX6, "digest", "()J"⟩
abbrev cX6_mix : ByteArray := prog_1_method_18_code
def yX6_mix : MethodName := ⟨RX6, "mix", "(JI)J"⟩
abbrev cX6_isOpen : ByteArray := prog_1_method_19_code
def yX6_isOpen : MethodName := ⟨RX6, "isOpen", "(I)Z"⟩
abbrev cX6_noteNewGraph : ByteArray := prog_1_method_20_code
def yX6_noteNewGraph : MethodName := ⟨RX6, "noteNewGraph", "()V"⟩
abbrev cX6_bringLights : ByteArray := prog_1_method_21_code
def yX6_bringLights : MethodName := ⟨RX6, "bringLights", "()V"⟩
def RX7 : String := "GrownGraphsModel"
def TX7 : u_T := fun k => match k with
  | 0 => ("GrownGraphsModel", "pageLength", "I", false)
  | 1 => ("GrownGraphsModel", "page", "[I", true)
  | 2 => ("GrownGraphsModel", "rules", "I", false)
  | 3 => ("GrownGraphsModel", "ruleOf", "[I", true)
  | 4 => ("GrownGraphsModel", "ruleEdges", "[I", true)
  | 5 => ("GrownGraphsModel", "ruleNodes", "[I", true)
  | 6 => ("GrownGraphsModel", "ruleEdge", "[I", true)
  | 7 => ("GrownGraphsModel", "edges", "I", false)
  | 8 => ("GrownGraphsModel", "nodes", "I", false)
  | 9 => ("GrownGraphsModel", "edgeAt", "[I", true)
  | 10 => ("GrownGraphsModel", "steps", "I", false)
  | 11 => ("GrownGraphsModel", "stepsEver", "I", false)
  | 12 => ("GrownGraphsModel", "begun", "I", false)
  | 13 => ("GrownGraphsModel", "newMany", "I", false)
  | 14 => ("GrownGraphsModel", "newEdge", "[I", true)
  | 15 => ("GrownGraphsModel", "newNodes", "I", false)
  | 16 => ("GrownGraphsModel", "newStage", "I", false)
  | 17 => ("GrownGraphsModel", "newNow", "I", false)
  | 18 => ("GrownGraphsModel", "isLaid", "Z", false)
  | 19 => ("GrownGraphsModel", "fewestAt", "[I", true)
  | 20 => ("GrownGraphsModel", "nodesOf", "[I", true)
  | 21 => ("GrownGraphsModel", "nodeAt", "[I", true)
  | 22 => ("GrownGraphsModel", "isLightLaid", "Z", false)
  | 23 => ("GrownGraphsModel", "lightAt", "[J", true)
  | 24 => ("GrownGraphsModel", "firstAt", "[I", true)
  | 25 => ("GrownGraphsModel", "classNow", "[I", true)
  | _ => ("GrownGraphsModel", "h", "J", false)
def tyX7 : Nat → FieldType := fun k => match k with
  | 0 => .int
  | 1 => .array .int
  | 2 => .int
  | 3 => .array .int
  | 4 => .array .int
  | 5 => .array .int
  | 6 => .array .int
  | 7 => .int
  | 8 => .int
  | 9 => .array .int
  | 10 => .int
  | 11 => .int
  | 12 => .int
  | 13 => .int
  | 14 => .array .int
  | 15 => .int
  | 16 => .int
  | 17 => .int
  | 18 => .boolean
  | 19 => .array .int
  | 20 => .array .int
  | 21 => .array .int
  | 22 => .boolean
  | 23 => .array .long
  | 24 => .array .int
  | 25 => .array .int
  | _ => .long
abbrev wsX70 : List Cond := u_ws RX7 TX7 27
theorem nmX7 : ∀ a, a < 27 → ∀ b, b < 27 → a ≠ b → (TX7 a).2.1 ≠ (TX7 b).2.1 := by decide +kernel
theorem tyX7_ok : ∀ k, k < 27 → parseFieldDescriptor (TX7 k).2.2.1 = some (tyX7 k) := by decide +kernel
abbrev cX7_init : ByteArray := prog_9_method_1_code
def yX7_init : MethodName := ⟨RX7, "<init>", "()V"⟩
abbrev cX7_within : ByteArray := prog_9_method_3_code
def yX7_within : MethodName := ⟨RX7, "within", "(III)Z"⟩
abbrev cX7_has : ByteArray := prog_9_method_4_code
def yX7_has : MethodName := ⟨RX7, "has", "(II)Z"⟩
abbrev cX7_letterOf : ByteArray := prog_9_method_5_code
def yX7_letterOf : MethodName := ⟨RX7, "letterOf", "(I)I"⟩
abbrev cX7_fromOf : ByteArray := prog_9_method_6_code
def yX7_fromOf : MethodName := ⟨RX7, "fromOf", "(I)I"⟩
abbrev cX7_toOf : ByteArray := prog_9_method_7_code
def yX7_toOf : MethodName := ⟨RX7, "toOf", "(I)I"⟩
abbrev cX7_letter : ByteArray := prog_9_method_8_code
def yX7_letter : MethodName := ⟨RX7, "letter", "(I)I"⟩
abbrev cX7_blank : ByteArray := prog_9_method_9_code
def yX7_blank : MethodName := ⟨RX7, "blank", "()I"⟩
abbrev cX7_letterAt : ByteArray := prog_9_method_10_code
def yX7_letterAt : MethodName := ⟨RX7, "letterAt", "(IZ)I"⟩
abbrev cX7_takesEdge : ByteArray := prog_9_method_11_code
def yX7_takesEdge : MethodName := ⟨RX7, "takesEdge", "(IZ)Z"⟩
abbrev cX7_takes : ByteArray := prog_9_method_12_code
def yX7_takes : MethodName := ⟨RX7, "takes", "(IIZ)Z"⟩
abbrev cX7_read : ByteArray := prog_9_method_13_code
def yX7_read : MethodName := ⟨RX7, "read", "(Z)I"⟩
abbrev cX7_fault : ByteArray := prog_9_method_14_code
def yX7_fault : MethodName := ⟨RX7, "fault", "(Z)I"⟩
abbrev cX7_isWhole : ByteArray := prog_9_method_15_code
def yX7_isWhole : MethodName := ⟨RX7, "isWhole", "(Z)Z"⟩
abbrev cX7_above : ByteArray := prog_9_method_16_code
def yX7_above : MethodName := ⟨RX7, "above", "(I)I"⟩
abbrev cX7_rule : ByteArray := prog_9_method_17_code
def yX7_rule : MethodName := ⟨RX7, "rule", "()I"⟩
abbrev cX7_isRule : ByteArray := prog_9_method_18_code
def yX7_isRule : MethodName := ⟨RX7, "isRule", "(I)Z"⟩
abbrev cX7_drop : ByteArray := prog_9_method_19_code
def yX7_drop : MethodName := ⟨RX7, "drop", "(I)I"⟩
abbrev cX7_graph : ByteArray := prog_9_method_20_code
def yX7_graph : MethodName := ⟨RX7, "graph", "()I"⟩
abbrev cX7_ruleNow : ByteArray := prog_9_method_21_code
def yX7_ruleNow : MethodName := ⟨RX7, "ruleNow", "(II)I"⟩
abbrev cX7_of : ByteArray := prog_9_method_22_code
def yX7_of : MethodName := ⟨RX7, "of", "(II)I"⟩
abbrev cX7_begin : ByteArray := prog_9_method_23_code
def yX7_begin : MethodName := ⟨RX7, "begin", "(I)I"⟩
abbrev cX7_isEdge : ByteArray := prog_9_method_24_code
def yX7_isEdge : MethodName := ⟨RX7, "isEdge", "(I)Z"⟩
abbrev cX7_step : ByteArray := prog_9_method_25_code
def yX7_step : MethodName := ⟨RX7, "step", "(II)I"⟩
abbrev cX7_nodeFor : ByteArray := prog_9_method_26_code
def yX7_nodeFor : MethodName := ⟨RX7, "nodeFor", "(II)I"⟩
abbrev cX7_edge : ByteArray := prog_9_method_27_code
def yX7_edge : MethodName := ⟨RX7, "edge", "(I)I"⟩
abbrev cX7_opens : ByteArray := prog_9_method_28_code
def yX7_opens : MethodName := ⟨RX7, "opens", "()I"⟩
abbrev cX7_leadsTo : ByteArray := prog_9_method_29_code
def yX7_leadsTo : MethodName := ⟨RX7, "leadsTo", "(II)Z"⟩
abbrev cX7_coloured : ByteArray := prog_9_method_30_code
def yX7_coloured : MethodName := ⟨RX7, "coloured", "()I"⟩
abbrev cX7_kindNow : ByteArray := prog_9_method_31_code
def yX7_kindNow : MethodName := ⟨RX7, "kindNow", "()I"⟩
abbrev cX7_isDone : ByteArray := prog_9_method_32_code
def yX7_isDone : MethodName := ⟨RX7, "isDone", "()Z"⟩
abbrev cX7_kind : ByteArray := prog_9_method_33_code
def yX7_kind : MethodName := ⟨RX7, "kind", "()I"⟩
abbrev cX7_altered : ByteArray := prog_9_method_34_code
def yX7_altered : MethodName := ⟨RX7, "altered", "()V"⟩
abbrev cX7_at : ByteArray := prog_9_method_35_code
def yX7_at : MethodName := ⟨RX7, "at", "(IIII)I"⟩
abbrev cX7_stepsOf : ByteArray := prog_9_method_36_code
def yX7_stepsOf : MethodName := ⟨RX7, "stepsOf", "(IIII)I"⟩
abbrev cX7_stepsFor : ByteArray := prog_9_method_37_code
def yX7_stepsFor : MethodName := ⟨RX7, "stepsFor", "(II)I"⟩
abbrev cX7_areApart : ByteArray := prog_9_method_38_code
def yX7_areApart : MethodName := ⟨RX7, "areApart", "(IIII)Z"⟩
abbrev cX7_bySplits : ByteArray := prog_9_method_39_code
def yX7_bySplits : MethodName := ⟨RX7, "bySplits", "(II)I"⟩
abbrev cX7_byInner : ByteArray := prog_9_method_40_code
def yX7_byInner : MethodName := ⟨RX7, "byInner", "(II)I"⟩
abbrev cX7_areUnlike : ByteArray := prog_9_method_41_code
def yX7_areUnlike : MethodName := ⟨RX7, "areUnlike", "(I)Z"⟩
abbrev cX7_laySet : ByteArray := prog_9_method_42_code
def yX7_laySet : MethodName := ⟨RX7, "laySet", "(I)V"⟩
abbrev cX7_layEnds : ByteArray := prog_9_method_43_code
def yX7_layEnds : MethodName := ⟨RX7, "layEnds", "(III)V"⟩
abbrev cX7_laySingles : ByteArray := prog_9_method_44_code
def yX7_laySingles : MethodName := ⟨RX7, "laySingles", "(III)Z"⟩
abbrev cX7_ones : ByteArray := prog_9_method_45_code
def yX7_ones : MethodName := ⟨RX7, "ones", "(I)I"⟩
abbrev cX7_layFewest : ByteArray := prog_9_method_46_code
def yX7_layFewest : MethodName := ⟨RX7, "layFewest", "()V"⟩
abbrev cX7_fewestNow : ByteArray := prog_9_method_47_code
def yX7_fewestNow : MethodName := ⟨RX7, "fewestNow", "(I)I"⟩
abbrev cX7_fewest : ByteArray := prog_9_method_48_code
def yX7_fewest : MethodName := ⟨RX7, "fewest", "(I)I"⟩
abbrev cX7_classOf : ByteArray := prog_9_method_49_code
def yX7_classOf : MethodName := ⟨RX7, "classOf", "(I)I"⟩
abbrev cX7_leads : ByteArray := prog_9_method_50_code
def yX7_leads : MethodName := ⟨RX7, "leads", "(IZ)Z"⟩
abbrev cX7_colouredBy : ByteArray := prog_9_method_51_code
def yX7_colouredBy : MethodName := ⟨RX7, "colouredBy", "(I)I"⟩
abbrev cX7_layRule : ByteArray := prog_9_method_52_code
def yX7_layRule : MethodName := ⟨RX7, "layRule", "(IZ)Z"⟩
abbrev cX7_layLight : ByteArray := prog_9_method_53_code
def yX7_layLight : MethodName := ⟨RX7, "layLight", "(IJZ)Z"⟩
abbrev cX7_layLights : ByteArray := prog_9_method_54_code
def yX7_layLights : MethodName := ⟨RX7, "layLights", "()V"⟩
abbrev cX7_kindsNow : ByteArray := prog_9_method_55_code
def yX7_kindsNow : MethodName := ⟨RX7, "kindsNow", "(I)I"⟩
abbrev cX7_kinds : ByteArray := prog_9_method_56_code
def yX7_kinds : MethodName := ⟨RX7, "kinds", "(I)I"⟩
abbrev cX7_lightNow : ByteArray := prog_9_method_57_code
def yX7_lightNow : MethodName := ⟨RX7, "lightNow", "(III)I"⟩
abbrev cX7_light : ByteArray := prog_9_method_58_code
def yX7_light : MethodName := ⟨RX7, "light", "(III)I"⟩
abbrev cX7_howMany : ByteArray := prog_9_method_59_code
def yX7_howMany : MethodName := ⟨RX7, "howMany", "(I)I"⟩
abbrev cX7_count : ByteArray := prog_9_method_60_code
def yX7_count : MethodName := ⟨RX7, "count", "(I)I"⟩
abbrev cX7_mix : ByteArray := prog_9_method_61_code
def yX7_mix : MethodName := ⟨RX7, "mix", "(J)V"⟩
abbrev cX7_mixOpen : ByteArray := prog_9_method_62_code
def yX7_mixOpen : MethodName := ⟨RX7, "mixOpen", "(I)V"⟩
abbrev cX7_digest : ByteArray := prog_9_method_63_code
def yX7_digest : MethodName := ⟨RX7, "digest", "()J"⟩
def RJ6 : String := "java/lang/Integer"
def TJ6 : u_T := fun k => match k with
  | _ => ("", "", "", false)
def tyJ6 : Nat → FieldType := fun k => match k with
  | _ => .int
abbrev wsJ60 : List Cond := u_ws RJ6 TJ6 0
theorem nmJ6 : ∀ a, a < 0 → ∀ b, b < 0 → a ≠ b → (TJ6 a).2.1 ≠ (TJ6 b).2.1 := by decide +kernel
theorem tyJ6_ok : ∀ k, k < 0 → parseFieldDescriptor (TJ6 k).2.2.1 = some (tyJ6 k) := by decide +kernel
abbrev cJ6_bitCount_0f7a4 : ByteArray := prog_10_method_49_code
def yJ6_bitCount_0f7a4 : MethodName := ⟨RJ6, "bitCount", "(I)I"⟩
def RJ9 : String := "java/lang/Math"
def TJ9 : u_T := fun k => match k with
  | _ => ("", "", "", false)
def tyJ9 : Nat → FieldType := fun k => match k with
  | _ => .int
abbrev wsJ90 : List Cond := u_ws RJ9 TJ9 0
theorem nmJ9 : ∀ a, a < 0 → ∀ b, b < 0 → a ≠ b → (TJ9 a).2.1 ≠ (TJ9 b).2.1 := by decide +kernel
theorem tyJ9_ok : ∀ k, k < 0 → parseFieldDescriptor (TJ9 k).2.2.1 = some (tyJ9 k) := by decide +kernel
abbrev cJ9_max_7cf53 : ByteArray := prog_11_method_65_code
def yJ9_max_7cf53 : MethodName := ⟨RJ9, "max", "(II)I"⟩
abbrev cJ9_min_7cf53 : ByteArray := prog_11_method_69_code
def yJ9_min_7cf53 : MethodName := ⟨RJ9, "min", "(II)I"⟩
abbrev cJ9_min_f86c9 : ByteArray := prog_11_method_70_code
def yJ9_min_f86c9 : MethodName := ⟨RJ9, "min", "(JJ)J"⟩
def RJ7 : String := "java/util/Arrays"
def TJ7 : u_T := fun k => match k with
  | _ => ("", "", "", false)
def tyJ7 : Nat → FieldType := fun k => match k with
  | _ => .int
abbrev wsJ70 : List Cond := u_ws RJ7 TJ7 0
theorem nmJ7 : ∀ a, a < 0 → ∀ b, b < 0 → a ≠ b → (TJ7 a).2.1 ≠ (TJ7 b).2.1 := by decide +kernel
theorem tyJ7_ok : ∀ k, k < 0 → parseFieldDescriptor (TJ7 k).2.2.1 = some (tyJ7 k) := by decide +kernel
abbrev cJ7_fill_d0a16 : ByteArray := prog_12_method_101_code
def yJ7_fill_d0a16 : MethodName := ⟨RJ7, "fill", "([JJ)V"⟩
abbrev cJ7_fill_53178 : ByteArray := prog_12_method_103_code
def yJ7_fill_53178 : MethodName := ⟨RJ7, "fill", "([II)V"⟩
def RL : String := "GrownGraphsLaw"
abbrev cL_law : ByteArray := code
def yL_law : MethodName := ⟨RL, "law", "([I)Z"⟩
abbrev vwCl : List vw_C := [(RX0, TX0, 5), (RX1, TX1, 5), (RX2, TX2, 2), (RX3, TX3, 2), (RX4, TX4, 5), (RX5, TX5, 2), (RX6, TX6, 10), (RX7, TX7, 27)]
end
section
/-! the words that every contract of ours carries: the good ones of the tables, in one list -/
def gT : List Cond := lw_tbl.filter goodWord
theorem gT_of {w : Cond} (h : w ∈ lw_tbl) (g : goodWord w = true) : w ∈ gT := List.mem_filter.mpr ⟨h, g⟩
theorem gT_tab {w : Cond} (h : w ∈ tables_1) (g : goodWord w = true) : w ∈ gT := gT_of (List.mem_append_right _ h) g
theorem gT_sel {w : Cond} (h : w ∈ k2_sels lw_privs) (g : goodWord w = true) : w ∈ gT := gT_of (List.mem_append_left _ h) g
theorem gT_good {w : Cond} (h : w ∈ gT) : w ∈ gT ∧ ((w.onTables && w.keeps) = true ∨ ∃ ty, w = .arrayClass ty) := ⟨h, good_of_word (List.mem_filter.mp h).2⟩
end
section
theorem sub_1 {w : Cond} (h : w ∈ tables_1_1) : w ∈ tables_1 := List.mem_append_left _ h
theorem sub_2 {w : Cond} (h : w ∈ tables_1_2) : w ∈ tables_1 := List.mem_append_right _ (List.mem_append_left _ h)
theorem sub_3 {w : Cond} (h : w ∈ tables_1_3) : w ∈ tables_1 := List.mem_append_right _ (List.mem_append_right _ (List.mem_append_left _ h))
theorem sub_4 {w : Cond} (h : w ∈ tables_1_4) : w ∈ tables_1 := List.mem_append_right _ (List.mem_append_right _ (List.mem_append_right _ (h)))
def wc_1 : List Cond := [Cond.initialized RL, Cond.initialized RX6, Cond.initialized RX3, Cond.initialized RX5, Cond.initialized RX4, Cond.initialized RX0, Cond.initialized RX2, Cond.initialized RX1, Cond.initialized RX7, Cond.initialized RJ9, Cond.initialized RJ7, Cond.initialized RJ6, Cond.classLink RL 7 RX6, Cond.instantiable RX6 10, Cond.methodLink RL 9 yX6_init, Cond.instanceMethod yX6_init, Cond.code yX6_init cX6_init 1 none, Cond.methodLink RX6 1 objectInit, Cond.instanceMethod objectInit, Cond.code objectInit ⟨#[0xb1]⟩ 1 none, Cond.classLink RX6 7 RX3, Cond.instantiable RX3 2, Cond.instanceMethod yX3_init]
theorem wk_1 : ∀ w ∈ wc_1, w ∈ gT := fun w h => by
  have hp : wc_1 = ([0, 1, 2, 3, 4, 5, 6, 7, 8, 9, 10, 11, 12, 13, 14, 15, 16, 17, 18, 19, 20, 21, 23] : List Nat).filterMap (fun i => ((tables_1_1.drop 0).take 24)[i]?) := by decide +kernel
  have hg : wc_1.all goodWord = true := by decide +kernel
  have h2 := h
  rw [hp] at h2
  obtain ⟨i, -, hi⟩ := List.mem_filterMap.mp h2
  exact gT_tab (sub_1 (List.mem_of_mem_drop (List.mem_of_mem_take (List.mem_of_getElem? hi)))) (List.all_eq_true.mp hg w h)
theorem t_0 : Cond.initialized RL ∈ gT := wk_1 _ (List.mem_of_getElem? (i := 0) rfl)
theorem t_1 : Cond.initialized RX6 ∈ gT := wk_1 _ (List.mem_of_getElem? (i := 1) rfl)
theorem t_2 : Cond.initialized RX3 ∈ gT := wk_1 _ (List.mem_of_getElem? (i := 2) rfl)
theorem t_3 : Cond.initialized RX5 ∈ gT := wk_1 _ (List.mem_of_getElem? (i := 3) rfl)
theorem t_4 : Cond.initialized RX4 ∈ gT := wk_1 _ (List.mem_of_getElem? (i := 4) rfl)
theorem t_5 : Cond.initialized RX0 ∈ gT := wk_1 _ (List.mem_of_getElem? (i := 5) rfl)
theorem t_6 : Cond.initialized RX2 ∈ gT := wk_1 _ (List.mem_of_getElem? (i := 6) rfl)
theorem t_7 : Cond.initialized RX1 ∈ gT := wk_1 _ (List.mem_of_getElem? (i := 7) rfl)
theorem t_8 : Cond.initialized RX7 ∈ gT := wk_1 _ (List.mem_of_getElem? (i := 8) rfl)
theorem t_9 : Cond.initialized RJ9 ∈ gT := wk_1 _ (List.mem_of_getElem? (i := 9) rfl)
theorem t_10 : Cond.initialized RJ7 ∈ gT := wk_1 _ (List.mem_of_getElem? (i := 10) rfl)
theorem t_11 : Cond.initialized RJ6 ∈ gT := wk_1 _ (List.mem_of_getElem? (i := 11) rfl)
theorem t_12 : Cond.classLink RL 7 RX6 ∈ gT := wk_1 _ (List.mem_of_getElem? (i := 12) rfl)
theorem t_13 : Cond.instantiable RX6 10 ∈ gT := wk_1 _ (List.mem_of_getElem? (i := 13) rfl)
theorem t_14 : Cond.methodLink RL 9 yX6_init ∈ gT := wk_1 _ (List.mem_of_getElem? (i := 14) rfl)
theorem t_15 : Cond.instanceMethod yX6_init ∈ gT := wk_1 _ (List.mem_of_getElem? (i := 15) rfl)
theorem t_16 : Cond.code yX6_init cX6_init 1 none ∈ gT := wk_1 _ (List.mem_of_getElem? (i := 16) rfl)
theorem t_17 : Cond.methodLink RX6 1 objectInit ∈ gT := wk_1 _ (List.mem_of_getElem? (i := 17) rfl)
theorem t_18 : Cond.instanceMethod objectInit ∈ gT := wk_1 _ (List.mem_of_getElem? (i := 18) rfl)
theorem t_19 : Cond.code objectInit ⟨#[0xb1]⟩ 1 none ∈ gT := wk_1 _ (List.mem_of_getElem? (i := 19) rfl)
theorem t_20 : Cond.classLink RX6 7 RX3 ∈ gT := wk_1 _ (List.mem_of_getElem? (i := 20) rfl)
theorem t_21 : Cond.instantiable RX3 2 ∈ gT := wk_1 _ (List.mem_of_getElem? (i := 21) rfl)
theorem t_23 : Cond.instanceMethod yX3_init ∈ gT := wk_1 _ (List.mem_of_getElem? (i := 22) rfl)
def wc_2 : List Cond := [Cond.code yX3_init cX3_init 1 none, Cond.methodLink RX3 3 objectInit, Cond.fieldLink RX3 9 "GrownGraphs$Page" "codes" "[I", Cond.fieldLink RX6 198 "GrownGraphs$Page" "codes" "[I", Cond.fieldLink RX3 15 "GrownGraphs$Page" "size" "I", Cond.fieldLink RX6 63 "GrownGraphs$Page" "size" "I", Cond.arrayClass .int, Cond.classLink RX6 16 RX5, Cond.instantiable RX5 2, Cond.methodLink RX6 18 yX5_init, Cond.instanceMethod yX5_init, Cond.code yX5_init cX5_init 2 none, Cond.methodLink RX5 3 objectInit, Cond.classLink RX5 9 RX4, Cond.instantiable RX4 5, Cond.instanceMethod yX4_init, Cond.code yX4_init cX4_init 1 none]
theorem wk_2 : ∀ w ∈ wc_2, w ∈ gT := fun w h => by
  have hp : wc_2 = ([0, 1, 2, 3, 4, 5, 11, 12, 13, 14, 15, 16, 17, 18, 20, 22, 23] : List Nat).filterMap (fun i => ((tables_1_1.drop 24).take 24)[i]?) := by decide +kernel
  have hg : wc_2.all goodWord = true := by decide +kernel
  have h2 := h
  rw [hp] at h2
  obtain ⟨i, -, hi⟩ := List.mem_filterMap.mp h2
  exact gT_tab (sub_1 (List.mem_of_mem_drop (List.mem_of_mem_take (List.mem_of_getElem? hi)))) (List.all_eq_true.mp hg w h)
theorem t_24 : Cond.code yX3_init cX3_init 1 none ∈ gT := wk_2 _ (List.mem_of_getElem? (i := 0) rfl)
theorem t_25 : Cond.methodLink RX3 3 objectInit ∈ gT := wk_2 _ (List.mem_of_getElem? (i := 1) rfl)
theorem t_26 : Cond.fieldLink RX3 9 "GrownGraphs$Page" "codes" "[I" ∈ gT := wk_2 _ (List.mem_of_getElem? (i := 2) rfl)
theorem t_27 : Cond.fieldLink RX6 198 "GrownGraphs$Page" "codes" "[I" ∈ gT := wk_2 _ (List.mem_of_getElem? (i := 3) rfl)
theorem t_28 : Cond.fieldLink RX3 15 "GrownGraphs$Page" "size" "I" ∈ gT := wk_2 _ (List.mem_of_getElem? (i := 4) rfl)
theorem t_29 : Cond.fieldLink RX6 63 "GrownGraphs$Page" "size" "I" ∈ gT := wk_2 _ (List.mem_of_getElem? (i := 5) rfl)
theorem t_35 : Cond.arrayClass .int ∈ gT := wk_2 _ (List.mem_of_getElem? (i := 6) rfl)
theorem t_36 : Cond.classLink RX6 16 RX5 ∈ gT := wk_2 _ (List.mem_of_getElem? (i := 7) rfl)
theorem t_37 : Cond.instantiable RX5 2 ∈ gT := wk_2 _ (List.mem_of_getElem? (i := 8) rfl)
theorem t_38 : Cond.methodLink RX6 18 yX5_init ∈ gT := wk_2 _ (List.mem_of_getElem? (i := 9) rfl)
theorem t_39 : Cond.instanceMethod yX5_init ∈ gT := wk_2 _ (List.mem_of_getElem? (i := 10) rfl)
theorem t_40 : Cond.code yX5_init cX5_init 2 none ∈ gT := wk_2 _ (List.mem_of_getElem? (i := 11) rfl)
theorem t_41 : Cond.methodLink RX5 3 objectInit ∈ gT := wk_2 _ (List.mem_of_getElem? (i := 12) rfl)
theorem t_42 : Cond.classLink RX5 9 RX4 ∈ gT := wk_2 _ (List.mem_of_getElem? (i := 13) rfl)
theorem t_44 : Cond.instantiable RX4 5 ∈ gT := wk_2 _ (List.mem_of_getElem? (i := 14) rfl)
theorem t_46 : Cond.instanceMethod yX4_init ∈ gT := wk_2 _ (List.mem_of_getElem? (i := 15) rfl)
theorem t_47 : Cond.code yX4_init cX4_init 1 none ∈ gT := wk_2 _ (List.mem_of_getElem? (i := 16) rfl)
def wc_3 : List Cond := [Cond.methodLink RX4 3 objectInit, Cond.classLink RX4 15 RX0, Cond.instantiable RX0 5, Cond.methodLink RX4 17 yX0_init, Cond.instanceMethod yX0_init, Cond.code yX0_init cX0_init 2 none, Cond.methodLink RX0 3 objectInit, Cond.fieldLink RX0 18 "GrownGraphs$Figure" "letters" "[I", Cond.fieldLink RX4 48 "GrownGraphs$Figure" "letters" "[I", Cond.fieldLink RX6 132 "GrownGraphs$Figure" "letters" "[I", Cond.fieldLink RX0 22 "GrownGraphs$Figure" "from" "[I", Cond.fieldLink RX2 96 "GrownGraphs$Figure" "from" "[I", Cond.fieldLink RX0 25 "GrownGraphs$Figure" "to" "[I", Cond.fieldLink RX2 99 "GrownGraphs$Figure" "to" "[I", Cond.fieldLink RX0 9 "GrownGraphs$Figure" "size" "I", Cond.fieldLink RX2 18 "GrownGraphs$Figure" "size" "I", Cond.fieldLink RX6 102 "GrownGraphs$Figure" "size" "I", Cond.fieldLink RX0 15 "GrownGraphs$Figure" "nodes" "I", Cond.fieldLink RX2 35 "GrownGraphs$Figure" "nodes" "I", Cond.fieldLink RX6 115 "GrownGraphs$Figure" "nodes" "I"]
theorem wk_3 : ∀ w ∈ wc_3, w ∈ gT := fun w h => by
  have hp : wc_3 = ([0, 1, 2, 3, 4, 5, 6, 7, 8, 9, 10, 11, 12, 13, 14, 15, 16, 17, 18, 19] : List Nat).filterMap (fun i => ((tables_1_1.drop 48).take 24)[i]?) := by decide +kernel
  have hg : wc_3.all goodWord = true := by decide +kernel
  have h2 := h
  rw [hp] at h2
  obtain ⟨i, -, hi⟩ := List.mem_filterMap.mp h2
  exact gT_tab (sub_1 (List.mem_of_mem_drop (List.mem_of_mem_take (List.mem_of_getElem? hi)))) (List.all_eq_true.mp hg w h)
theorem t_48 : Cond.methodLink RX4 3 objectInit ∈ gT := wk_3 _ (List.mem_of_getElem? (i := 0) rfl)
theorem t_49 : Cond.classLink RX4 15 RX0 ∈ gT := wk_3 _ (List.mem_of_getElem? (i := 1) rfl)
theorem t_50 : Cond.instantiable RX0 5 ∈ gT := wk_3 _ (List.mem_of_getElem? (i := 2) rfl)
theorem t_51 : Cond.methodLink RX4 17 yX0_init ∈ gT := wk_3 _ (List.mem_of_getElem? (i := 3) rfl)
theorem t_52 : Cond.instanceMethod yX0_init ∈ gT := wk_3 _ (List.mem_of_getElem? (i := 4) rfl)
theorem t_53 : Cond.code yX0_init cX0_init 2 none ∈ gT := wk_3 _ (List.mem_of_getElem? (i := 5) rfl)
theorem t_54 : Cond.methodLink RX0 3 objectInit ∈ gT := wk_3 _ (List.mem_of_getElem? (i := 6) rfl)
theorem t_55 : Cond.fieldLink RX0 18 "GrownGraphs$Figure" "letters" "[I" ∈ gT := wk_3 _ (List.mem_of_getElem? (i := 7) rfl)
theorem t_56 : Cond.fieldLink RX4 48 "GrownGraphs$Figure" "letters" "[I" ∈ gT := wk_3 _ (List.mem_of_getElem? (i := 8) rfl)
theorem t_57 : Cond.fieldLink RX6 132 "GrownGraphs$Figure" "letters" "[I" ∈ gT := wk_3 _ (List.mem_of_getElem? (i := 9) rfl)
theorem t_58 : Cond.fieldLink RX0 22 "GrownGraphs$Figure" "from" "[I" ∈ gT := wk_3 _ (List.mem_of_getElem? (i := 10) rfl)
theorem t_59 : Cond.fieldLink RX2 96 "GrownGraphs$Figure" "from" "[I" ∈ gT := wk_3 _ (List.mem_of_getElem? (i := 11) rfl)
theorem t_60 : Cond.fieldLink RX0 25 "GrownGraphs$Figure" "to" "[I" ∈ gT := wk_3 _ (List.mem_of_getElem? (i := 12) rfl)
theorem t_61 : Cond.fieldLink RX2 99 "GrownGraphs$Figure" "to" "[I" ∈ gT := wk_3 _ (List.mem_of_getElem? (i := 13) rfl)
theorem t_62 : Cond.fieldLink RX0 9 "GrownGraphs$Figure" "size" "I" ∈ gT := wk_3 _ (List.mem_of_getElem? (i := 14) rfl)
theorem t_63 : Cond.fieldLink RX2 18 "GrownGraphs$Figure" "size" "I" ∈ gT := wk_3 _ (List.mem_of_getElem? (i := 15) rfl)
theorem t_64 : Cond.fieldLink RX6 102 "GrownGraphs$Figure" "size" "I" ∈ gT := wk_3 _ (List.mem_of_getElem? (i := 16) rfl)
theorem t_65 : Cond.fieldLink RX0 15 "GrownGraphs$Figure" "nodes" "I" ∈ gT := wk_3 _ (List.mem_of_getElem? (i := 17) rfl)
theorem t_66 : Cond.fieldLink RX2 35 "GrownGraphs$Figure" "nodes" "I" ∈ gT := wk_3 _ (List.mem_of_getElem? (i := 18) rfl)
theorem t_67 : Cond.fieldLink RX6 115 "GrownGraphs$Figure" "nodes" "I" ∈ gT := wk_3 _ (List.mem_of_getElem? (i := 19) rfl)
def wc_4 : List Cond := [Cond.fieldLink RX4 9 "GrownGraphs$Rule" "open" "I", Cond.fieldLink RX2 65 "GrownGraphs$Rule" "open" "I", Cond.fieldLink RX6 107 "GrownGraphs$Rule" "open" "I", Cond.fieldLink RX1 102 "GrownGraphs$Rule" "open" "I", Cond.fieldLink RX4 20 "GrownGraphs$Rule" "body" "LGrownGraphs$Figure;", Cond.fieldLink RX2 59 "GrownGraphs$Rule" "body" "LGrownGraphs$Figure;", Cond.fieldLink RX6 112 "GrownGraphs$Rule" "body" "LGrownGraphs$Figure;", Cond.fieldLink RX4 24 "GrownGraphs$Rule" "slots" "[I", Cond.fieldLink RX2 93 "GrownGraphs$Rule" "slots" "[I", Cond.fieldLink RX1 83 "GrownGraphs$Rule" "slots" "[I", Cond.fieldLink RX4 28 "GrownGraphs$Rule" "ways" "[I", Cond.fieldLink RX4 31 "GrownGraphs$Rule" "hues" "[I"]
theorem wk_4 : ∀ w ∈ wc_4, w ∈ gT := fun w h => by
  have hp : wc_4 = ([7, 8, 9, 10, 11, 12, 13, 14, 15, 16, 17, 18] : List Nat).filterMap (fun i => ((tables_1_1.drop 72).take 24)[i]?) := by decide +kernel
  have hg : wc_4.all goodWord = true := by decide +kernel
  have h2 := h
  rw [hp] at h2
  obtain ⟨i, -, hi⟩ := List.mem_filterMap.mp h2
  exact gT_tab (sub_1 (List.mem_of_mem_drop (List.mem_of_mem_take (List.mem_of_getElem? hi)))) (List.all_eq_true.mp hg w h)
theorem t_79 : Cond.fieldLink RX4 9 "GrownGraphs$Rule" "open" "I" ∈ gT := wk_4 _ (List.mem_of_getElem? (i := 0) rfl)
theorem t_80 : Cond.fieldLink RX2 65 "GrownGraphs$Rule" "open" "I" ∈ gT := wk_4 _ (List.mem_of_getElem? (i := 1) rfl)
theorem t_81 : Cond.fieldLink RX6 107 "GrownGraphs$Rule" "open" "I" ∈ gT := wk_4 _ (List.mem_of_getElem? (i := 2) rfl)
theorem t_82 : Cond.fieldLink RX1 102 "GrownGraphs$Rule" "open" "I" ∈ gT := wk_4 _ (List.mem_of_getElem? (i := 3) rfl)
theorem t_83 : Cond.fieldLink RX4 20 "GrownGraphs$Rule" "body" "LGrownGraphs$Figure;" ∈ gT := wk_4 _ (List.mem_of_getElem? (i := 4) rfl)
theorem t_84 : Cond.fieldLink RX2 59 "GrownGraphs$Rule" "body" "LGrownGraphs$Figure;" ∈ gT := wk_4 _ (List.mem_of_getElem? (i := 5) rfl)
theorem t_85 : Cond.fieldLink RX6 112 "GrownGraphs$Rule" "body" "LGrownGraphs$Figure;" ∈ gT := wk_4 _ (List.mem_of_getElem? (i := 6) rfl)
theorem t_86 : Cond.fieldLink RX4 24 "GrownGraphs$Rule" "slots" "[I" ∈ gT := wk_4 _ (List.mem_of_getElem? (i := 7) rfl)
theorem t_87 : Cond.fieldLink RX2 93 "GrownGraphs$Rule" "slots" "[I" ∈ gT := wk_4 _ (List.mem_of_getElem? (i := 8) rfl)
theorem t_88 : Cond.fieldLink RX1 83 "GrownGraphs$Rule" "slots" "[I" ∈ gT := wk_4 _ (List.mem_of_getElem? (i := 9) rfl)
theorem t_89 : Cond.fieldLink RX4 28 "GrownGraphs$Rule" "ways" "[I" ∈ gT := wk_4 _ (List.mem_of_getElem? (i := 10) rfl)
theorem t_90 : Cond.fieldLink RX4 31 "GrownGraphs$Rule" "hues" "[I" ∈ gT := wk_4 _ (List.mem_of_getElem? (i := 11) rfl)
def wc_5 : List Cond := [Cond.fieldLink RX5 11 "GrownGraphs$RuleBook" "rules" "[LGrownGraphs$Rule;", Cond.fieldLink RX1 66 "GrownGraphs$RuleBook" "rules" "[LGrownGraphs$Rule;", Cond.fieldLink RX2 55 "GrownGraphs$RuleBook" "rules" "[LGrownGraphs$Rule;", Cond.fieldLink RX6 103 "GrownGraphs$RuleBook" "rules" "[LGrownGraphs$Rule;", Cond.fieldLink RX5 17 "GrownGraphs$RuleBook" "size" "I", Cond.fieldLink RX6 80 "GrownGraphs$RuleBook" "size" "I", Cond.fieldLink RX1 60 "GrownGraphs$RuleBook" "size" "I", Cond.fieldLink RX2 52 "GrownGraphs$RuleBook" "size" "I", Cond.classLink RX6 23 RX0, Cond.methodLink RX6 25 yX0_init, Cond.classLink RX6 32 RX2, Cond.instantiable RX2 2]
theorem wk_5 : ∀ w ∈ wc_5, w ∈ gT := fun w h => by
  have hp : wc_5 = ([6, 7, 8, 9, 10, 11, 12, 13, 19, 20, 21, 22] : List Nat).filterMap (fun i => ((tables_1_1.drop 96).take 24)[i]?) := by decide +kernel
  have hg : wc_5.all goodWord = true := by decide +kernel
  have h2 := h
  rw [hp] at h2
  obtain ⟨i, -, hi⟩ := List.mem_filterMap.mp h2
  exact gT_tab (sub_1 (List.mem_of_mem_drop (List.mem_of_mem_take (List.mem_of_getElem? hi)))) (List.all_eq_true.mp hg w h)
theorem t_102 : Cond.fieldLink RX5 11 "GrownGraphs$RuleBook" "rules" "[LGrownGraphs$Rule;" ∈ gT := wk_5 _ (List.mem_of_getElem? (i := 0) rfl)
theorem t_103 : Cond.fieldLink RX1 66 "GrownGraphs$RuleBook" "rules" "[LGrownGraphs$Rule;" ∈ gT := wk_5 _ (List.mem_of_getElem? (i := 1) rfl)
theorem t_104 : Cond.fieldLink RX2 55 "GrownGraphs$RuleBook" "rules" "[LGrownGraphs$Rule;" ∈ gT := wk_5 _ (List.mem_of_getElem? (i := 2) rfl)
theorem t_105 : Cond.fieldLink RX6 103 "GrownGraphs$RuleBook" "rules" "[LGrownGraphs$Rule;" ∈ gT := wk_5 _ (List.mem_of_getElem? (i := 3) rfl)
theorem t_106 : Cond.fieldLink RX5 17 "GrownGraphs$RuleBook" "size" "I" ∈ gT := wk_5 _ (List.mem_of_getElem? (i := 4) rfl)
theorem t_107 : Cond.fieldLink RX6 80 "GrownGraphs$RuleBook" "size" "I" ∈ gT := wk_5 _ (List.mem_of_getElem? (i := 5) rfl)
theorem t_108 : Cond.fieldLink RX1 60 "GrownGraphs$RuleBook" "size" "I" ∈ gT := wk_5 _ (List.mem_of_getElem? (i := 6) rfl)
theorem t_109 : Cond.fieldLink RX2 52 "GrownGraphs$RuleBook" "size" "I" ∈ gT := wk_5 _ (List.mem_of_getElem? (i := 7) rfl)
theorem t_115 : Cond.classLink RX6 23 RX0 ∈ gT := wk_5 _ (List.mem_of_getElem? (i := 8) rfl)
theorem t_116 : Cond.methodLink RX6 25 yX0_init ∈ gT := wk_5 _ (List.mem_of_getElem? (i := 9) rfl)
theorem t_117 : Cond.classLink RX6 32 RX2 ∈ gT := wk_5 _ (List.mem_of_getElem? (i := 10) rfl)
theorem t_118 : Cond.instantiable RX2 2 ∈ gT := wk_5 _ (List.mem_of_getElem? (i := 11) rfl)
def wc_6 : List Cond := [Cond.instanceMethod yX2_init, Cond.code yX2_init cX2_init 1 none, Cond.methodLink RX2 3 objectInit, Cond.fieldLink RX2 11 "GrownGraphs$Origins" "steps" "[I", Cond.fieldLink RX2 15 "GrownGraphs$Origins" "stand" "[I", Cond.classLink RX6 39 RX1, Cond.instantiable RX1 5, Cond.instanceMethod yX1_init, Cond.code yX1_init cX1_init 1 none, Cond.methodLink RX1 3 objectInit, Cond.fieldLink RX1 11 "GrownGraphs$Lights" "steps" "[J", Cond.fieldLink RX1 15 "GrownGraphs$Lights" "firsts" "[I", Cond.fieldLink RX1 19 "GrownGraphs$Lights" "settled" "[Z", Cond.fieldLink RX1 23 "GrownGraphs$Lights" "settledKinds" "[I", Cond.fieldLink RX1 26 "GrownGraphs$Lights" "settledCount" "[I"]
theorem wk_6 : ∀ w ∈ wc_6, w ∈ gT := fun w h => by
  have hp : wc_6 = ([0, 1, 2, 3, 4, 10, 11, 13, 14, 15, 16, 17, 18, 19, 20] : List Nat).filterMap (fun i => ((tables_1_1.drop 120).take 24)[i]?) := by decide +kernel
  have hg : wc_6.all goodWord = true := by decide +kernel
  have h2 := h
  rw [hp] at h2
  obtain ⟨i, -, hi⟩ := List.mem_filterMap.mp h2
  exact gT_tab (sub_1 (List.mem_of_mem_drop (List.mem_of_mem_take (List.mem_of_getElem? hi)))) (List.all_eq_true.mp hg w h)
theorem t_120 : Cond.instanceMethod yX2_init ∈ gT := wk_6 _ (List.mem_of_getElem? (i := 0) rfl)
theorem t_121 : Cond.code yX2_init cX2_init 1 none ∈ gT := wk_6 _ (List.mem_of_getElem? (i := 1) rfl)
theorem t_122 : Cond.methodLink RX2 3 objectInit ∈ gT := wk_6 _ (List.mem_of_getElem? (i := 2) rfl)
theorem t_123 : Cond.fieldLink RX2 11 "GrownGraphs$Origins" "steps" "[I" ∈ gT := wk_6 _ (List.mem_of_getElem? (i := 3) rfl)
theorem t_124 : Cond.fieldLink RX2 15 "GrownGraphs$Origins" "stand" "[I" ∈ gT := wk_6 _ (List.mem_of_getElem? (i := 4) rfl)
theorem t_130 : Cond.classLink RX6 39 RX1 ∈ gT := wk_6 _ (List.mem_of_getElem? (i := 5) rfl)
theorem t_131 : Cond.instantiable RX1 5 ∈ gT := wk_6 _ (List.mem_of_getElem? (i := 6) rfl)
theorem t_133 : Cond.instanceMethod yX1_init ∈ gT := wk_6 _ (List.mem_of_getElem? (i := 7) rfl)
theorem t_134 : Cond.code yX1_init cX1_init 1 none ∈ gT := wk_6 _ (List.mem_of_getElem? (i := 8) rfl)
theorem t_135 : Cond.methodLink RX1 3 objectInit ∈ gT := wk_6 _ (List.mem_of_getElem? (i := 9) rfl)
theorem t_136 : Cond.fieldLink RX1 11 "GrownGraphs$Lights" "steps" "[J" ∈ gT := wk_6 _ (List.mem_of_getElem? (i := 10) rfl)
theorem t_137 : Cond.fieldLink RX1 15 "GrownGraphs$Lights" "firsts" "[I" ∈ gT := wk_6 _ (List.mem_of_getElem? (i := 11) rfl)
theorem t_138 : Cond.fieldLink RX1 19 "GrownGraphs$Lights" "settled" "[Z" ∈ gT := wk_6 _ (List.mem_of_getElem? (i := 12) rfl)
theorem t_139 : Cond.fieldLink RX1 23 "GrownGraphs$Lights" "settledKinds" "[I" ∈ gT := wk_6 _ (List.mem_of_getElem? (i := 13) rfl)
theorem t_140 : Cond.fieldLink RX1 26 "GrownGraphs$Lights" "settledCount" "[I" ∈ gT := wk_6 _ (List.mem_of_getElem? (i := 14) rfl)
def wc_7 : List Cond := [Cond.arrayClass .long, Cond.arrayClass .boolean, Cond.fieldLink RX6 10 "GrownGraphs" "page" "LGrownGraphs$Page;", Cond.fieldLink RX6 19 "GrownGraphs" "book" "LGrownGraphs$RuleBook;", Cond.fieldLink RX6 28 "GrownGraphs" "figure" "LGrownGraphs$Figure;", Cond.fieldLink RX6 35 "GrownGraphs" "origins" "LGrownGraphs$Origins;", Cond.fieldLink RX6 42 "GrownGraphs" "lights" "LGrownGraphs$Lights;", Cond.fieldLink RX6 46 "GrownGraphs" "originsStand" "Z", Cond.fieldLink RX6 50 "GrownGraphs" "lightsStand" "Z", Cond.fieldLink RX6 53 "GrownGraphs" "stepsSinceBegin" "I", Cond.fieldLink RX6 57 "GrownGraphs" "stepsEver" "I", Cond.fieldLink RX6 60 "GrownGraphs" "graphsEver" "I"]
theorem wk_7 : ∀ w ∈ wc_7, w ∈ gT := fun w h => by
  have hp : wc_7 = ([8, 9, 10, 11, 12, 13, 14, 15, 16, 17, 18, 19] : List Nat).filterMap (fun i => ((tables_1_1.drop 144).take 24)[i]?) := by decide +kernel
  have hg : wc_7.all goodWord = true := by decide +kernel
  have h2 := h
  rw [hp] at h2
  obtain ⟨i, -, hi⟩ := List.mem_filterMap.mp h2
  exact gT_tab (sub_1 (List.mem_of_mem_drop (List.mem_of_mem_take (List.mem_of_getElem? hi)))) (List.all_eq_true.mp hg w h)
theorem t_152 : Cond.arrayClass .long ∈ gT := wk_7 _ (List.mem_of_getElem? (i := 0) rfl)
theorem t_153 : Cond.arrayClass .boolean ∈ gT := wk_7 _ (List.mem_of_getElem? (i := 1) rfl)
theorem t_154 : Cond.fieldLink RX6 10 "GrownGraphs" "page" "LGrownGraphs$Page;" ∈ gT := wk_7 _ (List.mem_of_getElem? (i := 2) rfl)
theorem t_155 : Cond.fieldLink RX6 19 "GrownGraphs" "book" "LGrownGraphs$RuleBook;" ∈ gT := wk_7 _ (List.mem_of_getElem? (i := 3) rfl)
theorem t_156 : Cond.fieldLink RX6 28 "GrownGraphs" "figure" "LGrownGraphs$Figure;" ∈ gT := wk_7 _ (List.mem_of_getElem? (i := 4) rfl)
theorem t_157 : Cond.fieldLink RX6 35 "GrownGraphs" "origins" "LGrownGraphs$Origins;" ∈ gT := wk_7 _ (List.mem_of_getElem? (i := 5) rfl)
theorem t_158 : Cond.fieldLink RX6 42 "GrownGraphs" "lights" "LGrownGraphs$Lights;" ∈ gT := wk_7 _ (List.mem_of_getElem? (i := 6) rfl)
theorem t_159 : Cond.fieldLink RX6 46 "GrownGraphs" "originsStand" "Z" ∈ gT := wk_7 _ (List.mem_of_getElem? (i := 7) rfl)
theorem t_160 : Cond.fieldLink RX6 50 "GrownGraphs" "lightsStand" "Z" ∈ gT := wk_7 _ (List.mem_of_getElem? (i := 8) rfl)
theorem t_161 : Cond.fieldLink RX6 53 "GrownGraphs" "stepsSinceBegin" "I" ∈ gT := wk_7 _ (List.mem_of_getElem? (i := 9) rfl)
theorem t_162 : Cond.fieldLink RX6 57 "GrownGraphs" "stepsEver" "I" ∈ gT := wk_7 _ (List.mem_of_getElem? (i := 10) rfl)
theorem t_163 : Cond.fieldLink RX6 60 "GrownGraphs" "graphsEver" "I" ∈ gT := wk_7 _ (List.mem_of_getElem? (i := 11) rfl)
def wc_8 : List Cond := [Cond.methodLink RL 13 yX6_letter, Cond.instanceMethod yX6_letter, Cond.selects RX6 yX6_letter yX6_letter, Cond.code yX6_letter cX6_letter 2 (some .int), Cond.methodLink RX6 66 yX3_write, Cond.instanceMethod yX3_write, Cond.selects RX3 yX3_write yX3_write]
theorem wk_8 : ∀ w ∈ wc_8, w ∈ gT := fun w h => by
  have hp : wc_8 = ([17, 18, 19, 20, 21, 22, 23] : List Nat).filterMap (fun i => ((tables_1_1.drop 168).take 24)[i]?) := by decide +kernel
  have hg : wc_8.all goodWord = true := by decide +kernel
  have h2 := h
  rw [hp] at h2
  obtain ⟨i, -, hi⟩ := List.mem_filterMap.mp h2
  exact gT_tab (sub_1 (List.mem_of_mem_drop (List.mem_of_mem_take (List.mem_of_getElem? hi)))) (List.all_eq_true.mp hg w h)
theorem t_185 : Cond.methodLink RL 13 yX6_letter ∈ gT := wk_8 _ (List.mem_of_getElem? (i := 0) rfl)
theorem t_186 : Cond.instanceMethod yX6_letter ∈ gT := wk_8 _ (List.mem_of_getElem? (i := 1) rfl)
theorem t_187 : Cond.selects RX6 yX6_letter yX6_letter ∈ gT := wk_8 _ (List.mem_of_getElem? (i := 2) rfl)
theorem t_188 : Cond.code yX6_letter cX6_letter 2 (some .int) ∈ gT := wk_8 _ (List.mem_of_getElem? (i := 3) rfl)
theorem t_189 : Cond.methodLink RX6 66 yX3_write ∈ gT := wk_8 _ (List.mem_of_getElem? (i := 4) rfl)
theorem t_190 : Cond.instanceMethod yX3_write ∈ gT := wk_8 _ (List.mem_of_getElem? (i := 5) rfl)
theorem t_191 : Cond.selects RX3 yX3_write yX3_write ∈ gT := wk_8 _ (List.mem_of_getElem? (i := 6) rfl)
def wc_9 : List Cond := [Cond.code yX3_write cX3_write 2 none, Cond.methodLink RL 18 yX6_blank, Cond.instanceMethod yX6_blank, Cond.selects RX6 yX6_blank yX6_blank, Cond.code yX6_blank cX6_blank 2 (some .int), Cond.methodLink RX6 69 yX3_clear, Cond.instanceMethod yX3_clear, Cond.selects RX3 yX3_clear yX3_clear, Cond.code yX3_clear cX3_clear 1 none, Cond.methodLink RL 23 yX6_fault, Cond.instanceMethod yX6_fault, Cond.selects RX6 yX6_fault yX6_fault, Cond.code yX6_fault cX6_fault 2 (some .int), Cond.methodLink RX6 72 yX3_firstFault, Cond.instanceMethod yX3_firstFault, Cond.selects RX3 yX3_firstFault yX3_firstFault, Cond.code yX3_firstFault cX3_firstFault 6 (some .int), Cond.methodLink RX3 19 yX3_fitsHead, Cond.instanceMethod yX3_fitsHead, Cond.code yX3_fitsHead cX3_fitsHead 2 (some .boolean), Cond.methodLink RX3 27 yX3_letterOf, Cond.static yX3_letterOf, Cond.code yX3_letterOf cX3_letterOf 1 (some .int)]
theorem wk_9 : ∀ w ∈ wc_9, w ∈ gT := fun w h => by
  have hp : wc_9 = ([0, 1, 2, 3, 4, 5, 6, 7, 8, 9, 10, 11, 12, 13, 14, 15, 16, 17, 19, 20, 21, 22, 23] : List Nat).filterMap (fun i => ((tables_1_1.drop 192).take 24)[i]?) := by decide +kernel
  have hg : wc_9.all goodWord = true := by decide +kernel
  have h2 := h
  rw [hp] at h2
  obtain ⟨i, -, hi⟩ := List.mem_filterMap.mp h2
  exact gT_tab (sub_1 (List.mem_of_mem_drop (List.mem_of_mem_take (List.mem_of_getElem? hi)))) (List.all_eq_true.mp hg w h)
theorem t_192 : Cond.code yX3_write cX3_write 2 none ∈ gT := wk_9 _ (List.mem_of_getElem? (i := 0) rfl)
theorem t_193 : Cond.methodLink RL 18 yX6_blank ∈ gT := wk_9 _ (List.mem_of_getElem? (i := 1) rfl)
theorem t_194 : Cond.instanceMethod yX6_blank ∈ gT := wk_9 _ (List.mem_of_getElem? (i := 2) rfl)
theorem t_195 : Cond.selects RX6 yX6_blank yX6_blank ∈ gT := wk_9 _ (List.mem_of_getElem? (i := 3) rfl)
theorem t_196 : Cond.code yX6_blank cX6_blank 2 (some .int) ∈ gT := wk_9 _ (List.mem_of_getElem? (i := 4) rfl)
theorem t_197 : Cond.methodLink RX6 69 yX3_clear ∈ gT := wk_9 _ (List.mem_of_getElem? (i := 5) rfl)
theorem t_198 : Cond.instanceMethod yX3_clear ∈ gT := wk_9 _ (List.mem_of_getElem? (i := 6) rfl)
theorem t_199 : Cond.selects RX3 yX3_clear yX3_clear ∈ gT := wk_9 _ (List.mem_of_getElem? (i := 7) rfl)
theorem t_200 : Cond.code yX3_clear cX3_clear 1 none ∈ gT := wk_9 _ (List.mem_of_getElem? (i := 8) rfl)
theorem t_201 : Cond.methodLink RL 23 yX6_fault ∈ gT := wk_9 _ (List.mem_of_getElem? (i := 9) rfl)
theorem t_202 : Cond.instanceMethod yX6_fault ∈ gT := wk_9 _ (List.mem_of_getElem? (i := 10) rfl)
theorem t_203 : Cond.selects RX6 yX6_fault yX6_fault ∈ gT := wk_9 _ (List.mem_of_getElem? (i := 11) rfl)
theorem t_204 : Cond.code yX6_fault cX6_fault 2 (some .int) ∈ gT := wk_9 _ (List.mem_of_getElem? (i := 12) rfl)
theorem t_205 : Cond.methodLink RX6 72 yX3_firstFault ∈ gT := wk_9 _ (List.mem_of_getElem? (i := 13) rfl)
theorem t_206 : Cond.instanceMethod yX3_firstFault ∈ gT := wk_9 _ (List.mem_of_getElem? (i := 14) rfl)
theorem t_207 : Cond.selects RX3 yX3_firstFault yX3_firstFault ∈ gT := wk_9 _ (List.mem_of_getElem? (i := 15) rfl)
theorem t_208 : Cond.code yX3_firstFault cX3_firstFault 6 (some .int) ∈ gT := wk_9 _ (List.mem_of_getElem? (i := 16) rfl)
theorem t_209 : Cond.methodLink RX3 19 yX3_fitsHead ∈ gT := wk_9 _ (List.mem_of_getElem? (i := 17) rfl)
theorem t_211 : Cond.instanceMethod yX3_fitsHead ∈ gT := wk_9 _ (List.mem_of_getElem? (i := 18) rfl)
theorem t_212 : Cond.code yX3_fitsHead cX3_fitsHead 2 (some .boolean) ∈ gT := wk_9 _ (List.mem_of_getElem? (i := 19) rfl)
theorem t_213 : Cond.methodLink RX3 27 yX3_letterOf ∈ gT := wk_9 _ (List.mem_of_getElem? (i := 20) rfl)
theorem t_214 : Cond.static yX3_letterOf ∈ gT := wk_9 _ (List.mem_of_getElem? (i := 21) rfl)
theorem t_215 : Cond.code yX3_letterOf cX3_letterOf 1 (some .int) ∈ gT := wk_9 _ (List.mem_of_getElem? (i := 22) rfl)
def wc_10 : List Cond := [Cond.static yX6_isOpen, Cond.code yX6_isOpen cX6_isOpen 1 (some .boolean), Cond.methodLink RX3 23 yX3_fitsEdge, Cond.instanceMethod yX3_fitsEdge, Cond.code yX3_fitsEdge cX3_fitsEdge 6 (some .boolean), Cond.methodLink RL 28 yX6_rule, Cond.instanceMethod yX6_rule, Cond.selects RX6 yX6_rule yX6_rule, Cond.code yX6_rule cX6_rule 1 (some .int), Cond.methodLink RX6 76 yX3_isRule, Cond.instanceMethod yX3_isRule, Cond.selects RX3 yX3_isRule yX3_isRule, Cond.code yX3_isRule cX3_isRule 1 (some .boolean), Cond.methodLink RX3 34 yX3_isWhole, Cond.instanceMethod yX3_isWhole, Cond.code yX3_isWhole cX3_isWhole 2 (some .boolean), Cond.methodLink RX3 37 yX3_firstFault, Cond.methodLink RX3 41 yX3_names, Cond.instanceMethod yX3_names, Cond.code yX3_names cX3_names 3 (some .boolean)]
theorem wk_10 : ∀ w ∈ wc_10, w ∈ gT := fun w h => by
  have hp : wc_10 = ([1, 2, 3, 5, 6, 7, 8, 9, 10, 11, 12, 13, 14, 15, 17, 18, 19, 20, 22, 23] : List Nat).filterMap (fun i => ((tables_1_1.drop 216).take 24)[i]?) := by decide +kernel
  have hg : wc_10.all goodWord = true := by decide +kernel
  have h2 := h
  rw [hp] at h2
  obtain ⟨i, -, hi⟩ := List.mem_filterMap.mp h2
  exact gT_tab (sub_1 (List.mem_of_mem_drop (List.mem_of_mem_take (List.mem_of_getElem? hi)))) (List.all_eq_true.mp hg w h)
theorem t_217 : Cond.static yX6_isOpen ∈ gT := wk_10 _ (List.mem_of_getElem? (i := 0) rfl)
theorem t_218 : Cond.code yX6_isOpen cX6_isOpen 1 (some .boolean) ∈ gT := wk_10 _ (List.mem_of_getElem? (i := 1) rfl)
theorem t_219 : Cond.methodLink RX3 23 yX3_fitsEdge ∈ gT := wk_10 _ (List.mem_of_getElem? (i := 2) rfl)
theorem t_221 : Cond.instanceMethod yX3_fitsEdge ∈ gT := wk_10 _ (List.mem_of_getElem? (i := 3) rfl)
theorem t_222 : Cond.code yX3_fitsEdge cX3_fitsEdge 6 (some .boolean) ∈ gT := wk_10 _ (List.mem_of_getElem? (i := 4) rfl)
theorem t_223 : Cond.methodLink RL 28 yX6_rule ∈ gT := wk_10 _ (List.mem_of_getElem? (i := 5) rfl)
theorem t_224 : Cond.instanceMethod yX6_rule ∈ gT := wk_10 _ (List.mem_of_getElem? (i := 6) rfl)
theorem t_225 : Cond.selects RX6 yX6_rule yX6_rule ∈ gT := wk_10 _ (List.mem_of_getElem? (i := 7) rfl)
theorem t_226 : Cond.code yX6_rule cX6_rule 1 (some .int) ∈ gT := wk_10 _ (List.mem_of_getElem? (i := 8) rfl)
theorem t_227 : Cond.methodLink RX6 76 yX3_isRule ∈ gT := wk_10 _ (List.mem_of_getElem? (i := 9) rfl)
theorem t_228 : Cond.instanceMethod yX3_isRule ∈ gT := wk_10 _ (List.mem_of_getElem? (i := 10) rfl)
theorem t_229 : Cond.selects RX3 yX3_isRule yX3_isRule ∈ gT := wk_10 _ (List.mem_of_getElem? (i := 11) rfl)
theorem t_230 : Cond.code yX3_isRule cX3_isRule 1 (some .boolean) ∈ gT := wk_10 _ (List.mem_of_getElem? (i := 12) rfl)
theorem t_231 : Cond.methodLink RX3 34 yX3_isWhole ∈ gT := wk_10 _ (List.mem_of_getElem? (i := 13) rfl)
theorem t_233 : Cond.instanceMethod yX3_isWhole ∈ gT := wk_10 _ (List.mem_of_getElem? (i := 14) rfl)
theorem t_234 : Cond.code yX3_isWhole cX3_isWhole 2 (some .boolean) ∈ gT := wk_10 _ (List.mem_of_getElem? (i := 15) rfl)
theorem t_235 : Cond.methodLink RX3 37 yX3_firstFault ∈ gT := wk_10 _ (List.mem_of_getElem? (i := 16) rfl)
theorem t_236 : Cond.methodLink RX3 41 yX3_names ∈ gT := wk_10 _ (List.mem_of_getElem? (i := 17) rfl)
theorem t_238 : Cond.instanceMethod yX3_names ∈ gT := wk_10 _ (List.mem_of_getElem? (i := 18) rfl)
theorem t_239 : Cond.code yX3_names cX3_names 3 (some .boolean) ∈ gT := wk_10 _ (List.mem_of_getElem? (i := 19) rfl)
def wc_11 : List Cond := [Cond.methodLink RX3 44 yX3_namesNoGap, Cond.instanceMethod yX3_namesNoGap, Cond.code yX3_namesNoGap cX3_namesNoGap 2 (some .boolean), Cond.methodLink RX6 81 yX5_add, Cond.instanceMethod yX5_add, Cond.selects RX5 yX5_add yX5_add, Cond.code yX5_add cX5_add 2 none, Cond.methodLink RX5 22 yX4_read, Cond.instanceMethod yX4_read, Cond.selects RX4 yX4_read yX4_read, Cond.code yX4_read cX4_read 3 none, Cond.methodLink RX4 34 yX3_openLetter, Cond.instanceMethod yX3_openLetter, Cond.selects RX3 yX3_openLetter yX3_openLetter, Cond.code yX3_openLetter cX3_openLetter 1 (some .int), Cond.methodLink RX3 48 yJ9_max_7cf53, Cond.static yJ9_max_7cf53, Cond.code yJ9_max_7cf53 cJ9_max_7cf53 2 (some .int), Cond.methodLink RX4 40 yX3_copyRule, Cond.instanceMethod yX3_copyRule, Cond.selects RX3 yX3_copyRule yX3_copyRule, Cond.code yX3_copyRule cX3_copyRule 2 none, Cond.methodLink RX3 54 yX3_copyEdges]
theorem wk_11 : ∀ w ∈ wc_11, w ∈ gT := fun w h => by
  have hp : wc_11 = ([0, 2, 3, 4, 5, 6, 7, 8, 9, 10, 11, 12, 13, 14, 15, 16, 17, 18, 19, 20, 21, 22, 23] : List Nat).filterMap (fun i => ((tables_1_2.drop 0).take 24)[i]?) := by decide +kernel
  have hg : wc_11.all goodWord = true := by decide +kernel
  have h2 := h
  rw [hp] at h2
  obtain ⟨i, -, hi⟩ := List.mem_filterMap.mp h2
  exact gT_tab (sub_2 (List.mem_of_mem_drop (List.mem_of_mem_take (List.mem_of_getElem? hi)))) (List.all_eq_true.mp hg w h)
theorem t_240 : Cond.methodLink RX3 44 yX3_namesNoGap ∈ gT := wk_11 _ (List.mem_of_getElem? (i := 0) rfl)
theorem t_242 : Cond.instanceMethod yX3_namesNoGap ∈ gT := wk_11 _ (List.mem_of_getElem? (i := 1) rfl)
theorem t_243 : Cond.code yX3_namesNoGap cX3_namesNoGap 2 (some .boolean) ∈ gT := wk_11 _ (List.mem_of_getElem? (i := 2) rfl)
theorem t_244 : Cond.methodLink RX6 81 yX5_add ∈ gT := wk_11 _ (List.mem_of_getElem? (i := 3) rfl)
theorem t_245 : Cond.instanceMethod yX5_add ∈ gT := wk_11 _ (List.mem_of_getElem? (i := 4) rfl)
theorem t_246 : Cond.selects RX5 yX5_add yX5_add ∈ gT := wk_11 _ (List.mem_of_getElem? (i := 5) rfl)
theorem t_247 : Cond.code yX5_add cX5_add 2 none ∈ gT := wk_11 _ (List.mem_of_getElem? (i := 6) rfl)
theorem t_248 : Cond.methodLink RX5 22 yX4_read ∈ gT := wk_11 _ (List.mem_of_getElem? (i := 7) rfl)
theorem t_249 : Cond.instanceMethod yX4_read ∈ gT := wk_11 _ (List.mem_of_getElem? (i := 8) rfl)
theorem t_250 : Cond.selects RX4 yX4_read yX4_read ∈ gT := wk_11 _ (List.mem_of_getElem? (i := 9) rfl)
theorem t_251 : Cond.code yX4_read cX4_read 3 none ∈ gT := wk_11 _ (List.mem_of_getElem? (i := 10) rfl)
theorem t_252 : Cond.methodLink RX4 34 yX3_openLetter ∈ gT := wk_11 _ (List.mem_of_getElem? (i := 11) rfl)
theorem t_253 : Cond.instanceMethod yX3_openLetter ∈ gT := wk_11 _ (List.mem_of_getElem? (i := 12) rfl)
theorem t_254 : Cond.selects RX3 yX3_openLetter yX3_openLetter ∈ gT := wk_11 _ (List.mem_of_getElem? (i := 13) rfl)
theorem t_255 : Cond.code yX3_openLetter cX3_openLetter 1 (some .int) ∈ gT := wk_11 _ (List.mem_of_getElem? (i := 14) rfl)
theorem t_256 : Cond.methodLink RX3 48 yJ9_max_7cf53 ∈ gT := wk_11 _ (List.mem_of_getElem? (i := 15) rfl)
theorem t_257 : Cond.static yJ9_max_7cf53 ∈ gT := wk_11 _ (List.mem_of_getElem? (i := 16) rfl)
theorem t_258 : Cond.code yJ9_max_7cf53 cJ9_max_7cf53 2 (some .int) ∈ gT := wk_11 _ (List.mem_of_getElem? (i := 17) rfl)
theorem t_259 : Cond.methodLink RX4 40 yX3_copyRule ∈ gT := wk_11 _ (List.mem_of_getElem? (i := 18) rfl)
theorem t_260 : Cond.instanceMethod yX3_copyRule ∈ gT := wk_11 _ (List.mem_of_getElem? (i := 19) rfl)
theorem t_261 : Cond.selects RX3 yX3_copyRule yX3_copyRule ∈ gT := wk_11 _ (List.mem_of_getElem? (i := 20) rfl)
theorem t_262 : Cond.code yX3_copyRule cX3_copyRule 2 none ∈ gT := wk_11 _ (List.mem_of_getElem? (i := 21) rfl)
theorem t_263 : Cond.methodLink RX3 54 yX3_copyEdges ∈ gT := wk_11 _ (List.mem_of_getElem? (i := 22) rfl)
def wc_12 : List Cond := [Cond.instanceMethod yX3_copyEdges, Cond.code yX3_copyEdges cX3_copyEdges 5 none, Cond.methodLink RX3 58 yX0_clear, Cond.instanceMethod yX0_clear, Cond.selects RX0 yX0_clear yX0_clear, Cond.code yX0_clear cX0_clear 2 none, Cond.methodLink RX3 64 yX0_append, Cond.instanceMethod yX0_append, Cond.selects RX0 yX0_append yX0_append, Cond.code yX0_append cX0_append 4 none, Cond.methodLink RX0 28 yX0_put, Cond.instanceMethod yX0_put, Cond.code yX0_put cX0_put 5 none, Cond.methodLink RX4 44 yX0_has, Cond.instanceMethod yX0_has, Cond.selects RX0 yX0_has yX0_has, Cond.code yX0_has cX0_has 2 (some .boolean), Cond.methodLink RX4 51 yX0_waysOf, Cond.instanceMethod yX0_waysOf, Cond.selects RX0 yX0_waysOf yX0_waysOf, Cond.code yX0_waysOf cX0_waysOf 2 (some .int), Cond.methodLink RX0 57 yX0_comes]
theorem wk_12 : ∀ w ∈ wc_12, w ∈ gT := fun w h => by
  have hp : wc_12 = ([1, 2, 3, 4, 5, 6, 7, 8, 9, 10, 11, 13, 14, 15, 16, 17, 18, 19, 20, 21, 22, 23] : List Nat).filterMap (fun i => ((tables_1_2.drop 24).take 24)[i]?) := by decide +kernel
  have hg : wc_12.all goodWord = true := by decide +kernel
  have h2 := h
  rw [hp] at h2
  obtain ⟨i, -, hi⟩ := List.mem_filterMap.mp h2
  exact gT_tab (sub_2 (List.mem_of_mem_drop (List.mem_of_mem_take (List.mem_of_getElem? hi)))) (List.all_eq_true.mp hg w h)
theorem t_265 : Cond.instanceMethod yX3_copyEdges ∈ gT := wk_12 _ (List.mem_of_getElem? (i := 0) rfl)
theorem t_266 : Cond.code yX3_copyEdges cX3_copyEdges 5 none ∈ gT := wk_12 _ (List.mem_of_getElem? (i := 1) rfl)
theorem t_267 : Cond.methodLink RX3 58 yX0_clear ∈ gT := wk_12 _ (List.mem_of_getElem? (i := 2) rfl)
theorem t_268 : Cond.instanceMethod yX0_clear ∈ gT := wk_12 _ (List.mem_of_getElem? (i := 3) rfl)
theorem t_269 : Cond.selects RX0 yX0_clear yX0_clear ∈ gT := wk_12 _ (List.mem_of_getElem? (i := 4) rfl)
theorem t_270 : Cond.code yX0_clear cX0_clear 2 none ∈ gT := wk_12 _ (List.mem_of_getElem? (i := 5) rfl)
theorem t_271 : Cond.methodLink RX3 64 yX0_append ∈ gT := wk_12 _ (List.mem_of_getElem? (i := 6) rfl)
theorem t_272 : Cond.instanceMethod yX0_append ∈ gT := wk_12 _ (List.mem_of_getElem? (i := 7) rfl)
theorem t_273 : Cond.selects RX0 yX0_append yX0_append ∈ gT := wk_12 _ (List.mem_of_getElem? (i := 8) rfl)
theorem t_274 : Cond.code yX0_append cX0_append 4 none ∈ gT := wk_12 _ (List.mem_of_getElem? (i := 9) rfl)
theorem t_275 : Cond.methodLink RX0 28 yX0_put ∈ gT := wk_12 _ (List.mem_of_getElem? (i := 10) rfl)
theorem t_277 : Cond.instanceMethod yX0_put ∈ gT := wk_12 _ (List.mem_of_getElem? (i := 11) rfl)
theorem t_278 : Cond.code yX0_put cX0_put 5 none ∈ gT := wk_12 _ (List.mem_of_getElem? (i := 12) rfl)
theorem t_279 : Cond.methodLink RX4 44 yX0_has ∈ gT := wk_12 _ (List.mem_of_getElem? (i := 13) rfl)
theorem t_280 : Cond.instanceMethod yX0_has ∈ gT := wk_12 _ (List.mem_of_getElem? (i := 14) rfl)
theorem t_281 : Cond.selects RX0 yX0_has yX0_has ∈ gT := wk_12 _ (List.mem_of_getElem? (i := 15) rfl)
theorem t_282 : Cond.code yX0_has cX0_has 2 (some .boolean) ∈ gT := wk_12 _ (List.mem_of_getElem? (i := 16) rfl)
theorem t_283 : Cond.methodLink RX4 51 yX0_waysOf ∈ gT := wk_12 _ (List.mem_of_getElem? (i := 17) rfl)
theorem t_284 : Cond.instanceMethod yX0_waysOf ∈ gT := wk_12 _ (List.mem_of_getElem? (i := 18) rfl)
theorem t_285 : Cond.selects RX0 yX0_waysOf yX0_waysOf ∈ gT := wk_12 _ (List.mem_of_getElem? (i := 19) rfl)
theorem t_286 : Cond.code yX0_waysOf cX0_waysOf 2 (some .int) ∈ gT := wk_12 _ (List.mem_of_getElem? (i := 20) rfl)
theorem t_287 : Cond.methodLink RX0 57 yX0_comes ∈ gT := wk_12 _ (List.mem_of_getElem? (i := 21) rfl)
def wc_13 : List Cond := [Cond.instanceMethod yX0_comes, Cond.code yX0_comes cX0_comes 8 (some .boolean), Cond.methodLink RX4 55 yX0_huesOf, Cond.instanceMethod yX0_huesOf, Cond.selects RX0 yX0_huesOf yX0_huesOf, Cond.code yX0_huesOf cX0_huesOf 4 (some .int), Cond.methodLink RX0 61 yX0_allows, Cond.instanceMethod yX0_allows, Cond.code yX0_allows cX0_allows 5 (some .boolean), Cond.methodLink RL 32 yX6_drop, Cond.instanceMethod yX6_drop, Cond.selects RX6 yX6_drop yX6_drop, Cond.code yX6_drop cX6_drop 2 (some .int), Cond.methodLink RX6 85 yX5_has, Cond.instanceMethod yX5_has, Cond.selects RX5 yX5_has yX5_has, Cond.code yX5_has cX5_has 2 (some .boolean), Cond.methodLink RX6 89 yX5_remove, Cond.instanceMethod yX5_remove, Cond.selects RX5 yX5_remove yX5_remove, Cond.code yX5_remove cX5_remove 4 none, Cond.methodLink RX5 26 yX5_has]
theorem wk_13 : ∀ w ∈ wc_13, w ∈ gT := fun w h => by
  have hp : wc_13 = ([1, 2, 3, 4, 5, 6, 7, 9, 10, 11, 12, 13, 14, 15, 16, 17, 18, 19, 20, 21, 22, 23] : List Nat).filterMap (fun i => ((tables_1_2.drop 48).take 24)[i]?) := by decide +kernel
  have hg : wc_13.all goodWord = true := by decide +kernel
  have h2 := h
  rw [hp] at h2
  obtain ⟨i, -, hi⟩ := List.mem_filterMap.mp h2
  exact gT_tab (sub_2 (List.mem_of_mem_drop (List.mem_of_mem_take (List.mem_of_getElem? hi)))) (List.all_eq_true.mp hg w h)
theorem t_289 : Cond.instanceMethod yX0_comes ∈ gT := wk_13 _ (List.mem_of_getElem? (i := 0) rfl)
theorem t_290 : Cond.code yX0_comes cX0_comes 8 (some .boolean) ∈ gT := wk_13 _ (List.mem_of_getElem? (i := 1) rfl)
theorem t_291 : Cond.methodLink RX4 55 yX0_huesOf ∈ gT := wk_13 _ (List.mem_of_getElem? (i := 2) rfl)
theorem t_292 : Cond.instanceMethod yX0_huesOf ∈ gT := wk_13 _ (List.mem_of_getElem? (i := 3) rfl)
theorem t_293 : Cond.selects RX0 yX0_huesOf yX0_huesOf ∈ gT := wk_13 _ (List.mem_of_getElem? (i := 4) rfl)
theorem t_294 : Cond.code yX0_huesOf cX0_huesOf 4 (some .int) ∈ gT := wk_13 _ (List.mem_of_getElem? (i := 5) rfl)
theorem t_295 : Cond.methodLink RX0 61 yX0_allows ∈ gT := wk_13 _ (List.mem_of_getElem? (i := 6) rfl)
theorem t_297 : Cond.instanceMethod yX0_allows ∈ gT := wk_13 _ (List.mem_of_getElem? (i := 7) rfl)
theorem t_298 : Cond.code yX0_allows cX0_allows 5 (some .boolean) ∈ gT := wk_13 _ (List.mem_of_getElem? (i := 8) rfl)
theorem t_299 : Cond.methodLink RL 32 yX6_drop ∈ gT := wk_13 _ (List.mem_of_getElem? (i := 9) rfl)
theorem t_300 : Cond.instanceMethod yX6_drop ∈ gT := wk_13 _ (List.mem_of_getElem? (i := 10) rfl)
theorem t_301 : Cond.selects RX6 yX6_drop yX6_drop ∈ gT := wk_13 _ (List.mem_of_getElem? (i := 11) rfl)
theorem t_302 : Cond.code yX6_drop cX6_drop 2 (some .int) ∈ gT := wk_13 _ (List.mem_of_getElem? (i := 12) rfl)
theorem t_303 : Cond.methodLink RX6 85 yX5_has ∈ gT := wk_13 _ (List.mem_of_getElem? (i := 13) rfl)
theorem t_304 : Cond.instanceMethod yX5_has ∈ gT := wk_13 _ (List.mem_of_getElem? (i := 14) rfl)
theorem t_305 : Cond.selects RX5 yX5_has yX5_has ∈ gT := wk_13 _ (List.mem_of_getElem? (i := 15) rfl)
theorem t_306 : Cond.code yX5_has cX5_has 2 (some .boolean) ∈ gT := wk_13 _ (List.mem_of_getElem? (i := 16) rfl)
theorem t_307 : Cond.methodLink RX6 89 yX5_remove ∈ gT := wk_13 _ (List.mem_of_getElem? (i := 17) rfl)
theorem t_308 : Cond.instanceMethod yX5_remove ∈ gT := wk_13 _ (List.mem_of_getElem? (i := 18) rfl)
theorem t_309 : Cond.selects RX5 yX5_remove yX5_remove ∈ gT := wk_13 _ (List.mem_of_getElem? (i := 19) rfl)
theorem t_310 : Cond.code yX5_remove cX5_remove 4 none ∈ gT := wk_13 _ (List.mem_of_getElem? (i := 20) rfl)
theorem t_311 : Cond.methodLink RX5 26 yX5_has ∈ gT := wk_13 _ (List.mem_of_getElem? (i := 21) rfl)
def wc_14 : List Cond := [Cond.methodLink RL 36 yX6_graph, Cond.instanceMethod yX6_graph, Cond.selects RX6 yX6_graph yX6_graph, Cond.code yX6_graph cX6_graph 1 (some .int), Cond.methodLink RX6 92 yX3_isGraph, Cond.instanceMethod yX3_isGraph, Cond.selects RX3 yX3_isGraph yX3_isGraph, Cond.code yX3_isGraph cX3_isGraph 1 (some .boolean), Cond.methodLink RX6 95 yX3_copyGraph, Cond.instanceMethod yX3_copyGraph, Cond.selects RX3 yX3_copyGraph yX3_copyGraph, Cond.code yX3_copyGraph cX3_copyGraph 2 none, Cond.methodLink RX6 99 yX6_noteNewGraph, Cond.instanceMethod yX6_noteNewGraph, Cond.code yX6_noteNewGraph cX6_noteNewGraph 1 none, Cond.methodLink RL 40 yX6_of, Cond.instanceMethod yX6_of, Cond.selects RX6 yX6_of yX6_of, Cond.code yX6_of cX6_of 4 (some .int), Cond.methodLink RX6 118 yX0_has, Cond.methodLink RX6 119 yX0_told, Cond.instanceMethod yX0_told, Cond.selects RX0 yX0_told yX0_told]
theorem wk_14 : ∀ w ∈ wc_14, w ∈ gT := fun w h => by
  have hp : wc_14 = ([0, 1, 2, 3, 4, 5, 6, 7, 8, 9, 10, 11, 12, 14, 15, 16, 17, 18, 19, 20, 21, 22, 23] : List Nat).filterMap (fun i => ((tables_1_2.drop 72).take 24)[i]?) := by decide +kernel
  have hg : wc_14.all goodWord = true := by decide +kernel
  have h2 := h
  rw [hp] at h2
  obtain ⟨i, -, hi⟩ := List.mem_filterMap.mp h2
  exact gT_tab (sub_2 (List.mem_of_mem_drop (List.mem_of_mem_take (List.mem_of_getElem? hi)))) (List.all_eq_true.mp hg w h)
theorem t_312 : Cond.methodLink RL 36 yX6_graph ∈ gT := wk_14 _ (List.mem_of_getElem? (i := 0) rfl)
theorem t_313 : Cond.instanceMethod yX6_graph ∈ gT := wk_14 _ (List.mem_of_getElem? (i := 1) rfl)
theorem t_314 : Cond.selects RX6 yX6_graph yX6_graph ∈ gT := wk_14 _ (List.mem_of_getElem? (i := 2) rfl)
theorem t_315 : Cond.code yX6_graph cX6_graph 1 (some .int) ∈ gT := wk_14 _ (List.mem_of_getElem? (i := 3) rfl)
theorem t_316 : Cond.methodLink RX6 92 yX3_isGraph ∈ gT := wk_14 _ (List.mem_of_getElem? (i := 4) rfl)
theorem t_317 : Cond.instanceMethod yX3_isGraph ∈ gT := wk_14 _ (List.mem_of_getElem? (i := 5) rfl)
theorem t_318 : Cond.selects RX3 yX3_isGraph yX3_isGraph ∈ gT := wk_14 _ (List.mem_of_getElem? (i := 6) rfl)
theorem t_319 : Cond.code yX3_isGraph cX3_isGraph 1 (some .boolean) ∈ gT := wk_14 _ (List.mem_of_getElem? (i := 7) rfl)
theorem t_320 : Cond.methodLink RX6 95 yX3_copyGraph ∈ gT := wk_14 _ (List.mem_of_getElem? (i := 8) rfl)
theorem t_321 : Cond.instanceMethod yX3_copyGraph ∈ gT := wk_14 _ (List.mem_of_getElem? (i := 9) rfl)
theorem t_322 : Cond.selects RX3 yX3_copyGraph yX3_copyGraph ∈ gT := wk_14 _ (List.mem_of_getElem? (i := 10) rfl)
theorem t_323 : Cond.code yX3_copyGraph cX3_copyGraph 2 none ∈ gT := wk_14 _ (List.mem_of_getElem? (i := 11) rfl)
theorem t_324 : Cond.methodLink RX6 99 yX6_noteNewGraph ∈ gT := wk_14 _ (List.mem_of_getElem? (i := 12) rfl)
theorem t_326 : Cond.instanceMethod yX6_noteNewGraph ∈ gT := wk_14 _ (List.mem_of_getElem? (i := 13) rfl)
theorem t_327 : Cond.code yX6_noteNewGraph cX6_noteNewGraph 1 none ∈ gT := wk_14 _ (List.mem_of_getElem? (i := 14) rfl)
theorem t_328 : Cond.methodLink RL 40 yX6_of ∈ gT := wk_14 _ (List.mem_of_getElem? (i := 15) rfl)
theorem t_329 : Cond.instanceMethod yX6_of ∈ gT := wk_14 _ (List.mem_of_getElem? (i := 16) rfl)
theorem t_330 : Cond.selects RX6 yX6_of yX6_of ∈ gT := wk_14 _ (List.mem_of_getElem? (i := 17) rfl)
theorem t_331 : Cond.code yX6_of cX6_of 4 (some .int) ∈ gT := wk_14 _ (List.mem_of_getElem? (i := 18) rfl)
theorem t_332 : Cond.methodLink RX6 118 yX0_has ∈ gT := wk_14 _ (List.mem_of_getElem? (i := 19) rfl)
theorem t_333 : Cond.methodLink RX6 119 yX0_told ∈ gT := wk_14 _ (List.mem_of_getElem? (i := 20) rfl)
theorem t_334 : Cond.instanceMethod yX0_told ∈ gT := wk_14 _ (List.mem_of_getElem? (i := 21) rfl)
theorem t_335 : Cond.selects RX0 yX0_told yX0_told ∈ gT := wk_14 _ (List.mem_of_getElem? (i := 22) rfl)
def wc_15 : List Cond := [Cond.code yX0_told cX0_told 2 (some .int), Cond.methodLink RL 45 yX6_begin, Cond.instanceMethod yX6_begin, Cond.selects RX6 yX6_begin yX6_begin, Cond.code yX6_begin cX6_begin 2 (some .int), Cond.methodLink RX6 123 yX6_isOpen, Cond.methodLink RX6 126 yX0_clear, Cond.methodLink RX6 128 yX0_append, Cond.methodLink RL 49 yX6_step, Cond.instanceMethod yX6_step, Cond.selects RX6 yX6_step yX6_step, Cond.code yX6_step cX6_step 4 (some .int), Cond.methodLink RX6 136 yX0_replace, Cond.instanceMethod yX0_replace, Cond.selects RX0 yX0_replace yX0_replace, Cond.code yX0_replace cX0_replace 7 none, Cond.methodLink RX0 40 yX0_has, Cond.methodLink RX0 43 yX0_nodeFor, Cond.instanceMethod yX0_nodeFor, Cond.code yX0_nodeFor cX0_nodeFor 4 (some .int), Cond.methodLink RL 53 yX6_edge, Cond.instanceMethod yX6_edge, Cond.selects RX6 yX6_edge yX6_edge]
theorem wk_15 : ∀ w ∈ wc_15, w ∈ gT := fun w h => by
  have hp : wc_15 = ([0, 1, 2, 3, 4, 5, 6, 7, 8, 9, 10, 11, 12, 13, 14, 15, 16, 17, 19, 20, 21, 22, 23] : List Nat).filterMap (fun i => ((tables_1_2.drop 96).take 24)[i]?) := by decide +kernel
  have hg : wc_15.all goodWord = true := by decide +kernel
  have h2 := h
  rw [hp] at h2
  obtain ⟨i, -, hi⟩ := List.mem_filterMap.mp h2
  exact gT_tab (sub_2 (List.mem_of_mem_drop (List.mem_of_mem_take (List.mem_of_getElem? hi)))) (List.all_eq_true.mp hg w h)
theorem t_336 : Cond.code yX0_told cX0_told 2 (some .int) ∈ gT := wk_15 _ (List.mem_of_getElem? (i := 0) rfl)
theorem t_337 : Cond.methodLink RL 45 yX6_begin ∈ gT := wk_15 _ (List.mem_of_getElem? (i := 1) rfl)
theorem t_338 : Cond.instanceMethod yX6_begin ∈ gT := wk_15 _ (List.mem_of_getElem? (i := 2) rfl)
theorem t_339 : Cond.selects RX6 yX6_begin yX6_begin ∈ gT := wk_15 _ (List.mem_of_getElem? (i := 3) rfl)
theorem t_340 : Cond.code yX6_begin cX6_begin 2 (some .int) ∈ gT := wk_15 _ (List.mem_of_getElem? (i := 4) rfl)
theorem t_341 : Cond.methodLink RX6 123 yX6_isOpen ∈ gT := wk_15 _ (List.mem_of_getElem? (i := 5) rfl)
theorem t_342 : Cond.methodLink RX6 126 yX0_clear ∈ gT := wk_15 _ (List.mem_of_getElem? (i := 6) rfl)
theorem t_343 : Cond.methodLink RX6 128 yX0_append ∈ gT := wk_15 _ (List.mem_of_getElem? (i := 7) rfl)
theorem t_344 : Cond.methodLink RL 49 yX6_step ∈ gT := wk_15 _ (List.mem_of_getElem? (i := 8) rfl)
theorem t_345 : Cond.instanceMethod yX6_step ∈ gT := wk_15 _ (List.mem_of_getElem? (i := 9) rfl)
theorem t_346 : Cond.selects RX6 yX6_step yX6_step ∈ gT := wk_15 _ (List.mem_of_getElem? (i := 10) rfl)
theorem t_347 : Cond.code yX6_step cX6_step 4 (some .int) ∈ gT := wk_15 _ (List.mem_of_getElem? (i := 11) rfl)
theorem t_348 : Cond.methodLink RX6 136 yX0_replace ∈ gT := wk_15 _ (List.mem_of_getElem? (i := 12) rfl)
theorem t_349 : Cond.instanceMethod yX0_replace ∈ gT := wk_15 _ (List.mem_of_getElem? (i := 13) rfl)
theorem t_350 : Cond.selects RX0 yX0_replace yX0_replace ∈ gT := wk_15 _ (List.mem_of_getElem? (i := 14) rfl)
theorem t_351 : Cond.code yX0_replace cX0_replace 7 none ∈ gT := wk_15 _ (List.mem_of_getElem? (i := 15) rfl)
theorem t_352 : Cond.methodLink RX0 40 yX0_has ∈ gT := wk_15 _ (List.mem_of_getElem? (i := 16) rfl)
theorem t_353 : Cond.methodLink RX0 43 yX0_nodeFor ∈ gT := wk_15 _ (List.mem_of_getElem? (i := 17) rfl)
theorem t_355 : Cond.instanceMethod yX0_nodeFor ∈ gT := wk_15 _ (List.mem_of_getElem? (i := 18) rfl)
theorem t_356 : Cond.code yX0_nodeFor cX0_nodeFor 4 (some .int) ∈ gT := wk_15 _ (List.mem_of_getElem? (i := 19) rfl)
theorem t_357 : Cond.methodLink RL 53 yX6_edge ∈ gT := wk_15 _ (List.mem_of_getElem? (i := 20) rfl)
theorem t_358 : Cond.instanceMethod yX6_edge ∈ gT := wk_15 _ (List.mem_of_getElem? (i := 21) rfl)
theorem t_359 : Cond.selects RX6 yX6_edge yX6_edge ∈ gT := wk_15 _ (List.mem_of_getElem? (i := 22) rfl)
def wc_16 : List Cond := [Cond.code yX6_edge cX6_edge 2 (some .int), Cond.methodLink RL 57 yX6_kind, Cond.instanceMethod yX6_kind, Cond.selects RX6 yX6_kind yX6_kind, Cond.code yX6_kind cX6_kind 1 (some .int), Cond.methodLink RX6 140 yX0_isDone, Cond.instanceMethod yX0_isDone, Cond.selects RX0 yX0_isDone yX0_isDone, Cond.code yX0_isDone cX0_isDone 1 (some .boolean), Cond.methodLink RX0 36 yX0_openEdges, Cond.instanceMethod yX0_openEdges, Cond.selects RX0 yX0_openEdges yX0_openEdges, Cond.code yX0_openEdges cX0_openEdges 3 (some .int), Cond.methodLink RX6 143 yX0_ownKind, Cond.instanceMethod yX0_ownKind, Cond.selects RX0 yX0_ownKind yX0_ownKind, Cond.code yX0_ownKind cX0_ownKind 5 (some .int), Cond.methodLink RX0 51 yX0_waysOf, Cond.methodLink RX0 54 yX0_huesOf, Cond.methodLink RL 61 yX6_fewest, Cond.instanceMethod yX6_fewest, Cond.selects RX6 yX6_fewest yX6_fewest, Cond.code yX6_fewest cX6_fewest 3 (some .int)]
theorem wk_16 : ∀ w ∈ wc_16, w ∈ gT := fun w h => by
  have hp : wc_16 = ([0, 1, 2, 3, 4, 5, 6, 7, 8, 9, 10, 11, 12, 14, 15, 16, 17, 18, 19, 20, 21, 22, 23] : List Nat).filterMap (fun i => ((tables_1_2.drop 120).take 24)[i]?) := by decide +kernel
  have hg : wc_16.all goodWord = true := by decide +kernel
  have h2 := h
  rw [hp] at h2
  obtain ⟨i, -, hi⟩ := List.mem_filterMap.mp h2
  exact gT_tab (sub_2 (List.mem_of_mem_drop (List.mem_of_mem_take (List.mem_of_getElem? hi)))) (List.all_eq_true.mp hg w h)
theorem t_360 : Cond.code yX6_edge cX6_edge 2 (some .int) ∈ gT := wk_16 _ (List.mem_of_getElem? (i := 0) rfl)
theorem t_361 : Cond.methodLink RL 57 yX6_kind ∈ gT := wk_16 _ (List.mem_of_getElem? (i := 1) rfl)
theorem t_362 : Cond.instanceMethod yX6_kind ∈ gT := wk_16 _ (List.mem_of_getElem? (i := 2) rfl)
theorem t_363 : Cond.selects RX6 yX6_kind yX6_kind ∈ gT := wk_16 _ (List.mem_of_getElem? (i := 3) rfl)
theorem t_364 : Cond.code yX6_kind cX6_kind 1 (some .int) ∈ gT := wk_16 _ (List.mem_of_getElem? (i := 4) rfl)
theorem t_365 : Cond.methodLink RX6 140 yX0_isDone ∈ gT := wk_16 _ (List.mem_of_getElem? (i := 5) rfl)
theorem t_366 : Cond.instanceMethod yX0_isDone ∈ gT := wk_16 _ (List.mem_of_getElem? (i := 6) rfl)
theorem t_367 : Cond.selects RX0 yX0_isDone yX0_isDone ∈ gT := wk_16 _ (List.mem_of_getElem? (i := 7) rfl)
theorem t_368 : Cond.code yX0_isDone cX0_isDone 1 (some .boolean) ∈ gT := wk_16 _ (List.mem_of_getElem? (i := 8) rfl)
theorem t_369 : Cond.methodLink RX0 36 yX0_openEdges ∈ gT := wk_16 _ (List.mem_of_getElem? (i := 9) rfl)
theorem t_370 : Cond.instanceMethod yX0_openEdges ∈ gT := wk_16 _ (List.mem_of_getElem? (i := 10) rfl)
theorem t_371 : Cond.selects RX0 yX0_openEdges yX0_openEdges ∈ gT := wk_16 _ (List.mem_of_getElem? (i := 11) rfl)
theorem t_372 : Cond.code yX0_openEdges cX0_openEdges 3 (some .int) ∈ gT := wk_16 _ (List.mem_of_getElem? (i := 12) rfl)
theorem t_374 : Cond.methodLink RX6 143 yX0_ownKind ∈ gT := wk_16 _ (List.mem_of_getElem? (i := 13) rfl)
theorem t_375 : Cond.instanceMethod yX0_ownKind ∈ gT := wk_16 _ (List.mem_of_getElem? (i := 14) rfl)
theorem t_376 : Cond.selects RX0 yX0_ownKind yX0_ownKind ∈ gT := wk_16 _ (List.mem_of_getElem? (i := 15) rfl)
theorem t_377 : Cond.code yX0_ownKind cX0_ownKind 5 (some .int) ∈ gT := wk_16 _ (List.mem_of_getElem? (i := 16) rfl)
theorem t_378 : Cond.methodLink RX0 51 yX0_waysOf ∈ gT := wk_16 _ (List.mem_of_getElem? (i := 17) rfl)
theorem t_379 : Cond.methodLink RX0 54 yX0_huesOf ∈ gT := wk_16 _ (List.mem_of_getElem? (i := 18) rfl)
theorem t_380 : Cond.methodLink RL 61 yX6_fewest ∈ gT := wk_16 _ (List.mem_of_getElem? (i := 19) rfl)
theorem t_381 : Cond.instanceMethod yX6_fewest ∈ gT := wk_16 _ (List.mem_of_getElem? (i := 20) rfl)
theorem t_382 : Cond.selects RX6 yX6_fewest yX6_fewest ∈ gT := wk_16 _ (List.mem_of_getElem? (i := 21) rfl)
theorem t_383 : Cond.code yX6_fewest cX6_fewest 3 (some .int) ∈ gT := wk_16 _ (List.mem_of_getElem? (i := 22) rfl)
def wc_17 : List Cond := [Cond.methodLink RX6 147 yX2_find, Cond.instanceMethod yX2_find, Cond.selects RX2 yX2_find yX2_find, Cond.code yX2_find cX2_find 6 none, Cond.constant RX2 28 (536870912), Cond.methodLink RX2 29 yJ7_fill_53178, Cond.static yJ7_fill_53178, Cond.code yJ7_fill_53178 cJ7_fill_53178 4 none, Cond.methodLink RX2 38 yX2_improve, Cond.instanceMethod yX2_improve, Cond.code yX2_improve cX2_improve 11 (some .boolean), Cond.methodLink RX2 42 yJ6_bitCount_0f7a4, Cond.static yJ6_bitCount_0f7a4, Cond.code yJ6_bitCount_0f7a4 cJ6_bitCount_0f7a4 1 (some .int), Cond.constant RJ6 265 (1431655765), Cond.constant RJ6 266 (858993459), Cond.constant RJ6 267 (252645135), Cond.methodLink RX2 48 yX0_isPart, Cond.instanceMethod yX0_isPart, Cond.selects RX0 yX0_isPart yX0_isPart, Cond.code yX0_isPart cX0_isPart 7 (some .boolean), Cond.methodLink RX0 47 yX0_nodesOf]
theorem wk_17 : ∀ w ∈ wc_17, w ∈ gT := fun w h => by
  have hp : wc_17 = ([0, 1, 2, 3, 4, 5, 6, 7, 8, 10, 11, 12, 13, 14, 15, 16, 17, 18, 19, 20, 21, 22] : List Nat).filterMap (fun i => ((tables_1_2.drop 144).take 24)[i]?) := by decide +kernel
  have hg : wc_17.all goodWord = true := by decide +kernel
  have h2 := h
  rw [hp] at h2
  obtain ⟨i, -, hi⟩ := List.mem_filterMap.mp h2
  exact gT_tab (sub_2 (List.mem_of_mem_drop (List.mem_of_mem_take (List.mem_of_getElem? hi)))) (List.all_eq_true.mp hg w h)
theorem t_384 : Cond.methodLink RX6 147 yX2_find ∈ gT := wk_17 _ (List.mem_of_getElem? (i := 0) rfl)
theorem t_385 : Cond.instanceMethod yX2_find ∈ gT := wk_17 _ (List.mem_of_getElem? (i := 1) rfl)
theorem t_386 : Cond.selects RX2 yX2_find yX2_find ∈ gT := wk_17 _ (List.mem_of_getElem? (i := 2) rfl)
theorem t_387 : Cond.code yX2_find cX2_find 6 none ∈ gT := wk_17 _ (List.mem_of_getElem? (i := 3) rfl)
theorem t_388 : Cond.constant RX2 28 (536870912) ∈ gT := wk_17 _ (List.mem_of_getElem? (i := 4) rfl)
theorem t_389 : Cond.methodLink RX2 29 yJ7_fill_53178 ∈ gT := wk_17 _ (List.mem_of_getElem? (i := 5) rfl)
theorem t_390 : Cond.static yJ7_fill_53178 ∈ gT := wk_17 _ (List.mem_of_getElem? (i := 6) rfl)
theorem t_391 : Cond.code yJ7_fill_53178 cJ7_fill_53178 4 none ∈ gT := wk_17 _ (List.mem_of_getElem? (i := 7) rfl)
theorem t_392 : Cond.methodLink RX2 38 yX2_improve ∈ gT := wk_17 _ (List.mem_of_getElem? (i := 8) rfl)
theorem t_394 : Cond.instanceMethod yX2_improve ∈ gT := wk_17 _ (List.mem_of_getElem? (i := 9) rfl)
theorem t_395 : Cond.code yX2_improve cX2_improve 11 (some .boolean) ∈ gT := wk_17 _ (List.mem_of_getElem? (i := 10) rfl)
theorem t_396 : Cond.methodLink RX2 42 yJ6_bitCount_0f7a4 ∈ gT := wk_17 _ (List.mem_of_getElem? (i := 11) rfl)
theorem t_397 : Cond.static yJ6_bitCount_0f7a4 ∈ gT := wk_17 _ (List.mem_of_getElem? (i := 12) rfl)
theorem t_398 : Cond.code yJ6_bitCount_0f7a4 cJ6_bitCount_0f7a4 1 (some .int) ∈ gT := wk_17 _ (List.mem_of_getElem? (i := 13) rfl)
theorem t_399 : Cond.constant RJ6 265 (1431655765) ∈ gT := wk_17 _ (List.mem_of_getElem? (i := 14) rfl)
theorem t_400 : Cond.constant RJ6 266 (858993459) ∈ gT := wk_17 _ (List.mem_of_getElem? (i := 15) rfl)
theorem t_401 : Cond.constant RJ6 267 (252645135) ∈ gT := wk_17 _ (List.mem_of_getElem? (i := 16) rfl)
theorem t_402 : Cond.methodLink RX2 48 yX0_isPart ∈ gT := wk_17 _ (List.mem_of_getElem? (i := 17) rfl)
theorem t_403 : Cond.instanceMethod yX0_isPart ∈ gT := wk_17 _ (List.mem_of_getElem? (i := 18) rfl)
theorem t_404 : Cond.selects RX0 yX0_isPart yX0_isPart ∈ gT := wk_17 _ (List.mem_of_getElem? (i := 19) rfl)
theorem t_405 : Cond.code yX0_isPart cX0_isPart 7 (some .boolean) ∈ gT := wk_17 _ (List.mem_of_getElem? (i := 20) rfl)
theorem t_406 : Cond.methodLink RX0 47 yX0_nodesOf ∈ gT := wk_17 _ (List.mem_of_getElem? (i := 21) rfl)
def wc_18 : List Cond := [Cond.instanceMethod yX0_nodesOf, Cond.code yX0_nodesOf cX0_nodesOf 4 (some .int), Cond.methodLink RX2 24 yX2_at, Cond.static yX2_at, Cond.code yX2_at cX2_at 4 (some .int), Cond.methodLink RX2 68 yX2_byRule, Cond.instanceMethod yX2_byRule, Cond.code yX2_byRule cX2_byRule 10 (some .int), Cond.methodLink RX2 76 yX2_standsApart, Cond.instanceMethod yX2_standsApart, Cond.code yX2_standsApart cX2_standsApart 4 (some .boolean), Cond.methodLink RX2 80 yX2_bySplit, Cond.instanceMethod yX2_bySplit, Cond.code yX2_bySplit cX2_bySplit 10 (some .int), Cond.methodLink RX2 89 yX2_bySlot, Cond.instanceMethod yX2_bySlot, Cond.code yX2_bySlot cX2_bySlot 8 (some .int), Cond.methodLink RX2 105 yX0_isEdge, Cond.instanceMethod yX0_isEdge]
theorem wk_18 : ∀ w ∈ wc_18, w ∈ gT := fun w h => by
  have hp : wc_18 = ([0, 1, 2, 3, 4, 5, 7, 8, 9, 11, 12, 13, 15, 16, 17, 19, 20, 22, 23] : List Nat).filterMap (fun i => ((tables_1_2.drop 168).take 24)[i]?) := by decide +kernel
  have hg : wc_18.all goodWord = true := by decide +kernel
  have h2 := h
  rw [hp] at h2
  obtain ⟨i, -, hi⟩ := List.mem_filterMap.mp h2
  exact gT_tab (sub_2 (List.mem_of_mem_drop (List.mem_of_mem_take (List.mem_of_getElem? hi)))) (List.all_eq_true.mp hg w h)
theorem t_408 : Cond.instanceMethod yX0_nodesOf ∈ gT := wk_18 _ (List.mem_of_getElem? (i := 0) rfl)
theorem t_409 : Cond.code yX0_nodesOf cX0_nodesOf 4 (some .int) ∈ gT := wk_18 _ (List.mem_of_getElem? (i := 1) rfl)
theorem t_410 : Cond.methodLink RX2 24 yX2_at ∈ gT := wk_18 _ (List.mem_of_getElem? (i := 2) rfl)
theorem t_411 : Cond.static yX2_at ∈ gT := wk_18 _ (List.mem_of_getElem? (i := 3) rfl)
theorem t_412 : Cond.code yX2_at cX2_at 4 (some .int) ∈ gT := wk_18 _ (List.mem_of_getElem? (i := 4) rfl)
theorem t_413 : Cond.methodLink RX2 68 yX2_byRule ∈ gT := wk_18 _ (List.mem_of_getElem? (i := 5) rfl)
theorem t_415 : Cond.instanceMethod yX2_byRule ∈ gT := wk_18 _ (List.mem_of_getElem? (i := 6) rfl)
theorem t_416 : Cond.code yX2_byRule cX2_byRule 10 (some .int) ∈ gT := wk_18 _ (List.mem_of_getElem? (i := 7) rfl)
theorem t_417 : Cond.methodLink RX2 76 yX2_standsApart ∈ gT := wk_18 _ (List.mem_of_getElem? (i := 8) rfl)
theorem t_419 : Cond.instanceMethod yX2_standsApart ∈ gT := wk_18 _ (List.mem_of_getElem? (i := 9) rfl)
theorem t_420 : Cond.code yX2_standsApart cX2_standsApart 4 (some .boolean) ∈ gT := wk_18 _ (List.mem_of_getElem? (i := 10) rfl)
theorem t_421 : Cond.methodLink RX2 80 yX2_bySplit ∈ gT := wk_18 _ (List.mem_of_getElem? (i := 11) rfl)
theorem t_423 : Cond.instanceMethod yX2_bySplit ∈ gT := wk_18 _ (List.mem_of_getElem? (i := 12) rfl)
theorem t_424 : Cond.code yX2_bySplit cX2_bySplit 10 (some .int) ∈ gT := wk_18 _ (List.mem_of_getElem? (i := 13) rfl)
theorem t_425 : Cond.methodLink RX2 89 yX2_bySlot ∈ gT := wk_18 _ (List.mem_of_getElem? (i := 14) rfl)
theorem t_427 : Cond.instanceMethod yX2_bySlot ∈ gT := wk_18 _ (List.mem_of_getElem? (i := 15) rfl)
theorem t_428 : Cond.code yX2_bySlot cX2_bySlot 8 (some .int) ∈ gT := wk_18 _ (List.mem_of_getElem? (i := 16) rfl)
theorem t_430 : Cond.methodLink RX2 105 yX0_isEdge ∈ gT := wk_18 _ (List.mem_of_getElem? (i := 17) rfl)
theorem t_431 : Cond.instanceMethod yX0_isEdge ∈ gT := wk_18 _ (List.mem_of_getElem? (i := 18) rfl)
def wc_19 : List Cond := [Cond.selects RX0 yX0_isEdge yX0_isEdge, Cond.code yX0_isEdge cX0_isEdge 6 (some .boolean), Cond.methodLink RX2 83 yJ9_min_7cf53, Cond.static yJ9_min_7cf53, Cond.code yJ9_min_7cf53 cJ9_min_7cf53 2 (some .int), Cond.methodLink RX2 72 yX2_lower, Cond.instanceMethod yX2_lower, Cond.code yX2_lower cX2_lower 3 (some .boolean), Cond.methodLink RX6 151 yX2_ofWhole, Cond.instanceMethod yX2_ofWhole, Cond.selects RX2 yX2_ofWhole yX2_ofWhole, Cond.code yX2_ofWhole cX2_ofWhole 3 (some .int), Cond.constant RX6 155 (536870912), Cond.methodLink RL 65 yX6_kinds, Cond.instanceMethod yX6_kinds, Cond.selects RX6 yX6_kinds yX6_kinds, Cond.code yX6_kinds cX6_kinds 4 (some .int), Cond.methodLink RX6 156 yX6_bringLights, Cond.instanceMethod yX6_bringLights, Cond.code yX6_bringLights cX6_bringLights 1 none, Cond.methodLink RX6 206 yX1_find, Cond.instanceMethod yX1_find]
theorem wk_19 : ∀ w ∈ wc_19, w ∈ gT := fun w h => by
  have hp : wc_19 = ([0, 1, 2, 3, 4, 5, 7, 8, 9, 10, 11, 12, 13, 14, 15, 16, 17, 18, 20, 21, 22, 23] : List Nat).filterMap (fun i => ((tables_1_2.drop 192).take 24)[i]?) := by decide +kernel
  have hg : wc_19.all goodWord = true := by decide +kernel
  have h2 := h
  rw [hp] at h2
  obtain ⟨i, -, hi⟩ := List.mem_filterMap.mp h2
  exact gT_tab (sub_2 (List.mem_of_mem_drop (List.mem_of_mem_take (List.mem_of_getElem? hi)))) (List.all_eq_true.mp hg w h)
theorem t_432 : Cond.selects RX0 yX0_isEdge yX0_isEdge ∈ gT := wk_19 _ (List.mem_of_getElem? (i := 0) rfl)
theorem t_433 : Cond.code yX0_isEdge cX0_isEdge 6 (some .boolean) ∈ gT := wk_19 _ (List.mem_of_getElem? (i := 1) rfl)
theorem t_434 : Cond.methodLink RX2 83 yJ9_min_7cf53 ∈ gT := wk_19 _ (List.mem_of_getElem? (i := 2) rfl)
theorem t_435 : Cond.static yJ9_min_7cf53 ∈ gT := wk_19 _ (List.mem_of_getElem? (i := 3) rfl)
theorem t_436 : Cond.code yJ9_min_7cf53 cJ9_min_7cf53 2 (some .int) ∈ gT := wk_19 _ (List.mem_of_getElem? (i := 4) rfl)
theorem t_437 : Cond.methodLink RX2 72 yX2_lower ∈ gT := wk_19 _ (List.mem_of_getElem? (i := 5) rfl)
theorem t_439 : Cond.instanceMethod yX2_lower ∈ gT := wk_19 _ (List.mem_of_getElem? (i := 6) rfl)
theorem t_440 : Cond.code yX2_lower cX2_lower 3 (some .boolean) ∈ gT := wk_19 _ (List.mem_of_getElem? (i := 7) rfl)
theorem t_441 : Cond.methodLink RX6 151 yX2_ofWhole ∈ gT := wk_19 _ (List.mem_of_getElem? (i := 8) rfl)
theorem t_442 : Cond.instanceMethod yX2_ofWhole ∈ gT := wk_19 _ (List.mem_of_getElem? (i := 9) rfl)
theorem t_443 : Cond.selects RX2 yX2_ofWhole yX2_ofWhole ∈ gT := wk_19 _ (List.mem_of_getElem? (i := 10) rfl)
theorem t_444 : Cond.code yX2_ofWhole cX2_ofWhole 3 (some .int) ∈ gT := wk_19 _ (List.mem_of_getElem? (i := 11) rfl)
theorem t_445 : Cond.constant RX6 155 (536870912) ∈ gT := wk_19 _ (List.mem_of_getElem? (i := 12) rfl)
theorem t_446 : Cond.methodLink RL 65 yX6_kinds ∈ gT := wk_19 _ (List.mem_of_getElem? (i := 13) rfl)
theorem t_447 : Cond.instanceMethod yX6_kinds ∈ gT := wk_19 _ (List.mem_of_getElem? (i := 14) rfl)
theorem t_448 : Cond.selects RX6 yX6_kinds yX6_kinds ∈ gT := wk_19 _ (List.mem_of_getElem? (i := 15) rfl)
theorem t_449 : Cond.code yX6_kinds cX6_kinds 4 (some .int) ∈ gT := wk_19 _ (List.mem_of_getElem? (i := 16) rfl)
theorem t_450 : Cond.methodLink RX6 156 yX6_bringLights ∈ gT := wk_19 _ (List.mem_of_getElem? (i := 17) rfl)
theorem t_452 : Cond.instanceMethod yX6_bringLights ∈ gT := wk_19 _ (List.mem_of_getElem? (i := 18) rfl)
theorem t_453 : Cond.code yX6_bringLights cX6_bringLights 1 none ∈ gT := wk_19 _ (List.mem_of_getElem? (i := 19) rfl)
theorem t_454 : Cond.methodLink RX6 206 yX1_find ∈ gT := wk_19 _ (List.mem_of_getElem? (i := 20) rfl)
theorem t_455 : Cond.instanceMethod yX1_find ∈ gT := wk_19 _ (List.mem_of_getElem? (i := 21) rfl)
def wc_20 : List Cond := [Cond.selects RX1 yX1_find yX1_find, Cond.code yX1_find cX1_find 5 none, Cond.methodLink RX1 45 yX1_forget, Cond.instanceMethod yX1_forget, Cond.code yX1_forget cX1_forget 2 none, Cond.constantLong RX1 29 (2305843009213693952), Cond.methodLink RX1 74 yJ7_fill_d0a16, Cond.static yJ7_fill_d0a16, Cond.code yJ7_fill_d0a16 cJ7_fill_d0a16 5 none, Cond.methodLink RX1 80 yJ7_fill_53178, Cond.methodLink RX1 48 yX1_offer, Cond.instanceMethod yX1_offer, Cond.code yX1_offer cX1_offer 7 none, Cond.methodLink RX1 52 yX1_nearest, Cond.instanceMethod yX1_nearest, Cond.code yX1_nearest cX1_nearest 5 (some .int), Cond.methodLink RX1 56 yX1_settle, Cond.instanceMethod yX1_settle, Cond.code yX1_settle cX1_settle 3 none, Cond.methodLink RX1 70 yX1_spread]
theorem wk_20 : ∀ w ∈ wc_20, w ∈ gT := fun w h => by
  have hp : wc_20 = ([0, 1, 2, 4, 5, 6, 7, 8, 9, 10, 11, 13, 14, 15, 17, 18, 19, 21, 22, 23] : List Nat).filterMap (fun i => ((tables_1_2.drop 216).take 24)[i]?) := by decide +kernel
  have hg : wc_20.all goodWord = true := by decide +kernel
  have h2 := h
  rw [hp] at h2
  obtain ⟨i, -, hi⟩ := List.mem_filterMap.mp h2
  exact gT_tab (sub_2 (List.mem_of_mem_drop (List.mem_of_mem_take (List.mem_of_getElem? hi)))) (List.all_eq_true.mp hg w h)
theorem t_456 : Cond.selects RX1 yX1_find yX1_find ∈ gT := wk_20 _ (List.mem_of_getElem? (i := 0) rfl)
theorem t_457 : Cond.code yX1_find cX1_find 5 none ∈ gT := wk_20 _ (List.mem_of_getElem? (i := 1) rfl)
theorem t_458 : Cond.methodLink RX1 45 yX1_forget ∈ gT := wk_20 _ (List.mem_of_getElem? (i := 2) rfl)
theorem t_460 : Cond.instanceMethod yX1_forget ∈ gT := wk_20 _ (List.mem_of_getElem? (i := 3) rfl)
theorem t_461 : Cond.code yX1_forget cX1_forget 2 none ∈ gT := wk_20 _ (List.mem_of_getElem? (i := 4) rfl)
theorem t_462 : Cond.constantLong RX1 29 (2305843009213693952) ∈ gT := wk_20 _ (List.mem_of_getElem? (i := 5) rfl)
theorem t_463 : Cond.methodLink RX1 74 yJ7_fill_d0a16 ∈ gT := wk_20 _ (List.mem_of_getElem? (i := 6) rfl)
theorem t_464 : Cond.static yJ7_fill_d0a16 ∈ gT := wk_20 _ (List.mem_of_getElem? (i := 7) rfl)
theorem t_465 : Cond.code yJ7_fill_d0a16 cJ7_fill_d0a16 5 none ∈ gT := wk_20 _ (List.mem_of_getElem? (i := 8) rfl)
theorem t_466 : Cond.methodLink RX1 80 yJ7_fill_53178 ∈ gT := wk_20 _ (List.mem_of_getElem? (i := 9) rfl)
theorem t_467 : Cond.methodLink RX1 48 yX1_offer ∈ gT := wk_20 _ (List.mem_of_getElem? (i := 10) rfl)
theorem t_469 : Cond.instanceMethod yX1_offer ∈ gT := wk_20 _ (List.mem_of_getElem? (i := 11) rfl)
theorem t_470 : Cond.code yX1_offer cX1_offer 7 none ∈ gT := wk_20 _ (List.mem_of_getElem? (i := 12) rfl)
theorem t_471 : Cond.methodLink RX1 52 yX1_nearest ∈ gT := wk_20 _ (List.mem_of_getElem? (i := 13) rfl)
theorem t_473 : Cond.instanceMethod yX1_nearest ∈ gT := wk_20 _ (List.mem_of_getElem? (i := 14) rfl)
theorem t_474 : Cond.code yX1_nearest cX1_nearest 5 (some .int) ∈ gT := wk_20 _ (List.mem_of_getElem? (i := 15) rfl)
theorem t_475 : Cond.methodLink RX1 56 yX1_settle ∈ gT := wk_20 _ (List.mem_of_getElem? (i := 16) rfl)
theorem t_477 : Cond.instanceMethod yX1_settle ∈ gT := wk_20 _ (List.mem_of_getElem? (i := 17) rfl)
theorem t_478 : Cond.code yX1_settle cX1_settle 3 none ∈ gT := wk_20 _ (List.mem_of_getElem? (i := 18) rfl)
theorem t_479 : Cond.methodLink RX1 70 yX1_spread ∈ gT := wk_20 _ (List.mem_of_getElem? (i := 19) rfl)
def wc_21 : List Cond := [Cond.instanceMethod yX1_spread, Cond.code yX1_spread cX1_spread 6 none, Cond.methodLink RX1 88 yX1_combine, Cond.instanceMethod yX1_combine, Cond.code yX1_combine cX1_combine 13 none, Cond.methodLink RX1 91 yX1_choices, Cond.instanceMethod yX1_choices, Cond.code yX1_choices cX1_choices 4 (some .int), Cond.methodLink RX1 95 yX1_settledKind, Cond.instanceMethod yX1_settledKind, Cond.code yX1_settledKind cX1_settledKind 4 (some .int), Cond.methodLink RX1 98 yX1_stepsIn, Cond.instanceMethod yX1_stepsIn, Cond.code yX1_stepsIn cX1_stepsIn 4 (some .long), Cond.methodLink RX1 105 yX4_kindFrom, Cond.instanceMethod yX4_kindFrom, Cond.selects RX4 yX4_kindFrom yX4_kindFrom, Cond.code yX4_kindFrom cX4_kindFrom 6 (some .int), Cond.methodLink RX6 159 yX1_reaches]
theorem wk_21 : ∀ w ∈ wc_21, w ∈ gT := fun w h => by
  have hp : wc_21 = ([1, 2, 3, 5, 6, 7, 9, 10, 11, 13, 14, 15, 17, 18, 19, 20, 21, 22, 23] : List Nat).filterMap (fun i => ((tables_1_3.drop 0).take 24)[i]?) := by decide +kernel
  have hg : wc_21.all goodWord = true := by decide +kernel
  have h2 := h
  rw [hp] at h2
  obtain ⟨i, -, hi⟩ := List.mem_filterMap.mp h2
  exact gT_tab (sub_3 (List.mem_of_mem_drop (List.mem_of_mem_take (List.mem_of_getElem? hi)))) (List.all_eq_true.mp hg w h)
theorem t_481 : Cond.instanceMethod yX1_spread ∈ gT := wk_21 _ (List.mem_of_getElem? (i := 0) rfl)
theorem t_482 : Cond.code yX1_spread cX1_spread 6 none ∈ gT := wk_21 _ (List.mem_of_getElem? (i := 1) rfl)
theorem t_483 : Cond.methodLink RX1 88 yX1_combine ∈ gT := wk_21 _ (List.mem_of_getElem? (i := 2) rfl)
theorem t_485 : Cond.instanceMethod yX1_combine ∈ gT := wk_21 _ (List.mem_of_getElem? (i := 3) rfl)
theorem t_486 : Cond.code yX1_combine cX1_combine 13 none ∈ gT := wk_21 _ (List.mem_of_getElem? (i := 4) rfl)
theorem t_487 : Cond.methodLink RX1 91 yX1_choices ∈ gT := wk_21 _ (List.mem_of_getElem? (i := 5) rfl)
theorem t_489 : Cond.instanceMethod yX1_choices ∈ gT := wk_21 _ (List.mem_of_getElem? (i := 6) rfl)
theorem t_490 : Cond.code yX1_choices cX1_choices 4 (some .int) ∈ gT := wk_21 _ (List.mem_of_getElem? (i := 7) rfl)
theorem t_491 : Cond.methodLink RX1 95 yX1_settledKind ∈ gT := wk_21 _ (List.mem_of_getElem? (i := 8) rfl)
theorem t_493 : Cond.instanceMethod yX1_settledKind ∈ gT := wk_21 _ (List.mem_of_getElem? (i := 9) rfl)
theorem t_494 : Cond.code yX1_settledKind cX1_settledKind 4 (some .int) ∈ gT := wk_21 _ (List.mem_of_getElem? (i := 10) rfl)
theorem t_495 : Cond.methodLink RX1 98 yX1_stepsIn ∈ gT := wk_21 _ (List.mem_of_getElem? (i := 11) rfl)
theorem t_497 : Cond.instanceMethod yX1_stepsIn ∈ gT := wk_21 _ (List.mem_of_getElem? (i := 12) rfl)
theorem t_498 : Cond.code yX1_stepsIn cX1_stepsIn 4 (some .long) ∈ gT := wk_21 _ (List.mem_of_getElem? (i := 13) rfl)
theorem t_499 : Cond.methodLink RX1 105 yX4_kindFrom ∈ gT := wk_21 _ (List.mem_of_getElem? (i := 14) rfl)
theorem t_500 : Cond.instanceMethod yX4_kindFrom ∈ gT := wk_21 _ (List.mem_of_getElem? (i := 15) rfl)
theorem t_501 : Cond.selects RX4 yX4_kindFrom yX4_kindFrom ∈ gT := wk_21 _ (List.mem_of_getElem? (i := 16) rfl)
theorem t_502 : Cond.code yX4_kindFrom cX4_kindFrom 6 (some .int) ∈ gT := wk_21 _ (List.mem_of_getElem? (i := 17) rfl)
theorem t_503 : Cond.methodLink RX6 159 yX1_reaches ∈ gT := wk_21 _ (List.mem_of_getElem? (i := 18) rfl)
def wc_22 : List Cond := [Cond.instanceMethod yX1_reaches, Cond.selects RX1 yX1_reaches yX1_reaches, Cond.code yX1_reaches cX1_reaches 3 (some .boolean), Cond.methodLink RL 69 yX6_light, Cond.instanceMethod yX6_light, Cond.selects RX6 yX6_light yX6_light, Cond.code yX6_light cX6_light 4 (some .int), Cond.methodLink RX6 163 yX1_stepsTo, Cond.instanceMethod yX1_stepsTo, Cond.selects RX1 yX1_stepsTo yX1_stepsTo, Cond.code yX1_stepsTo cX1_stepsTo 3 (some .int), Cond.methodLink RX1 31 yX1_reaches, Cond.constantLong RX1 37 (2147483647), Cond.methodLink RX1 39 yJ9_min_f86c9, Cond.static yJ9_min_f86c9, Cond.code yJ9_min_f86c9 cJ9_min_f86c9 4 (some .long), Cond.methodLink RX6 167 yX1_firstTo, Cond.instanceMethod yX1_firstTo, Cond.selects RX1 yX1_firstTo yX1_firstTo, Cond.code yX1_firstTo cX1_firstTo 3 (some .int), Cond.methodLink RL 74 yX6_count, Cond.instanceMethod yX6_count, Cond.selects RX6 yX6_count yX6_count, Cond.code yX6_count cX6_count 2 (some .int)]
theorem wk_22 : ∀ w ∈ wc_22, w ∈ gT := fun w h => by
  have hp : wc_22 = ([0, 1, 2, 3, 4, 5, 6, 7, 8, 9, 10, 11, 12, 13, 14, 15, 16, 17, 18, 19, 20, 21, 22, 23] : List Nat).filterMap (fun i => ((tables_1_3.drop 24).take 24)[i]?) := by decide +kernel
  have hg : wc_22.all goodWord = true := by decide +kernel
  have h2 := h
  rw [hp] at h2
  obtain ⟨i, -, hi⟩ := List.mem_filterMap.mp h2
  exact gT_tab (sub_3 (List.mem_of_mem_drop (List.mem_of_mem_take (List.mem_of_getElem? hi)))) (List.all_eq_true.mp hg w h)
theorem t_504 : Cond.instanceMethod yX1_reaches ∈ gT := wk_22 _ (List.mem_of_getElem? (i := 0) rfl)
theorem t_505 : Cond.selects RX1 yX1_reaches yX1_reaches ∈ gT := wk_22 _ (List.mem_of_getElem? (i := 1) rfl)
theorem t_506 : Cond.code yX1_reaches cX1_reaches 3 (some .boolean) ∈ gT := wk_22 _ (List.mem_of_getElem? (i := 2) rfl)
theorem t_507 : Cond.methodLink RL 69 yX6_light ∈ gT := wk_22 _ (List.mem_of_getElem? (i := 3) rfl)
theorem t_508 : Cond.instanceMethod yX6_light ∈ gT := wk_22 _ (List.mem_of_getElem? (i := 4) rfl)
theorem t_509 : Cond.selects RX6 yX6_light yX6_light ∈ gT := wk_22 _ (List.mem_of_getElem? (i := 5) rfl)
theorem t_510 : Cond.code yX6_light cX6_light 4 (some .int) ∈ gT := wk_22 _ (List.mem_of_getElem? (i := 6) rfl)
theorem t_511 : Cond.methodLink RX6 163 yX1_stepsTo ∈ gT := wk_22 _ (List.mem_of_getElem? (i := 7) rfl)
theorem t_512 : Cond.instanceMethod yX1_stepsTo ∈ gT := wk_22 _ (List.mem_of_getElem? (i := 8) rfl)
theorem t_513 : Cond.selects RX1 yX1_stepsTo yX1_stepsTo ∈ gT := wk_22 _ (List.mem_of_getElem? (i := 9) rfl)
theorem t_514 : Cond.code yX1_stepsTo cX1_stepsTo 3 (some .int) ∈ gT := wk_22 _ (List.mem_of_getElem? (i := 10) rfl)
theorem t_515 : Cond.methodLink RX1 31 yX1_reaches ∈ gT := wk_22 _ (List.mem_of_getElem? (i := 11) rfl)
theorem t_516 : Cond.constantLong RX1 37 (2147483647) ∈ gT := wk_22 _ (List.mem_of_getElem? (i := 12) rfl)
theorem t_517 : Cond.methodLink RX1 39 yJ9_min_f86c9 ∈ gT := wk_22 _ (List.mem_of_getElem? (i := 13) rfl)
theorem t_518 : Cond.static yJ9_min_f86c9 ∈ gT := wk_22 _ (List.mem_of_getElem? (i := 14) rfl)
theorem t_519 : Cond.code yJ9_min_f86c9 cJ9_min_f86c9 4 (some .long) ∈ gT := wk_22 _ (List.mem_of_getElem? (i := 15) rfl)
theorem t_520 : Cond.methodLink RX6 167 yX1_firstTo ∈ gT := wk_22 _ (List.mem_of_getElem? (i := 16) rfl)
theorem t_521 : Cond.instanceMethod yX1_firstTo ∈ gT := wk_22 _ (List.mem_of_getElem? (i := 17) rfl)
theorem t_522 : Cond.selects RX1 yX1_firstTo yX1_firstTo ∈ gT := wk_22 _ (List.mem_of_getElem? (i := 18) rfl)
theorem t_523 : Cond.code yX1_firstTo cX1_firstTo 3 (some .int) ∈ gT := wk_22 _ (List.mem_of_getElem? (i := 19) rfl)
theorem t_524 : Cond.methodLink RL 74 yX6_count ∈ gT := wk_22 _ (List.mem_of_getElem? (i := 20) rfl)
theorem t_525 : Cond.instanceMethod yX6_count ∈ gT := wk_22 _ (List.mem_of_getElem? (i := 21) rfl)
theorem t_526 : Cond.selects RX6 yX6_count yX6_count ∈ gT := wk_22 _ (List.mem_of_getElem? (i := 22) rfl)
theorem t_527 : Cond.code yX6_count cX6_count 2 (some .int) ∈ gT := wk_22 _ (List.mem_of_getElem? (i := 23) rfl)
def wc_23 : List Cond := [Cond.methodLink RX6 170 yX0_openEdges, Cond.methodLink RL 78 yX6_digest, Cond.instanceMethod yX6_digest, Cond.selects RX6 yX6_digest yX6_digest, Cond.code yX6_digest cX6_digest 5 (some .long), Cond.constantLong RX6 173 (1709), Cond.methodLink RX6 175 yX6_of, Cond.methodLink RX6 178 yX6_mix, Cond.static yX6_mix, Cond.code yX6_mix cX6_mix 3 (some .long), Cond.constantLong RX6 204 (31), Cond.methodLink RX6 182 yX6_edge, Cond.methodLink RX6 185 yX6_kind, Cond.methodLink RX6 188 yX6_fewest, Cond.methodLink RX6 191 yX6_kinds, Cond.methodLink RX6 194 yX6_light, Cond.methodLink RX6 201 yX6_count, Cond.classLink RL 10 RX7, Cond.instantiable RX7 27, Cond.methodLink RL 12 yX7_init, Cond.instanceMethod yX7_init, Cond.code yX7_init cX7_init 1 none, Cond.methodLink RX7 1 objectInit, Cond.fieldLink RX7 54 "GrownGraphsModel" "pageLength" "I"]
theorem wk_23 : ∀ w ∈ wc_23, w ∈ gT := fun w h => by
  have hp : wc_23 = ([0, 1, 2, 3, 4, 5, 6, 7, 8, 9, 10, 11, 12, 13, 14, 15, 16, 17, 18, 19, 20, 21, 22, 23] : List Nat).filterMap (fun i => ((tables_1_3.drop 48).take 24)[i]?) := by decide +kernel
  have hg : wc_23.all goodWord = true := by decide +kernel
  have h2 := h
  rw [hp] at h2
  obtain ⟨i, -, hi⟩ := List.mem_filterMap.mp h2
  exact gT_tab (sub_3 (List.mem_of_mem_drop (List.mem_of_mem_take (List.mem_of_getElem? hi)))) (List.all_eq_true.mp hg w h)
theorem t_528 : Cond.methodLink RX6 170 yX0_openEdges ∈ gT := wk_23 _ (List.mem_of_getElem? (i := 0) rfl)
theorem t_529 : Cond.methodLink RL 78 yX6_digest ∈ gT := wk_23 _ (List.mem_of_getElem? (i := 1) rfl)
theorem t_530 : Cond.instanceMethod yX6_digest ∈ gT := wk_23 _ (List.mem_of_getElem? (i := 2) rfl)
theorem t_531 : Cond.selects RX6 yX6_digest yX6_digest ∈ gT := wk_23 _ (List.mem_of_getElem? (i := 3) rfl)
theorem t_532 : Cond.code yX6_digest cX6_digest 5 (some .long) ∈ gT := wk_23 _ (List.mem_of_getElem? (i := 4) rfl)
theorem t_533 : Cond.constantLong RX6 173 (1709) ∈ gT := wk_23 _ (List.mem_of_getElem? (i := 5) rfl)
theorem t_534 : Cond.methodLink RX6 175 yX6_of ∈ gT := wk_23 _ (List.mem_of_getElem? (i := 6) rfl)
theorem t_535 : Cond.methodLink RX6 178 yX6_mix ∈ gT := wk_23 _ (List.mem_of_getElem? (i := 7) rfl)
theorem t_536 : Cond.static yX6_mix ∈ gT := wk_23 _ (List.mem_of_getElem? (i := 8) rfl)
theorem t_537 : Cond.code yX6_mix cX6_mix 3 (some .long) ∈ gT := wk_23 _ (List.mem_of_getElem? (i := 9) rfl)
theorem t_538 : Cond.constantLong RX6 204 (31) ∈ gT := wk_23 _ (List.mem_of_getElem? (i := 10) rfl)
theorem t_539 : Cond.methodLink RX6 182 yX6_edge ∈ gT := wk_23 _ (List.mem_of_getElem? (i := 11) rfl)
theorem t_540 : Cond.methodLink RX6 185 yX6_kind ∈ gT := wk_23 _ (List.mem_of_getElem? (i := 12) rfl)
theorem t_541 : Cond.methodLink RX6 188 yX6_fewest ∈ gT := wk_23 _ (List.mem_of_getElem? (i := 13) rfl)
theorem t_542 : Cond.methodLink RX6 191 yX6_kinds ∈ gT := wk_23 _ (List.mem_of_getElem? (i := 14) rfl)
theorem t_543 : Cond.methodLink RX6 194 yX6_light ∈ gT := wk_23 _ (List.mem_of_getElem? (i := 15) rfl)
theorem t_544 : Cond.methodLink RX6 201 yX6_count ∈ gT := wk_23 _ (List.mem_of_getElem? (i := 16) rfl)
theorem t_545 : Cond.classLink RL 10 RX7 ∈ gT := wk_23 _ (List.mem_of_getElem? (i := 17) rfl)
theorem t_546 : Cond.instantiable RX7 27 ∈ gT := wk_23 _ (List.mem_of_getElem? (i := 18) rfl)
theorem t_547 : Cond.methodLink RL 12 yX7_init ∈ gT := wk_23 _ (List.mem_of_getElem? (i := 19) rfl)
theorem t_548 : Cond.instanceMethod yX7_init ∈ gT := wk_23 _ (List.mem_of_getElem? (i := 20) rfl)
theorem t_549 : Cond.code yX7_init cX7_init 1 none ∈ gT := wk_23 _ (List.mem_of_getElem? (i := 21) rfl)
theorem t_550 : Cond.methodLink RX7 1 objectInit ∈ gT := wk_23 _ (List.mem_of_getElem? (i := 22) rfl)
theorem t_551 : Cond.fieldLink RX7 54 "GrownGraphsModel" "pageLength" "I" ∈ gT := wk_23 _ (List.mem_of_getElem? (i := 23) rfl)
def wc_24 : List Cond := [Cond.fieldLink RX7 7 "GrownGraphsModel" "page" "[I", Cond.fieldLink RX7 94 "GrownGraphsModel" "rules" "I", Cond.fieldLink RX7 13 "GrownGraphsModel" "ruleOf" "[I", Cond.fieldLink RX7 16 "GrownGraphsModel" "ruleEdges" "[I", Cond.fieldLink RX7 19 "GrownGraphsModel" "ruleNodes" "[I", Cond.fieldLink RX7 22 "GrownGraphsModel" "ruleEdge" "[I", Cond.fieldLink RX7 108 "GrownGraphsModel" "edges" "I", Cond.fieldLink RX7 111 "GrownGraphsModel" "nodes" "I", Cond.fieldLink RX7 25 "GrownGraphsModel" "edgeAt" "[I", Cond.fieldLink RX7 114 "GrownGraphsModel" "steps" "I", Cond.fieldLink RX7 139 "GrownGraphsModel" "stepsEver" "I", Cond.fieldLink RX7 117 "GrownGraphsModel" "begun" "I", Cond.fieldLink RX7 68 "GrownGraphsModel" "newMany" "I", Cond.fieldLink RX7 28 "GrownGraphsModel" "newEdge" "[I", Cond.fieldLink RX7 71 "GrownGraphsModel" "newNodes" "I", Cond.fieldLink RX7 58 "GrownGraphsModel" "newStage" "I", Cond.fieldLink RX7 65 "GrownGraphsModel" "newNow" "I", Cond.fieldLink RX7 159 "GrownGraphsModel" "isLaid" "Z", Cond.fieldLink RX7 31 "GrownGraphsModel" "fewestAt" "[I", Cond.fieldLink RX7 34 "GrownGraphsModel" "nodesOf" "[I", Cond.fieldLink RX7 37 "GrownGraphsModel" "nodeAt" "[I", Cond.fieldLink RX7 163 "GrownGraphsModel" "isLightLaid" "Z", Cond.fieldLink RX7 40 "GrownGraphsModel" "lightAt" "[J", Cond.fieldLink RX7 44 "GrownGraphsModel" "firstAt" "[I"]
theorem wk_24 : ∀ w ∈ wc_24, w ∈ gT := fun w h => by
  have hp : wc_24 = ([0, 1, 2, 3, 4, 5, 6, 7, 8, 9, 10, 11, 12, 13, 14, 15, 16, 17, 18, 19, 20, 21, 22, 23] : List Nat).filterMap (fun i => ((tables_1_3.drop 72).take 24)[i]?) := by decide +kernel
  have hg : wc_24.all goodWord = true := by decide +kernel
  have h2 := h
  rw [hp] at h2
  obtain ⟨i, -, hi⟩ := List.mem_filterMap.mp h2
  exact gT_tab (sub_3 (List.mem_of_mem_drop (List.mem_of_mem_take (List.mem_of_getElem? hi)))) (List.all_eq_true.mp hg w h)
theorem t_552 : Cond.fieldLink RX7 7 "GrownGraphsModel" "page" "[I" ∈ gT := wk_24 _ (List.mem_of_getElem? (i := 0) rfl)
theorem t_553 : Cond.fieldLink RX7 94 "GrownGraphsModel" "rules" "I" ∈ gT := wk_24 _ (List.mem_of_getElem? (i := 1) rfl)
theorem t_554 : Cond.fieldLink RX7 13 "GrownGraphsModel" "ruleOf" "[I" ∈ gT := wk_24 _ (List.mem_of_getElem? (i := 2) rfl)
theorem t_555 : Cond.fieldLink RX7 16 "GrownGraphsModel" "ruleEdges" "[I" ∈ gT := wk_24 _ (List.mem_of_getElem? (i := 3) rfl)
theorem t_556 : Cond.fieldLink RX7 19 "GrownGraphsModel" "ruleNodes" "[I" ∈ gT := wk_24 _ (List.mem_of_getElem? (i := 4) rfl)
theorem t_557 : Cond.fieldLink RX7 22 "GrownGraphsModel" "ruleEdge" "[I" ∈ gT := wk_24 _ (List.mem_of_getElem? (i := 5) rfl)
theorem t_558 : Cond.fieldLink RX7 108 "GrownGraphsModel" "edges" "I" ∈ gT := wk_24 _ (List.mem_of_getElem? (i := 6) rfl)
theorem t_559 : Cond.fieldLink RX7 111 "GrownGraphsModel" "nodes" "I" ∈ gT := wk_24 _ (List.mem_of_getElem? (i := 7) rfl)
theorem t_560 : Cond.fieldLink RX7 25 "GrownGraphsModel" "edgeAt" "[I" ∈ gT := wk_24 _ (List.mem_of_getElem? (i := 8) rfl)
theorem t_561 : Cond.fieldLink RX7 114 "GrownGraphsModel" "steps" "I" ∈ gT := wk_24 _ (List.mem_of_getElem? (i := 9) rfl)
theorem t_562 : Cond.fieldLink RX7 139 "GrownGraphsModel" "stepsEver" "I" ∈ gT := wk_24 _ (List.mem_of_getElem? (i := 10) rfl)
theorem t_563 : Cond.fieldLink RX7 117 "GrownGraphsModel" "begun" "I" ∈ gT := wk_24 _ (List.mem_of_getElem? (i := 11) rfl)
theorem t_564 : Cond.fieldLink RX7 68 "GrownGraphsModel" "newMany" "I" ∈ gT := wk_24 _ (List.mem_of_getElem? (i := 12) rfl)
theorem t_565 : Cond.fieldLink RX7 28 "GrownGraphsModel" "newEdge" "[I" ∈ gT := wk_24 _ (List.mem_of_getElem? (i := 13) rfl)
theorem t_566 : Cond.fieldLink RX7 71 "GrownGraphsModel" "newNodes" "I" ∈ gT := wk_24 _ (List.mem_of_getElem? (i := 14) rfl)
theorem t_567 : Cond.fieldLink RX7 58 "GrownGraphsModel" "newStage" "I" ∈ gT := wk_24 _ (List.mem_of_getElem? (i := 15) rfl)
theorem t_568 : Cond.fieldLink RX7 65 "GrownGraphsModel" "newNow" "I" ∈ gT := wk_24 _ (List.mem_of_getElem? (i := 16) rfl)
theorem t_569 : Cond.fieldLink RX7 159 "GrownGraphsModel" "isLaid" "Z" ∈ gT := wk_24 _ (List.mem_of_getElem? (i := 17) rfl)
theorem t_570 : Cond.fieldLink RX7 31 "GrownGraphsModel" "fewestAt" "[I" ∈ gT := wk_24 _ (List.mem_of_getElem? (i := 18) rfl)
theorem t_571 : Cond.fieldLink RX7 34 "GrownGraphsModel" "nodesOf" "[I" ∈ gT := wk_24 _ (List.mem_of_getElem? (i := 19) rfl)
theorem t_572 : Cond.fieldLink RX7 37 "GrownGraphsModel" "nodeAt" "[I" ∈ gT := wk_24 _ (List.mem_of_getElem? (i := 20) rfl)
theorem t_573 : Cond.fieldLink RX7 163 "GrownGraphsModel" "isLightLaid" "Z" ∈ gT := wk_24 _ (List.mem_of_getElem? (i := 21) rfl)
theorem t_574 : Cond.fieldLink RX7 40 "GrownGraphsModel" "lightAt" "[J" ∈ gT := wk_24 _ (List.mem_of_getElem? (i := 22) rfl)
theorem t_575 : Cond.fieldLink RX7 44 "GrownGraphsModel" "firstAt" "[I" ∈ gT := wk_24 _ (List.mem_of_getElem? (i := 23) rfl)
def wc_25 : List Cond := [Cond.fieldLink RX7 47 "GrownGraphsModel" "classNow" "[I", Cond.fieldLink RX7 243 "GrownGraphsModel" "h" "J"]
theorem wk_25 : ∀ w ∈ wc_25, w ∈ gT := fun w h => by
  have hp : wc_25 = ([0, 1] : List Nat).filterMap (fun i => ((tables_1_3.drop 96).take 24)[i]?) := by decide +kernel
  have hg : wc_25.all goodWord = true := by decide +kernel
  have h2 := h
  rw [hp] at h2
  obtain ⟨i, -, hi⟩ := List.mem_filterMap.mp h2
  exact gT_tab (sub_3 (List.mem_of_mem_drop (List.mem_of_mem_take (List.mem_of_getElem? hi)))) (List.all_eq_true.mp hg w h)
theorem t_576 : Cond.fieldLink RX7 47 "GrownGraphsModel" "classNow" "[I" ∈ gT := wk_25 _ (List.mem_of_getElem? (i := 0) rfl)
theorem t_577 : Cond.fieldLink RX7 243 "GrownGraphsModel" "h" "J" ∈ gT := wk_25 _ (List.mem_of_getElem? (i := 1) rfl)
def wc_26 : List Cond := [Cond.methodLink RL 17 yX7_letter, Cond.instanceMethod yX7_letter, Cond.selects RX7 yX7_letter yX7_letter, Cond.code yX7_letter cX7_letter 2 (some .int), Cond.methodLink RX7 50 yX7_within, Cond.static yX7_within, Cond.code yX7_within cX7_within 3 (some .boolean), Cond.methodLink RL 22 yX7_blank, Cond.instanceMethod yX7_blank, Cond.selects RX7 yX7_blank yX7_blank, Cond.code yX7_blank cX7_blank 2 (some .int), Cond.methodLink RL 27 yX7_fault, Cond.instanceMethod yX7_fault, Cond.selects RX7 yX7_fault yX7_fault, Cond.code yX7_fault cX7_fault 2 (some .int)]
theorem wk_26 : ∀ w ∈ wc_26, w ∈ gT := fun w h => by
  have hp : wc_26 = ([9, 10, 11, 12, 13, 14, 15, 16, 17, 18, 19, 20, 21, 22, 23] : List Nat).filterMap (fun i => ((tables_1_3.drop 144).take 24)[i]?) := by decide +kernel
  have hg : wc_26.all goodWord = true := by decide +kernel
  have h2 := h
  rw [hp] at h2
  obtain ⟨i, -, hi⟩ := List.mem_filterMap.mp h2
  exact gT_tab (sub_3 (List.mem_of_mem_drop (List.mem_of_mem_take (List.mem_of_getElem? hi)))) (List.all_eq_true.mp hg w h)
theorem t_633 : Cond.methodLink RL 17 yX7_letter ∈ gT := wk_26 _ (List.mem_of_getElem? (i := 0) rfl)
theorem t_634 : Cond.instanceMethod yX7_letter ∈ gT := wk_26 _ (List.mem_of_getElem? (i := 1) rfl)
theorem t_635 : Cond.selects RX7 yX7_letter yX7_letter ∈ gT := wk_26 _ (List.mem_of_getElem? (i := 2) rfl)
theorem t_636 : Cond.code yX7_letter cX7_letter 2 (some .int) ∈ gT := wk_26 _ (List.mem_of_getElem? (i := 3) rfl)
theorem t_637 : Cond.methodLink RX7 50 yX7_within ∈ gT := wk_26 _ (List.mem_of_getElem? (i := 4) rfl)
theorem t_638 : Cond.static yX7_within ∈ gT := wk_26 _ (List.mem_of_getElem? (i := 5) rfl)
theorem t_639 : Cond.code yX7_within cX7_within 3 (some .boolean) ∈ gT := wk_26 _ (List.mem_of_getElem? (i := 6) rfl)
theorem t_640 : Cond.methodLink RL 22 yX7_blank ∈ gT := wk_26 _ (List.mem_of_getElem? (i := 7) rfl)
theorem t_641 : Cond.instanceMethod yX7_blank ∈ gT := wk_26 _ (List.mem_of_getElem? (i := 8) rfl)
theorem t_642 : Cond.selects RX7 yX7_blank yX7_blank ∈ gT := wk_26 _ (List.mem_of_getElem? (i := 9) rfl)
theorem t_643 : Cond.code yX7_blank cX7_blank 2 (some .int) ∈ gT := wk_26 _ (List.mem_of_getElem? (i := 10) rfl)
theorem t_644 : Cond.methodLink RL 27 yX7_fault ∈ gT := wk_26 _ (List.mem_of_getElem? (i := 11) rfl)
theorem t_645 : Cond.instanceMethod yX7_fault ∈ gT := wk_26 _ (List.mem_of_getElem? (i := 12) rfl)
theorem t_646 : Cond.selects RX7 yX7_fault yX7_fault ∈ gT := wk_26 _ (List.mem_of_getElem? (i := 13) rfl)
theorem t_647 : Cond.code yX7_fault cX7_fault 2 (some .int) ∈ gT := wk_26 _ (List.mem_of_getElem? (i := 14) rfl)
def wc_27 : List Cond := [Cond.methodLink RX7 82 yX7_read, Cond.instanceMethod yX7_read, Cond.code yX7_read cX7_read 3 (some .int), Cond.methodLink RX7 78 yX7_takes, Cond.instanceMethod yX7_takes, Cond.code yX7_takes cX7_takes 4 (some .boolean), Cond.methodLink RX7 74 yX7_takesEdge, Cond.instanceMethod yX7_takesEdge, Cond.code yX7_takesEdge cX7_takesEdge 4 (some .boolean), Cond.methodLink RX7 61 yX7_letterAt, Cond.static yX7_letterAt, Cond.code yX7_letterAt cX7_letterAt 2 (some .int), Cond.methodLink RL 31 yX7_rule, Cond.instanceMethod yX7_rule, Cond.selects RX7 yX7_rule yX7_rule, Cond.code yX7_rule cX7_rule 3 (some .int), Cond.methodLink RX7 86 yX7_isWhole, Cond.instanceMethod yX7_isWhole, Cond.code yX7_isWhole cX7_isWhole 2 (some .boolean), Cond.methodLink RX7 90 yX7_has]
theorem wk_27 : ∀ w ∈ wc_27, w ∈ gT := fun w h => by
  have hp : wc_27 = ([0, 2, 3, 4, 6, 7, 8, 10, 11, 12, 13, 14, 15, 16, 17, 18, 19, 21, 22, 23] : List Nat).filterMap (fun i => ((tables_1_3.drop 168).take 24)[i]?) := by decide +kernel
  have hg : wc_27.all goodWord = true := by decide +kernel
  have h2 := h
  rw [hp] at h2
  obtain ⟨i, -, hi⟩ := List.mem_filterMap.mp h2
  exact gT_tab (sub_3 (List.mem_of_mem_drop (List.mem_of_mem_take (List.mem_of_getElem? hi)))) (List.all_eq_true.mp hg w h)
theorem t_648 : Cond.methodLink RX7 82 yX7_read ∈ gT := wk_27 _ (List.mem_of_getElem? (i := 0) rfl)
theorem t_650 : Cond.instanceMethod yX7_read ∈ gT := wk_27 _ (List.mem_of_getElem? (i := 1) rfl)
theorem t_651 : Cond.code yX7_read cX7_read 3 (some .int) ∈ gT := wk_27 _ (List.mem_of_getElem? (i := 2) rfl)
theorem t_652 : Cond.methodLink RX7 78 yX7_takes ∈ gT := wk_27 _ (List.mem_of_getElem? (i := 3) rfl)
theorem t_654 : Cond.instanceMethod yX7_takes ∈ gT := wk_27 _ (List.mem_of_getElem? (i := 4) rfl)
theorem t_655 : Cond.code yX7_takes cX7_takes 4 (some .boolean) ∈ gT := wk_27 _ (List.mem_of_getElem? (i := 5) rfl)
theorem t_656 : Cond.methodLink RX7 74 yX7_takesEdge ∈ gT := wk_27 _ (List.mem_of_getElem? (i := 6) rfl)
theorem t_658 : Cond.instanceMethod yX7_takesEdge ∈ gT := wk_27 _ (List.mem_of_getElem? (i := 7) rfl)
theorem t_659 : Cond.code yX7_takesEdge cX7_takesEdge 4 (some .boolean) ∈ gT := wk_27 _ (List.mem_of_getElem? (i := 8) rfl)
theorem t_660 : Cond.methodLink RX7 61 yX7_letterAt ∈ gT := wk_27 _ (List.mem_of_getElem? (i := 9) rfl)
theorem t_661 : Cond.static yX7_letterAt ∈ gT := wk_27 _ (List.mem_of_getElem? (i := 10) rfl)
theorem t_662 : Cond.code yX7_letterAt cX7_letterAt 2 (some .int) ∈ gT := wk_27 _ (List.mem_of_getElem? (i := 11) rfl)
theorem t_663 : Cond.methodLink RL 31 yX7_rule ∈ gT := wk_27 _ (List.mem_of_getElem? (i := 12) rfl)
theorem t_664 : Cond.instanceMethod yX7_rule ∈ gT := wk_27 _ (List.mem_of_getElem? (i := 13) rfl)
theorem t_665 : Cond.selects RX7 yX7_rule yX7_rule ∈ gT := wk_27 _ (List.mem_of_getElem? (i := 14) rfl)
theorem t_666 : Cond.code yX7_rule cX7_rule 3 (some .int) ∈ gT := wk_27 _ (List.mem_of_getElem? (i := 15) rfl)
theorem t_667 : Cond.methodLink RX7 86 yX7_isWhole ∈ gT := wk_27 _ (List.mem_of_getElem? (i := 16) rfl)
theorem t_669 : Cond.instanceMethod yX7_isWhole ∈ gT := wk_27 _ (List.mem_of_getElem? (i := 17) rfl)
theorem t_670 : Cond.code yX7_isWhole cX7_isWhole 2 (some .boolean) ∈ gT := wk_27 _ (List.mem_of_getElem? (i := 18) rfl)
theorem t_671 : Cond.methodLink RX7 90 yX7_has ∈ gT := wk_27 _ (List.mem_of_getElem? (i := 19) rfl)
def wc_28 : List Cond := [Cond.static yX7_has, Cond.code yX7_has cX7_has 2 (some .boolean), Cond.methodLink RX7 97 yX7_above, Cond.static yX7_above, Cond.code yX7_above cX7_above 2 (some .int), Cond.methodLink RX7 101 yX7_altered, Cond.instanceMethod yX7_altered, Cond.code yX7_altered cX7_altered 1 none, Cond.methodLink RL 35 yX7_drop, Cond.instanceMethod yX7_drop, Cond.selects RX7 yX7_drop yX7_drop, Cond.code yX7_drop cX7_drop 4 (some .int), Cond.methodLink RX7 104 yX7_isRule, Cond.instanceMethod yX7_isRule, Cond.code yX7_isRule cX7_isRule 2 (some .boolean), Cond.methodLink RL 39 yX7_graph, Cond.instanceMethod yX7_graph, Cond.selects RX7 yX7_graph yX7_graph, Cond.code yX7_graph cX7_graph 3 (some .int), Cond.methodLink RL 44 yX7_of, Cond.instanceMethod yX7_of, Cond.selects RX7 yX7_of yX7_of]
theorem wk_28 : ∀ w ∈ wc_28, w ∈ gT := fun w h => by
  have hp : wc_28 = ([0, 1, 2, 3, 4, 5, 7, 8, 9, 10, 11, 12, 13, 15, 16, 17, 18, 19, 20, 21, 22, 23] : List Nat).filterMap (fun i => ((tables_1_3.drop 192).take 24)[i]?) := by decide +kernel
  have hg : wc_28.all goodWord = true := by decide +kernel
  have h2 := h
  rw [hp] at h2
  obtain ⟨i, -, hi⟩ := List.mem_filterMap.mp h2
  exact gT_tab (sub_3 (List.mem_of_mem_drop (List.mem_of_mem_take (List.mem_of_getElem? hi)))) (List.all_eq_true.mp hg w h)
theorem t_672 : Cond.static yX7_has ∈ gT := wk_28 _ (List.mem_of_getElem? (i := 0) rfl)
theorem t_673 : Cond.code yX7_has cX7_has 2 (some .boolean) ∈ gT := wk_28 _ (List.mem_of_getElem? (i := 1) rfl)
theorem t_674 : Cond.methodLink RX7 97 yX7_above ∈ gT := wk_28 _ (List.mem_of_getElem? (i := 2) rfl)
theorem t_675 : Cond.static yX7_above ∈ gT := wk_28 _ (List.mem_of_getElem? (i := 3) rfl)
theorem t_676 : Cond.code yX7_above cX7_above 2 (some .int) ∈ gT := wk_28 _ (List.mem_of_getElem? (i := 4) rfl)
theorem t_677 : Cond.methodLink RX7 101 yX7_altered ∈ gT := wk_28 _ (List.mem_of_getElem? (i := 5) rfl)
theorem t_679 : Cond.instanceMethod yX7_altered ∈ gT := wk_28 _ (List.mem_of_getElem? (i := 6) rfl)
theorem t_680 : Cond.code yX7_altered cX7_altered 1 none ∈ gT := wk_28 _ (List.mem_of_getElem? (i := 7) rfl)
theorem t_681 : Cond.methodLink RL 35 yX7_drop ∈ gT := wk_28 _ (List.mem_of_getElem? (i := 8) rfl)
theorem t_682 : Cond.instanceMethod yX7_drop ∈ gT := wk_28 _ (List.mem_of_getElem? (i := 9) rfl)
theorem t_683 : Cond.selects RX7 yX7_drop yX7_drop ∈ gT := wk_28 _ (List.mem_of_getElem? (i := 10) rfl)
theorem t_684 : Cond.code yX7_drop cX7_drop 4 (some .int) ∈ gT := wk_28 _ (List.mem_of_getElem? (i := 11) rfl)
theorem t_685 : Cond.methodLink RX7 104 yX7_isRule ∈ gT := wk_28 _ (List.mem_of_getElem? (i := 12) rfl)
theorem t_687 : Cond.instanceMethod yX7_isRule ∈ gT := wk_28 _ (List.mem_of_getElem? (i := 13) rfl)
theorem t_688 : Cond.code yX7_isRule cX7_isRule 2 (some .boolean) ∈ gT := wk_28 _ (List.mem_of_getElem? (i := 14) rfl)
theorem t_689 : Cond.methodLink RL 39 yX7_graph ∈ gT := wk_28 _ (List.mem_of_getElem? (i := 15) rfl)
theorem t_690 : Cond.instanceMethod yX7_graph ∈ gT := wk_28 _ (List.mem_of_getElem? (i := 16) rfl)
theorem t_691 : Cond.selects RX7 yX7_graph yX7_graph ∈ gT := wk_28 _ (List.mem_of_getElem? (i := 17) rfl)
theorem t_692 : Cond.code yX7_graph cX7_graph 3 (some .int) ∈ gT := wk_28 _ (List.mem_of_getElem? (i := 18) rfl)
theorem t_693 : Cond.methodLink RL 44 yX7_of ∈ gT := wk_28 _ (List.mem_of_getElem? (i := 19) rfl)
theorem t_694 : Cond.instanceMethod yX7_of ∈ gT := wk_28 _ (List.mem_of_getElem? (i := 20) rfl)
theorem t_695 : Cond.selects RX7 yX7_of yX7_of ∈ gT := wk_28 _ (List.mem_of_getElem? (i := 21) rfl)
def wc_29 : List Cond := [Cond.code yX7_of cX7_of 3 (some .int), Cond.methodLink RX7 120 yX7_ruleNow, Cond.instanceMethod yX7_ruleNow, Cond.code yX7_ruleNow cX7_ruleNow 3 (some .int), Cond.methodLink RL 48 yX7_begin, Cond.instanceMethod yX7_begin, Cond.selects RX7 yX7_begin yX7_begin, Cond.code yX7_begin cX7_begin 2 (some .int), Cond.methodLink RL 52 yX7_step, Cond.instanceMethod yX7_step, Cond.selects RX7 yX7_step yX7_step, Cond.code yX7_step cX7_step 7 (some .int), Cond.methodLink RX7 124 yX7_isEdge, Cond.instanceMethod yX7_isEdge, Cond.code yX7_isEdge cX7_isEdge 2 (some .boolean), Cond.methodLink RX7 127 yX7_letterOf, Cond.static yX7_letterOf, Cond.code yX7_letterOf cX7_letterOf 1 (some .int), Cond.methodLink RX7 130 yX7_fromOf, Cond.static yX7_fromOf, Cond.code yX7_fromOf cX7_fromOf 1 (some .int), Cond.methodLink RX7 133 yX7_nodeFor]
theorem wk_29 : ∀ w ∈ wc_29, w ∈ gT := fun w h => by
  have hp : wc_29 = ([0, 1, 3, 4, 5, 6, 7, 8, 9, 10, 11, 12, 13, 15, 16, 17, 18, 19, 20, 21, 22, 23] : List Nat).filterMap (fun i => ((tables_1_3.drop 216).take 24)[i]?) := by decide +kernel
  have hg : wc_29.all goodWord = true := by decide +kernel
  have h2 := h
  rw [hp] at h2
  obtain ⟨i, -, hi⟩ := List.mem_filterMap.mp h2
  exact gT_tab (sub_3 (List.mem_of_mem_drop (List.mem_of_mem_take (List.mem_of_getElem? hi)))) (List.all_eq_true.mp hg w h)
theorem t_696 : Cond.code yX7_of cX7_of 3 (some .int) ∈ gT := wk_29 _ (List.mem_of_getElem? (i := 0) rfl)
theorem t_697 : Cond.methodLink RX7 120 yX7_ruleNow ∈ gT := wk_29 _ (List.mem_of_getElem? (i := 1) rfl)
theorem t_699 : Cond.instanceMethod yX7_ruleNow ∈ gT := wk_29 _ (List.mem_of_getElem? (i := 2) rfl)
theorem t_700 : Cond.code yX7_ruleNow cX7_ruleNow 3 (some .int) ∈ gT := wk_29 _ (List.mem_of_getElem? (i := 3) rfl)
theorem t_701 : Cond.methodLink RL 48 yX7_begin ∈ gT := wk_29 _ (List.mem_of_getElem? (i := 4) rfl)
theorem t_702 : Cond.instanceMethod yX7_begin ∈ gT := wk_29 _ (List.mem_of_getElem? (i := 5) rfl)
theorem t_703 : Cond.selects RX7 yX7_begin yX7_begin ∈ gT := wk_29 _ (List.mem_of_getElem? (i := 6) rfl)
theorem t_704 : Cond.code yX7_begin cX7_begin 2 (some .int) ∈ gT := wk_29 _ (List.mem_of_getElem? (i := 7) rfl)
theorem t_705 : Cond.methodLink RL 52 yX7_step ∈ gT := wk_29 _ (List.mem_of_getElem? (i := 8) rfl)
theorem t_706 : Cond.instanceMethod yX7_step ∈ gT := wk_29 _ (List.mem_of_getElem? (i := 9) rfl)
theorem t_707 : Cond.selects RX7 yX7_step yX7_step ∈ gT := wk_29 _ (List.mem_of_getElem? (i := 10) rfl)
theorem t_708 : Cond.code yX7_step cX7_step 7 (some .int) ∈ gT := wk_29 _ (List.mem_of_getElem? (i := 11) rfl)
theorem t_709 : Cond.methodLink RX7 124 yX7_isEdge ∈ gT := wk_29 _ (List.mem_of_getElem? (i := 12) rfl)
theorem t_711 : Cond.instanceMethod yX7_isEdge ∈ gT := wk_29 _ (List.mem_of_getElem? (i := 13) rfl)
theorem t_712 : Cond.code yX7_isEdge cX7_isEdge 2 (some .boolean) ∈ gT := wk_29 _ (List.mem_of_getElem? (i := 14) rfl)
theorem t_713 : Cond.methodLink RX7 127 yX7_letterOf ∈ gT := wk_29 _ (List.mem_of_getElem? (i := 15) rfl)
theorem t_714 : Cond.static yX7_letterOf ∈ gT := wk_29 _ (List.mem_of_getElem? (i := 16) rfl)
theorem t_715 : Cond.code yX7_letterOf cX7_letterOf 1 (some .int) ∈ gT := wk_29 _ (List.mem_of_getElem? (i := 17) rfl)
theorem t_716 : Cond.methodLink RX7 130 yX7_fromOf ∈ gT := wk_29 _ (List.mem_of_getElem? (i := 18) rfl)
theorem t_717 : Cond.static yX7_fromOf ∈ gT := wk_29 _ (List.mem_of_getElem? (i := 19) rfl)
theorem t_718 : Cond.code yX7_fromOf cX7_fromOf 1 (some .int) ∈ gT := wk_29 _ (List.mem_of_getElem? (i := 20) rfl)
theorem t_719 : Cond.methodLink RX7 133 yX7_nodeFor ∈ gT := wk_29 _ (List.mem_of_getElem? (i := 21) rfl)
def wc_30 : List Cond := [Cond.instanceMethod yX7_nodeFor, Cond.code yX7_nodeFor cX7_nodeFor 3 (some .int), Cond.methodLink RX7 136 yX7_toOf, Cond.static yX7_toOf, Cond.code yX7_toOf cX7_toOf 1 (some .int), Cond.methodLink RL 56 yX7_edge, Cond.instanceMethod yX7_edge, Cond.selects RX7 yX7_edge yX7_edge, Cond.code yX7_edge cX7_edge 2 (some .int), Cond.methodLink RL 60 yX7_kind, Cond.instanceMethod yX7_kind, Cond.selects RX7 yX7_kind yX7_kind, Cond.code yX7_kind cX7_kind 1 (some .int), Cond.methodLink RX7 152 yX7_isDone, Cond.instanceMethod yX7_isDone, Cond.code yX7_isDone cX7_isDone 1 (some .boolean), Cond.methodLink RX7 149 yX7_opens, Cond.instanceMethod yX7_opens, Cond.code yX7_opens cX7_opens 3 (some .int), Cond.methodLink RX7 156 yX7_kindNow]
theorem wk_30 : ∀ w ∈ wc_30, w ∈ gT := fun w h => by
  have hp : wc_30 = ([1, 2, 3, 4, 5, 6, 7, 8, 9, 10, 11, 12, 13, 14, 16, 17, 18, 20, 21, 22] : List Nat).filterMap (fun i => ((tables_1_4.drop 0).take 24)[i]?) := by decide +kernel
  have hg : wc_30.all goodWord = true := by decide +kernel
  have h2 := h
  rw [hp] at h2
  obtain ⟨i, -, hi⟩ := List.mem_filterMap.mp h2
  exact gT_tab (sub_4 (List.mem_of_mem_drop (List.mem_of_mem_take (List.mem_of_getElem? hi)))) (List.all_eq_true.mp hg w h)
theorem t_721 : Cond.instanceMethod yX7_nodeFor ∈ gT := wk_30 _ (List.mem_of_getElem? (i := 0) rfl)
theorem t_722 : Cond.code yX7_nodeFor cX7_nodeFor 3 (some .int) ∈ gT := wk_30 _ (List.mem_of_getElem? (i := 1) rfl)
theorem t_723 : Cond.methodLink RX7 136 yX7_toOf ∈ gT := wk_30 _ (List.mem_of_getElem? (i := 2) rfl)
theorem t_724 : Cond.static yX7_toOf ∈ gT := wk_30 _ (List.mem_of_getElem? (i := 3) rfl)
theorem t_725 : Cond.code yX7_toOf cX7_toOf 1 (some .int) ∈ gT := wk_30 _ (List.mem_of_getElem? (i := 4) rfl)
theorem t_726 : Cond.methodLink RL 56 yX7_edge ∈ gT := wk_30 _ (List.mem_of_getElem? (i := 5) rfl)
theorem t_727 : Cond.instanceMethod yX7_edge ∈ gT := wk_30 _ (List.mem_of_getElem? (i := 6) rfl)
theorem t_728 : Cond.selects RX7 yX7_edge yX7_edge ∈ gT := wk_30 _ (List.mem_of_getElem? (i := 7) rfl)
theorem t_729 : Cond.code yX7_edge cX7_edge 2 (some .int) ∈ gT := wk_30 _ (List.mem_of_getElem? (i := 8) rfl)
theorem t_730 : Cond.methodLink RL 60 yX7_kind ∈ gT := wk_30 _ (List.mem_of_getElem? (i := 9) rfl)
theorem t_731 : Cond.instanceMethod yX7_kind ∈ gT := wk_30 _ (List.mem_of_getElem? (i := 10) rfl)
theorem t_732 : Cond.selects RX7 yX7_kind yX7_kind ∈ gT := wk_30 _ (List.mem_of_getElem? (i := 11) rfl)
theorem t_733 : Cond.code yX7_kind cX7_kind 1 (some .int) ∈ gT := wk_30 _ (List.mem_of_getElem? (i := 12) rfl)
theorem t_734 : Cond.methodLink RX7 152 yX7_isDone ∈ gT := wk_30 _ (List.mem_of_getElem? (i := 13) rfl)
theorem t_736 : Cond.instanceMethod yX7_isDone ∈ gT := wk_30 _ (List.mem_of_getElem? (i := 14) rfl)
theorem t_737 : Cond.code yX7_isDone cX7_isDone 1 (some .boolean) ∈ gT := wk_30 _ (List.mem_of_getElem? (i := 15) rfl)
theorem t_738 : Cond.methodLink RX7 149 yX7_opens ∈ gT := wk_30 _ (List.mem_of_getElem? (i := 16) rfl)
theorem t_740 : Cond.instanceMethod yX7_opens ∈ gT := wk_30 _ (List.mem_of_getElem? (i := 17) rfl)
theorem t_741 : Cond.code yX7_opens cX7_opens 3 (some .int) ∈ gT := wk_30 _ (List.mem_of_getElem? (i := 18) rfl)
theorem t_742 : Cond.methodLink RX7 156 yX7_kindNow ∈ gT := wk_30 _ (List.mem_of_getElem? (i := 19) rfl)
def wc_31 : List Cond := [Cond.instanceMethod yX7_kindNow, Cond.code yX7_kindNow cX7_kindNow 1 (some .int), Cond.methodLink RX7 142 yX7_leadsTo, Cond.instanceMethod yX7_leadsTo, Cond.code yX7_leadsTo cX7_leadsTo 7 (some .boolean), Cond.methodLink RX7 145 yX7_coloured, Cond.instanceMethod yX7_coloured, Cond.code yX7_coloured cX7_coloured 6 (some .int), Cond.methodLink RL 64 yX7_fewest, Cond.instanceMethod yX7_fewest, Cond.selects RX7 yX7_fewest yX7_fewest, Cond.code yX7_fewest cX7_fewest 2 (some .int), Cond.methodLink RX7 207 yX7_fewestNow, Cond.instanceMethod yX7_fewestNow, Cond.code yX7_fewestNow cX7_fewestNow 3 (some .int), Cond.methodLink RX7 204 yX7_layFewest, Cond.instanceMethod yX7_layFewest, Cond.code yX7_layFewest cX7_layFewest 3 none, Cond.methodLink RX7 197 yX7_ones, Cond.static yX7_ones]
theorem wk_31 : ∀ w ∈ wc_31, w ∈ gT := fun w h => by
  have hp : wc_31 = ([0, 1, 2, 4, 5, 6, 8, 9, 10, 11, 12, 13, 14, 16, 17, 18, 20, 21, 22, 23] : List Nat).filterMap (fun i => ((tables_1_4.drop 24).take 24)[i]?) := by decide +kernel
  have hg : wc_31.all goodWord = true := by decide +kernel
  have h2 := h
  rw [hp] at h2
  obtain ⟨i, -, hi⟩ := List.mem_filterMap.mp h2
  exact gT_tab (sub_4 (List.mem_of_mem_drop (List.mem_of_mem_take (List.mem_of_getElem? hi)))) (List.all_eq_true.mp hg w h)
theorem t_744 : Cond.instanceMethod yX7_kindNow ∈ gT := wk_31 _ (List.mem_of_getElem? (i := 0) rfl)
theorem t_745 : Cond.code yX7_kindNow cX7_kindNow 1 (some .int) ∈ gT := wk_31 _ (List.mem_of_getElem? (i := 1) rfl)
theorem t_746 : Cond.methodLink RX7 142 yX7_leadsTo ∈ gT := wk_31 _ (List.mem_of_getElem? (i := 2) rfl)
theorem t_748 : Cond.instanceMethod yX7_leadsTo ∈ gT := wk_31 _ (List.mem_of_getElem? (i := 3) rfl)
theorem t_749 : Cond.code yX7_leadsTo cX7_leadsTo 7 (some .boolean) ∈ gT := wk_31 _ (List.mem_of_getElem? (i := 4) rfl)
theorem t_750 : Cond.methodLink RX7 145 yX7_coloured ∈ gT := wk_31 _ (List.mem_of_getElem? (i := 5) rfl)
theorem t_752 : Cond.instanceMethod yX7_coloured ∈ gT := wk_31 _ (List.mem_of_getElem? (i := 6) rfl)
theorem t_753 : Cond.code yX7_coloured cX7_coloured 6 (some .int) ∈ gT := wk_31 _ (List.mem_of_getElem? (i := 7) rfl)
theorem t_754 : Cond.methodLink RL 64 yX7_fewest ∈ gT := wk_31 _ (List.mem_of_getElem? (i := 8) rfl)
theorem t_755 : Cond.instanceMethod yX7_fewest ∈ gT := wk_31 _ (List.mem_of_getElem? (i := 9) rfl)
theorem t_756 : Cond.selects RX7 yX7_fewest yX7_fewest ∈ gT := wk_31 _ (List.mem_of_getElem? (i := 10) rfl)
theorem t_757 : Cond.code yX7_fewest cX7_fewest 2 (some .int) ∈ gT := wk_31 _ (List.mem_of_getElem? (i := 11) rfl)
theorem t_758 : Cond.methodLink RX7 207 yX7_fewestNow ∈ gT := wk_31 _ (List.mem_of_getElem? (i := 12) rfl)
theorem t_760 : Cond.instanceMethod yX7_fewestNow ∈ gT := wk_31 _ (List.mem_of_getElem? (i := 13) rfl)
theorem t_761 : Cond.code yX7_fewestNow cX7_fewestNow 3 (some .int) ∈ gT := wk_31 _ (List.mem_of_getElem? (i := 14) rfl)
theorem t_762 : Cond.methodLink RX7 204 yX7_layFewest ∈ gT := wk_31 _ (List.mem_of_getElem? (i := 15) rfl)
theorem t_764 : Cond.instanceMethod yX7_layFewest ∈ gT := wk_31 _ (List.mem_of_getElem? (i := 16) rfl)
theorem t_765 : Cond.code yX7_layFewest cX7_layFewest 3 none ∈ gT := wk_31 _ (List.mem_of_getElem? (i := 17) rfl)
theorem t_766 : Cond.methodLink RX7 197 yX7_ones ∈ gT := wk_31 _ (List.mem_of_getElem? (i := 18) rfl)
theorem t_767 : Cond.static yX7_ones ∈ gT := wk_31 _ (List.mem_of_getElem? (i := 19) rfl)
def wc_32 : List Cond := [Cond.code yX7_ones cX7_ones 3 (some .int), Cond.methodLink RX7 200 yX7_laySet, Cond.instanceMethod yX7_laySet, Cond.code yX7_laySet cX7_laySet 5 none, Cond.methodLink RX7 187 yX7_layEnds, Cond.instanceMethod yX7_layEnds, Cond.code yX7_layEnds cX7_layEnds 7 none, Cond.methodLink RX7 166 yX7_at, Cond.instanceMethod yX7_at, Cond.code yX7_at cX7_at 5 (some .int), Cond.constant RX7 170 (1000000), Cond.methodLink RX7 194 yX7_byInner, Cond.instanceMethod yX7_byInner, Cond.code yX7_byInner cX7_byInner 8 (some .int), Cond.methodLink RX7 181 yX7_areUnlike, Cond.instanceMethod yX7_areUnlike, Cond.code yX7_areUnlike cX7_areUnlike 5 (some .boolean), Cond.methodLink RX7 184 yX7_bySplits]
theorem wk_32 : ∀ w ∈ wc_32, w ∈ gT := fun w h => by
  have hp : wc_32 = ([0, 1, 3, 4, 5, 7, 8, 9, 11, 12, 13, 14, 16, 17, 18, 20, 21, 22] : List Nat).filterMap (fun i => ((tables_1_4.drop 48).take 24)[i]?) := by decide +kernel
  have hg : wc_32.all goodWord = true := by decide +kernel
  have h2 := h
  rw [hp] at h2
  obtain ⟨i, -, hi⟩ := List.mem_filterMap.mp h2
  exact gT_tab (sub_4 (List.mem_of_mem_drop (List.mem_of_mem_take (List.mem_of_getElem? hi)))) (List.all_eq_true.mp hg w h)
theorem t_768 : Cond.code yX7_ones cX7_ones 3 (some .int) ∈ gT := wk_32 _ (List.mem_of_getElem? (i := 0) rfl)
theorem t_769 : Cond.methodLink RX7 200 yX7_laySet ∈ gT := wk_32 _ (List.mem_of_getElem? (i := 1) rfl)
theorem t_771 : Cond.instanceMethod yX7_laySet ∈ gT := wk_32 _ (List.mem_of_getElem? (i := 2) rfl)
theorem t_772 : Cond.code yX7_laySet cX7_laySet 5 none ∈ gT := wk_32 _ (List.mem_of_getElem? (i := 3) rfl)
theorem t_773 : Cond.methodLink RX7 187 yX7_layEnds ∈ gT := wk_32 _ (List.mem_of_getElem? (i := 4) rfl)
theorem t_775 : Cond.instanceMethod yX7_layEnds ∈ gT := wk_32 _ (List.mem_of_getElem? (i := 5) rfl)
theorem t_776 : Cond.code yX7_layEnds cX7_layEnds 7 none ∈ gT := wk_32 _ (List.mem_of_getElem? (i := 6) rfl)
theorem t_777 : Cond.methodLink RX7 166 yX7_at ∈ gT := wk_32 _ (List.mem_of_getElem? (i := 7) rfl)
theorem t_779 : Cond.instanceMethod yX7_at ∈ gT := wk_32 _ (List.mem_of_getElem? (i := 8) rfl)
theorem t_780 : Cond.code yX7_at cX7_at 5 (some .int) ∈ gT := wk_32 _ (List.mem_of_getElem? (i := 9) rfl)
theorem t_781 : Cond.constant RX7 170 (1000000) ∈ gT := wk_32 _ (List.mem_of_getElem? (i := 10) rfl)
theorem t_782 : Cond.methodLink RX7 194 yX7_byInner ∈ gT := wk_32 _ (List.mem_of_getElem? (i := 11) rfl)
theorem t_784 : Cond.instanceMethod yX7_byInner ∈ gT := wk_32 _ (List.mem_of_getElem? (i := 12) rfl)
theorem t_785 : Cond.code yX7_byInner cX7_byInner 8 (some .int) ∈ gT := wk_32 _ (List.mem_of_getElem? (i := 13) rfl)
theorem t_786 : Cond.methodLink RX7 181 yX7_areUnlike ∈ gT := wk_32 _ (List.mem_of_getElem? (i := 14) rfl)
theorem t_788 : Cond.instanceMethod yX7_areUnlike ∈ gT := wk_32 _ (List.mem_of_getElem? (i := 15) rfl)
theorem t_789 : Cond.code yX7_areUnlike cX7_areUnlike 5 (some .boolean) ∈ gT := wk_32 _ (List.mem_of_getElem? (i := 16) rfl)
theorem t_790 : Cond.methodLink RX7 184 yX7_bySplits ∈ gT := wk_32 _ (List.mem_of_getElem? (i := 17) rfl)
def wc_33 : List Cond := [Cond.instanceMethod yX7_bySplits, Cond.code yX7_bySplits cX7_bySplits 14 (some .int), Cond.methodLink RX7 174 yX7_stepsFor, Cond.instanceMethod yX7_stepsFor, Cond.code yX7_stepsFor cX7_stepsFor 3 (some .int), Cond.methodLink RX7 171 yX7_stepsOf, Cond.instanceMethod yX7_stepsOf, Cond.code yX7_stepsOf cX7_stepsOf 7 (some .int), Cond.methodLink RX7 177 yX7_areApart, Cond.instanceMethod yX7_areApart, Cond.code yX7_areApart cX7_areApart 7 (some .boolean), Cond.methodLink RX7 191 yX7_laySingles, Cond.instanceMethod yX7_laySingles, Cond.code yX7_laySingles cX7_laySingles 8 (some .boolean), Cond.methodLink RL 68 yX7_kinds, Cond.instanceMethod yX7_kinds, Cond.selects RX7 yX7_kinds yX7_kinds, Cond.code yX7_kinds cX7_kinds 2 (some .int), Cond.methodLink RX7 231 yX7_kindsNow]
theorem wk_33 : ∀ w ∈ wc_33, w ∈ gT := fun w h => by
  have hp : wc_33 = ([0, 1, 2, 4, 5, 6, 8, 9, 10, 12, 13, 14, 16, 17, 18, 19, 20, 21, 22] : List Nat).filterMap (fun i => ((tables_1_4.drop 72).take 24)[i]?) := by decide +kernel
  have hg : wc_33.all goodWord = true := by decide +kernel
  have h2 := h
  rw [hp] at h2
  obtain ⟨i, -, hi⟩ := List.mem_filterMap.mp h2
  exact gT_tab (sub_4 (List.mem_of_mem_drop (List.mem_of_mem_take (List.mem_of_getElem? hi)))) (List.all_eq_true.mp hg w h)
theorem t_792 : Cond.instanceMethod yX7_bySplits ∈ gT := wk_33 _ (List.mem_of_getElem? (i := 0) rfl)
theorem t_793 : Cond.code yX7_bySplits cX7_bySplits 14 (some .int) ∈ gT := wk_33 _ (List.mem_of_getElem? (i := 1) rfl)
theorem t_794 : Cond.methodLink RX7 174 yX7_stepsFor ∈ gT := wk_33 _ (List.mem_of_getElem? (i := 2) rfl)
theorem t_796 : Cond.instanceMethod yX7_stepsFor ∈ gT := wk_33 _ (List.mem_of_getElem? (i := 3) rfl)
theorem t_797 : Cond.code yX7_stepsFor cX7_stepsFor 3 (some .int) ∈ gT := wk_33 _ (List.mem_of_getElem? (i := 4) rfl)
theorem t_798 : Cond.methodLink RX7 171 yX7_stepsOf ∈ gT := wk_33 _ (List.mem_of_getElem? (i := 5) rfl)
theorem t_800 : Cond.instanceMethod yX7_stepsOf ∈ gT := wk_33 _ (List.mem_of_getElem? (i := 6) rfl)
theorem t_801 : Cond.code yX7_stepsOf cX7_stepsOf 7 (some .int) ∈ gT := wk_33 _ (List.mem_of_getElem? (i := 7) rfl)
theorem t_802 : Cond.methodLink RX7 177 yX7_areApart ∈ gT := wk_33 _ (List.mem_of_getElem? (i := 8) rfl)
theorem t_804 : Cond.instanceMethod yX7_areApart ∈ gT := wk_33 _ (List.mem_of_getElem? (i := 9) rfl)
theorem t_805 : Cond.code yX7_areApart cX7_areApart 7 (some .boolean) ∈ gT := wk_33 _ (List.mem_of_getElem? (i := 10) rfl)
theorem t_806 : Cond.methodLink RX7 191 yX7_laySingles ∈ gT := wk_33 _ (List.mem_of_getElem? (i := 11) rfl)
theorem t_808 : Cond.instanceMethod yX7_laySingles ∈ gT := wk_33 _ (List.mem_of_getElem? (i := 12) rfl)
theorem t_809 : Cond.code yX7_laySingles cX7_laySingles 8 (some .boolean) ∈ gT := wk_33 _ (List.mem_of_getElem? (i := 13) rfl)
theorem t_810 : Cond.methodLink RL 68 yX7_kinds ∈ gT := wk_33 _ (List.mem_of_getElem? (i := 14) rfl)
theorem t_811 : Cond.instanceMethod yX7_kinds ∈ gT := wk_33 _ (List.mem_of_getElem? (i := 15) rfl)
theorem t_812 : Cond.selects RX7 yX7_kinds yX7_kinds ∈ gT := wk_33 _ (List.mem_of_getElem? (i := 16) rfl)
theorem t_813 : Cond.code yX7_kinds cX7_kinds 2 (some .int) ∈ gT := wk_33 _ (List.mem_of_getElem? (i := 17) rfl)
theorem t_814 : Cond.methodLink RX7 231 yX7_kindsNow ∈ gT := wk_33 _ (List.mem_of_getElem? (i := 18) rfl)
def wc_34 : List Cond := [Cond.instanceMethod yX7_kindsNow, Cond.code yX7_kindsNow cX7_kindsNow 4 (some .int), Cond.methodLink RX7 228 yX7_layLights, Cond.instanceMethod yX7_layLights, Cond.code yX7_layLights cX7_layLights 3 none, Cond.methodLink RX7 222 yX7_classOf, Cond.static yX7_classOf, Cond.code yX7_classOf cX7_classOf 1 (some .int), Cond.constantLong RX7 210 (1152921504606846976), Cond.methodLink RX7 225 yX7_layRule, Cond.instanceMethod yX7_layRule, Cond.code yX7_layRule cX7_layRule 9 (some .boolean), Cond.methodLink RX7 212 yX7_layLight, Cond.instanceMethod yX7_layLight, Cond.code yX7_layLight cX7_layLight 7 (some .boolean), Cond.methodLink RX7 216 yX7_leads, Cond.instanceMethod yX7_leads, Cond.code yX7_leads cX7_leads 7 (some .boolean), Cond.methodLink RX7 219 yX7_colouredBy]
theorem wk_34 : ∀ w ∈ wc_34, w ∈ gT := fun w h => by
  have hp : wc_34 = ([0, 1, 2, 4, 5, 6, 7, 8, 9, 10, 12, 13, 14, 16, 17, 18, 20, 21, 22] : List Nat).filterMap (fun i => ((tables_1_4.drop 96).take 24)[i]?) := by decide +kernel
  have hg : wc_34.all goodWord = true := by decide +kernel
  have h2 := h
  rw [hp] at h2
  obtain ⟨i, -, hi⟩ := List.mem_filterMap.mp h2
  exact gT_tab (sub_4 (List.mem_of_mem_drop (List.mem_of_mem_take (List.mem_of_getElem? hi)))) (List.all_eq_true.mp hg w h)
theorem t_816 : Cond.instanceMethod yX7_kindsNow ∈ gT := wk_34 _ (List.mem_of_getElem? (i := 0) rfl)
theorem t_817 : Cond.code yX7_kindsNow cX7_kindsNow 4 (some .int) ∈ gT := wk_34 _ (List.mem_of_getElem? (i := 1) rfl)
theorem t_818 : Cond.methodLink RX7 228 yX7_layLights ∈ gT := wk_34 _ (List.mem_of_getElem? (i := 2) rfl)
theorem t_820 : Cond.instanceMethod yX7_layLights ∈ gT := wk_34 _ (List.mem_of_getElem? (i := 3) rfl)
theorem t_821 : Cond.code yX7_layLights cX7_layLights 3 none ∈ gT := wk_34 _ (List.mem_of_getElem? (i := 4) rfl)
theorem t_822 : Cond.methodLink RX7 222 yX7_classOf ∈ gT := wk_34 _ (List.mem_of_getElem? (i := 5) rfl)
theorem t_823 : Cond.static yX7_classOf ∈ gT := wk_34 _ (List.mem_of_getElem? (i := 6) rfl)
theorem t_824 : Cond.code yX7_classOf cX7_classOf 1 (some .int) ∈ gT := wk_34 _ (List.mem_of_getElem? (i := 7) rfl)
theorem t_825 : Cond.constantLong RX7 210 (1152921504606846976) ∈ gT := wk_34 _ (List.mem_of_getElem? (i := 8) rfl)
theorem t_826 : Cond.methodLink RX7 225 yX7_layRule ∈ gT := wk_34 _ (List.mem_of_getElem? (i := 9) rfl)
theorem t_828 : Cond.instanceMethod yX7_layRule ∈ gT := wk_34 _ (List.mem_of_getElem? (i := 10) rfl)
theorem t_829 : Cond.code yX7_layRule cX7_layRule 9 (some .boolean) ∈ gT := wk_34 _ (List.mem_of_getElem? (i := 11) rfl)
theorem t_830 : Cond.methodLink RX7 212 yX7_layLight ∈ gT := wk_34 _ (List.mem_of_getElem? (i := 12) rfl)
theorem t_832 : Cond.instanceMethod yX7_layLight ∈ gT := wk_34 _ (List.mem_of_getElem? (i := 13) rfl)
theorem t_833 : Cond.code yX7_layLight cX7_layLight 7 (some .boolean) ∈ gT := wk_34 _ (List.mem_of_getElem? (i := 14) rfl)
theorem t_834 : Cond.methodLink RX7 216 yX7_leads ∈ gT := wk_34 _ (List.mem_of_getElem? (i := 15) rfl)
theorem t_836 : Cond.instanceMethod yX7_leads ∈ gT := wk_34 _ (List.mem_of_getElem? (i := 16) rfl)
theorem t_837 : Cond.code yX7_leads cX7_leads 7 (some .boolean) ∈ gT := wk_34 _ (List.mem_of_getElem? (i := 17) rfl)
theorem t_838 : Cond.methodLink RX7 219 yX7_colouredBy ∈ gT := wk_34 _ (List.mem_of_getElem? (i := 18) rfl)
def wc_35 : List Cond := [Cond.instanceMethod yX7_colouredBy, Cond.code yX7_colouredBy cX7_colouredBy 7 (some .int), Cond.methodLink RL 73 yX7_light, Cond.instanceMethod yX7_light, Cond.selects RX7 yX7_light yX7_light, Cond.code yX7_light cX7_light 4 (some .int), Cond.methodLink RX7 234 yX7_lightNow, Cond.instanceMethod yX7_lightNow, Cond.code yX7_lightNow cX7_lightNow 5 (some .int), Cond.methodLink RL 77 yX7_count, Cond.instanceMethod yX7_count, Cond.selects RX7 yX7_count yX7_count, Cond.code yX7_count cX7_count 2 (some .int), Cond.methodLink RX7 238 yX7_howMany, Cond.instanceMethod yX7_howMany, Cond.code yX7_howMany cX7_howMany 2 (some .int), Cond.methodLink RL 82 yX7_digest, Cond.instanceMethod yX7_digest, Cond.selects RX7 yX7_digest yX7_digest, Cond.code yX7_digest cX7_digest 3 (some .long), Cond.constantLong RX7 251 (1709), Cond.methodLink RX7 247 yX7_mix]
theorem wk_35 : ∀ w ∈ wc_35, w ∈ gT := fun w h => by
  have hp : wc_35 = ([0, 1, 2, 3, 4, 5, 6, 8, 9, 10, 11, 12, 13, 14, 16, 17, 18, 19, 20, 21, 22, 23] : List Nat).filterMap (fun i => ((tables_1_4.drop 120).take 24)[i]?) := by decide +kernel
  have hg : wc_35.all goodWord = true := by decide +kernel
  have h2 := h
  rw [hp] at h2
  obtain ⟨i, -, hi⟩ := List.mem_filterMap.mp h2
  exact gT_tab (sub_4 (List.mem_of_mem_drop (List.mem_of_mem_take (List.mem_of_getElem? hi)))) (List.all_eq_true.mp hg w h)
theorem t_840 : Cond.instanceMethod yX7_colouredBy ∈ gT := wk_35 _ (List.mem_of_getElem? (i := 0) rfl)
theorem t_841 : Cond.code yX7_colouredBy cX7_colouredBy 7 (some .int) ∈ gT := wk_35 _ (List.mem_of_getElem? (i := 1) rfl)
theorem t_842 : Cond.methodLink RL 73 yX7_light ∈ gT := wk_35 _ (List.mem_of_getElem? (i := 2) rfl)
theorem t_843 : Cond.instanceMethod yX7_light ∈ gT := wk_35 _ (List.mem_of_getElem? (i := 3) rfl)
theorem t_844 : Cond.selects RX7 yX7_light yX7_light ∈ gT := wk_35 _ (List.mem_of_getElem? (i := 4) rfl)
theorem t_845 : Cond.code yX7_light cX7_light 4 (some .int) ∈ gT := wk_35 _ (List.mem_of_getElem? (i := 5) rfl)
theorem t_846 : Cond.methodLink RX7 234 yX7_lightNow ∈ gT := wk_35 _ (List.mem_of_getElem? (i := 6) rfl)
theorem t_848 : Cond.instanceMethod yX7_lightNow ∈ gT := wk_35 _ (List.mem_of_getElem? (i := 7) rfl)
theorem t_849 : Cond.code yX7_lightNow cX7_lightNow 5 (some .int) ∈ gT := wk_35 _ (List.mem_of_getElem? (i := 8) rfl)
theorem t_850 : Cond.methodLink RL 77 yX7_count ∈ gT := wk_35 _ (List.mem_of_getElem? (i := 9) rfl)
theorem t_851 : Cond.instanceMethod yX7_count ∈ gT := wk_35 _ (List.mem_of_getElem? (i := 10) rfl)
theorem t_852 : Cond.selects RX7 yX7_count yX7_count ∈ gT := wk_35 _ (List.mem_of_getElem? (i := 11) rfl)
theorem t_853 : Cond.code yX7_count cX7_count 2 (some .int) ∈ gT := wk_35 _ (List.mem_of_getElem? (i := 12) rfl)
theorem t_854 : Cond.methodLink RX7 238 yX7_howMany ∈ gT := wk_35 _ (List.mem_of_getElem? (i := 13) rfl)
theorem t_856 : Cond.instanceMethod yX7_howMany ∈ gT := wk_35 _ (List.mem_of_getElem? (i := 14) rfl)
theorem t_857 : Cond.code yX7_howMany cX7_howMany 2 (some .int) ∈ gT := wk_35 _ (List.mem_of_getElem? (i := 15) rfl)
theorem t_858 : Cond.methodLink RL 82 yX7_digest ∈ gT := wk_35 _ (List.mem_of_getElem? (i := 16) rfl)
theorem t_859 : Cond.instanceMethod yX7_digest ∈ gT := wk_35 _ (List.mem_of_getElem? (i := 17) rfl)
theorem t_860 : Cond.selects RX7 yX7_digest yX7_digest ∈ gT := wk_35 _ (List.mem_of_getElem? (i := 18) rfl)
theorem t_861 : Cond.code yX7_digest cX7_digest 3 (some .long) ∈ gT := wk_35 _ (List.mem_of_getElem? (i := 19) rfl)
theorem t_862 : Cond.constantLong RX7 251 (1709) ∈ gT := wk_35 _ (List.mem_of_getElem? (i := 20) rfl)
theorem t_863 : Cond.methodLink RX7 247 yX7_mix ∈ gT := wk_35 _ (List.mem_of_getElem? (i := 21) rfl)
def wc_36 : List Cond := [Cond.instanceMethod yX7_mix, Cond.code yX7_mix cX7_mix 3 none, Cond.constantLong RX7 241 (31), Cond.constantLong RX7 253 (-1003), Cond.methodLink RX7 255 yX7_mixOpen, Cond.instanceMethod yX7_mixOpen, Cond.code yX7_mixOpen cX7_mixOpen 3 none]
theorem wk_36 : ∀ w ∈ wc_36, w ∈ gT := fun w h => by
  have hp : wc_36 = ([1, 2, 3, 4, 5, 7, 8] : List Nat).filterMap (fun i => ((tables_1_4.drop 144).take 9)[i]?) := by decide +kernel
  have hg : wc_36.all goodWord = true := by decide +kernel
  have h2 := h
  rw [hp] at h2
  obtain ⟨i, -, hi⟩ := List.mem_filterMap.mp h2
  exact gT_tab (sub_4 (List.mem_of_mem_drop (List.mem_of_mem_take (List.mem_of_getElem? hi)))) (List.all_eq_true.mp hg w h)
theorem t_865 : Cond.instanceMethod yX7_mix ∈ gT := wk_36 _ (List.mem_of_getElem? (i := 0) rfl)
theorem t_866 : Cond.code yX7_mix cX7_mix 3 none ∈ gT := wk_36 _ (List.mem_of_getElem? (i := 1) rfl)
theorem t_867 : Cond.constantLong RX7 241 (31) ∈ gT := wk_36 _ (List.mem_of_getElem? (i := 2) rfl)
theorem t_868 : Cond.constantLong RX7 253 (-1003) ∈ gT := wk_36 _ (List.mem_of_getElem? (i := 3) rfl)
theorem t_869 : Cond.methodLink RX7 255 yX7_mixOpen ∈ gT := wk_36 _ (List.mem_of_getElem? (i := 4) rfl)
theorem t_871 : Cond.instanceMethod yX7_mixOpen ∈ gT := wk_36 _ (List.mem_of_getElem? (i := 5) rfl)
theorem t_872 : Cond.code yX7_mixOpen cX7_mixOpen 3 none ∈ gT := wk_36 _ (List.mem_of_getElem? (i := 6) rfl)
theorem ts_0 : Cond.selects RX3 yX3_fitsHead yX3_fitsHead ∈ gT := gT_sel (List.mem_of_getElem? (i := 0) (by decide +kernel)) rfl
theorem ts_1 : Cond.selects RX3 yX3_fitsEdge yX3_fitsEdge ∈ gT := gT_sel (List.mem_of_getElem? (i := 1) (by decide +kernel)) rfl
theorem ts_2 : Cond.selects RX3 yX3_isWhole yX3_isWhole ∈ gT := gT_sel (List.mem_of_getElem? (i := 2) (by decide +kernel)) rfl
theorem ts_3 : Cond.selects RX3 yX3_names yX3_names ∈ gT := gT_sel (List.mem_of_getElem? (i := 3) (by decide +kernel)) rfl
theorem ts_4 : Cond.selects RX3 yX3_namesNoGap yX3_namesNoGap ∈ gT := gT_sel (List.mem_of_getElem? (i := 4) (by decide +kernel)) rfl
theorem ts_5 : Cond.selects RX3 yX3_copyEdges yX3_copyEdges ∈ gT := gT_sel (List.mem_of_getElem? (i := 5) (by decide +kernel)) rfl
theorem ts_6 : Cond.selects RX0 yX0_put yX0_put ∈ gT := gT_sel (List.mem_of_getElem? (i := 6) (by decide +kernel)) rfl
theorem ts_7 : Cond.selects RX0 yX0_comes yX0_comes ∈ gT := gT_sel (List.mem_of_getElem? (i := 7) (by decide +kernel)) rfl
theorem ts_8 : Cond.selects RX0 yX0_allows yX0_allows ∈ gT := gT_sel (List.mem_of_getElem? (i := 8) (by decide +kernel)) rfl
theorem ts_9 : Cond.selects RX6 yX6_noteNewGraph yX6_noteNewGraph ∈ gT := gT_sel (List.mem_of_getElem? (i := 9) (by decide +kernel)) rfl
theorem ts_10 : Cond.selects RX0 yX0_nodeFor yX0_nodeFor ∈ gT := gT_sel (List.mem_of_getElem? (i := 10) (by decide +kernel)) rfl
theorem ts_11 : Cond.selects RX2 yX2_improve yX2_improve ∈ gT := gT_sel (List.mem_of_getElem? (i := 11) (by decide +kernel)) rfl
theorem ts_12 : Cond.selects RX0 yX0_nodesOf yX0_nodesOf ∈ gT := gT_sel (List.mem_of_getElem? (i := 12) (by decide +kernel)) rfl
theorem ts_13 : Cond.selects RX2 yX2_byRule yX2_byRule ∈ gT := gT_sel (List.mem_of_getElem? (i := 13) (by decide +kernel)) rfl
theorem ts_14 : Cond.selects RX2 yX2_standsApart yX2_standsApart ∈ gT := gT_sel (List.mem_of_getElem? (i := 14) (by decide +kernel)) rfl
theorem ts_15 : Cond.selects RX2 yX2_bySplit yX2_bySplit ∈ gT := gT_sel (List.mem_of_getElem? (i := 15) (by decide +kernel)) rfl
theorem ts_16 : Cond.selects RX2 yX2_bySlot yX2_bySlot ∈ gT := gT_sel (List.mem_of_getElem? (i := 16) (by decide +kernel)) rfl
theorem ts_17 : Cond.selects RX2 yX2_lower yX2_lower ∈ gT := gT_sel (List.mem_of_getElem? (i := 17) (by decide +kernel)) rfl
theorem ts_18 : Cond.selects RX6 yX6_bringLights yX6_bringLights ∈ gT := gT_sel (List.mem_of_getElem? (i := 18) (by decide +kernel)) rfl
theorem ts_19 : Cond.selects RX1 yX1_forget yX1_forget ∈ gT := gT_sel (List.mem_of_getElem? (i := 19) (by decide +kernel)) rfl
theorem ts_20 : Cond.selects RX1 yX1_offer yX1_offer ∈ gT := gT_sel (List.mem_of_getElem? (i := 20) (by decide +kernel)) rfl
theorem ts_21 : Cond.selects RX1 yX1_nearest yX1_nearest ∈ gT := gT_sel (List.mem_of_getElem? (i := 21) (by decide +kernel)) rfl
theorem ts_22 : Cond.selects RX1 yX1_settle yX1_settle ∈ gT := gT_sel (List.mem_of_getElem? (i := 22) (by decide +kernel)) rfl
theorem ts_23 : Cond.selects RX1 yX1_spread yX1_spread ∈ gT := gT_sel (List.mem_of_getElem? (i := 23) (by decide +kernel)) rfl
theorem ts_24 : Cond.selects RX1 yX1_combine yX1_combine ∈ gT := gT_sel (List.mem_of_getElem? (i := 24) (by decide +kernel)) rfl
theorem ts_25 : Cond.selects RX1 yX1_choices yX1_choices ∈ gT := gT_sel (List.mem_of_getElem? (i := 25) (by decide +kernel)) rfl
theorem ts_26 : Cond.selects RX1 yX1_settledKind yX1_settledKind ∈ gT := gT_sel (List.mem_of_getElem? (i := 26) (by decide +kernel)) rfl
theorem ts_27 : Cond.selects RX1 yX1_stepsIn yX1_stepsIn ∈ gT := gT_sel (List.mem_of_getElem? (i := 27) (by decide +kernel)) rfl
theorem ts_28 : Cond.selects RX7 yX7_read yX7_read ∈ gT := gT_sel (List.mem_of_getElem? (i := 28) (by decide +kernel)) rfl
theorem ts_29 : Cond.selects RX7 yX7_takes yX7_takes ∈ gT := gT_sel (List.mem_of_getElem? (i := 29) (by decide +kernel)) rfl
theorem ts_30 : Cond.selects RX7 yX7_takesEdge yX7_takesEdge ∈ gT := gT_sel (List.mem_of_getElem? (i := 30) (by decide +kernel)) rfl
theorem ts_31 : Cond.selects RX7 yX7_isWhole yX7_isWhole ∈ gT := gT_sel (List.mem_of_getElem? (i := 31) (by decide +kernel)) rfl
theorem ts_32 : Cond.selects RX7 yX7_altered yX7_altered ∈ gT := gT_sel (List.mem_of_getElem? (i := 32) (by decide +kernel)) rfl
theorem ts_33 : Cond.selects RX7 yX7_isRule yX7_isRule ∈ gT := gT_sel (List.mem_of_getElem? (i := 33) (by decide +kernel)) rfl
theorem ts_34 : Cond.selects RX7 yX7_ruleNow yX7_ruleNow ∈ gT := gT_sel (List.mem_of_getElem? (i := 34) (by decide +kernel)) rfl
theorem ts_35 : Cond.selects RX7 yX7_isEdge yX7_isEdge ∈ gT := gT_sel (List.mem_of_getElem? (i := 35) (by decide +kernel)) rfl
theorem ts_36 : Cond.selects RX7 yX7_nodeFor yX7_nodeFor ∈ gT := gT_sel (List.mem_of_getElem? (i := 36) (by decide +kernel)) rfl
theorem ts_37 : Cond.selects RX7 yX7_isDone yX7_isDone ∈ gT := gT_sel (List.mem_of_getElem? (i := 37) (by decide +kernel)) rfl
theorem ts_38 : Cond.selects RX7 yX7_opens yX7_opens ∈ gT := gT_sel (List.mem_of_getElem? (i := 38) (by decide +kernel)) rfl
theorem ts_39 : Cond.selects RX7 yX7_kindNow yX7_kindNow ∈ gT := gT_sel (List.mem_of_getElem? (i := 39) (by decide +kernel)) rfl
theorem ts_40 : Cond.selects RX7 yX7_leadsTo yX7_leadsTo ∈ gT := gT_sel (List.mem_of_getElem? (i := 40) (by decide +kernel)) rfl
theorem ts_41 : Cond.selects RX7 yX7_coloured yX7_coloured ∈ gT := gT_sel (List.mem_of_getElem? (i := 41) (by decide +kernel)) rfl
theorem ts_42 : Cond.selects RX7 yX7_fewestNow yX7_fewestNow ∈ gT := gT_sel (List.mem_of_getElem? (i := 42) (by decide +kernel)) rfl
theorem ts_43 : Cond.selects RX7 yX7_layFewest yX7_layFewest ∈ gT := gT_sel (List.mem_of_getElem? (i := 43) (by decide +kernel)) rfl
theorem ts_44 : Cond.selects RX7 yX7_laySet yX7_laySet ∈ gT := gT_sel (List.mem_of_getElem? (i := 44) (by decide +kernel)) rfl
theorem ts_45 : Cond.selects RX7 yX7_layEnds yX7_layEnds ∈ gT := gT_sel (List.mem_of_getElem? (i := 45) (by decide +kernel)) rfl
theorem ts_46 : Cond.selects RX7 yX7_at yX7_at ∈ gT := gT_sel (List.mem_of_getElem? (i := 46) (by decide +kernel)) rfl
theorem ts_47 : Cond.selects RX7 yX7_byInner yX7_byInner ∈ gT := gT_sel (List.mem_of_getElem? (i := 47) (by decide +kernel)) rfl
theorem ts_48 : Cond.selects RX7 yX7_areUnlike yX7_areUnlike ∈ gT := gT_sel (List.mem_of_getElem? (i := 48) (by decide +kernel)) rfl
theorem ts_49 : Cond.selects RX7 yX7_bySplits yX7_bySplits ∈ gT := gT_sel (List.mem_of_getElem? (i := 49) (by decide +kernel)) rfl
theorem ts_50 : Cond.selects RX7 yX7_stepsFor yX7_stepsFor ∈ gT := gT_sel (List.mem_of_getElem? (i := 50) (by decide +kernel)) rfl
theorem ts_51 : Cond.selects RX7 yX7_stepsOf yX7_stepsOf ∈ gT := gT_sel (List.mem_of_getElem? (i := 51) (by decide +kernel)) rfl
theorem ts_52 : Cond.selects RX7 yX7_areApart yX7_areApart ∈ gT := gT_sel (List.mem_of_getElem? (i := 52) (by decide +kernel)) rfl
theorem ts_53 : Cond.selects RX7 yX7_laySingles yX7_laySingles ∈ gT := gT_sel (List.mem_of_getElem? (i := 53) (by decide +kernel)) rfl
theorem ts_54 : Cond.selects RX7 yX7_kindsNow yX7_kindsNow ∈ gT := gT_sel (List.mem_of_getElem? (i := 54) (by decide +kernel)) rfl
theorem ts_55 : Cond.selects RX7 yX7_layLights yX7_layLights ∈ gT := gT_sel (List.mem_of_getElem? (i := 55) (by decide +kernel)) rfl
theorem ts_56 : Cond.selects RX7 yX7_layRule yX7_layRule ∈ gT := gT_sel (List.mem_of_getElem? (i := 56) (by decide +kernel)) rfl
theorem ts_57 : Cond.selects RX7 yX7_layLight yX7_layLight ∈ gT := gT_sel (List.mem_of_getElem? (i := 57) (by decide +kernel)) rfl
theorem ts_58 : Cond.selects RX7 yX7_leads yX7_leads ∈ gT := gT_sel (List.mem_of_getElem? (i := 58) (by decide +kernel)) rfl
theorem ts_59 : Cond.selects RX7 yX7_colouredBy yX7_colouredBy ∈ gT := gT_sel (List.mem_of_getElem? (i := 59) (by decide +kernel)) rfl
theorem ts_60 : Cond.selects RX7 yX7_lightNow yX7_lightNow ∈ gT := gT_sel (List.mem_of_getElem? (i := 60) (by decide +kernel)) rfl
theorem ts_61 : Cond.selects RX7 yX7_howMany yX7_howMany ∈ gT := gT_sel (List.mem_of_getElem? (i := 61) (by decide +kernel)) rfl
theorem ts_62 : Cond.selects RX7 yX7_mix yX7_mix ∈ gT := gT_sel (List.mem_of_getElem? (i := 62) (by decide +kernel)) rfl
theorem ts_63 : Cond.selects RX7 yX7_mixOpen yX7_mixOpen ∈ gT := gT_sel (List.mem_of_getElem? (i := 63) (by decide +kernel)) rfl
theorem iT_X0 : ∀ w ∈ wsX00, w ∈ gT := fun w h => by
  have hp : wsX00 = ([68, 70, 72, 74, 76] : List Nat).filterMap (fun i => tables_1[i]?) := by decide +kernel
  have hg : wsX00.all goodWord = true := by decide +kernel
  have h2 := h
  rw [hp] at h2
  obtain ⟨i, -, hi⟩ := List.mem_filterMap.mp h2
  exact gT_tab (List.mem_of_getElem? hi) (List.all_eq_true.mp hg w h)
theorem iT_X1 : ∀ w ∈ wsX10, w ∈ gT := fun w h => by
  have hp : wsX10 = ([141, 143, 145, 147, 149] : List Nat).filterMap (fun i => tables_1[i]?) := by decide +kernel
  have hg : wsX10.all goodWord = true := by decide +kernel
  have h2 := h
  rw [hp] at h2
  obtain ⟨i, -, hi⟩ := List.mem_filterMap.mp h2
  exact gT_tab (List.mem_of_getElem? hi) (List.all_eq_true.mp hg w h)
theorem iT_X2 : ∀ w ∈ wsX20, w ∈ gT := fun w h => by
  have hp : wsX20 = ([125, 127] : List Nat).filterMap (fun i => tables_1[i]?) := by decide +kernel
  have hg : wsX20.all goodWord = true := by decide +kernel
  have h2 := h
  rw [hp] at h2
  obtain ⟨i, -, hi⟩ := List.mem_filterMap.mp h2
  exact gT_tab (List.mem_of_getElem? hi) (List.all_eq_true.mp hg w h)
theorem iT_X3 : ∀ w ∈ wsX30, w ∈ gT := fun w h => by
  have hp : wsX30 = ([30, 32] : List Nat).filterMap (fun i => tables_1[i]?) := by decide +kernel
  have hg : wsX30.all goodWord = true := by decide +kernel
  have h2 := h
  rw [hp] at h2
  obtain ⟨i, -, hi⟩ := List.mem_filterMap.mp h2
  exact gT_tab (List.mem_of_getElem? hi) (List.all_eq_true.mp hg w h)
theorem iT_X4 : ∀ w ∈ wsX40, w ∈ gT := fun w h => by
  have hp : wsX40 = ([91, 93, 95, 97, 99] : List Nat).filterMap (fun i => tables_1[i]?) := by decide +kernel
  have hg : wsX40.all goodWord = true := by decide +kernel
  have h2 := h
  rw [hp] at h2
  obtain ⟨i, -, hi⟩ := List.mem_filterMap.mp h2
  exact gT_tab (List.mem_of_getElem? hi) (List.all_eq_true.mp hg w h)
theorem iT_X5 : ∀ w ∈ wsX50, w ∈ gT := fun w h => by
  have hp : wsX50 = ([110, 112] : List Nat).filterMap (fun i => tables_1[i]?) := by decide +kernel
  have hg : wsX50.all goodWord = true := by decide +kernel
  have h2 := h
  rw [hp] at h2
  obtain ⟨i, -, hi⟩ := List.mem_filterMap.mp h2
  exact gT_tab (List.mem_of_getElem? hi) (List.all_eq_true.mp hg w h)
theorem iT_X6 : ∀ w ∈ wsX60, w ∈ gT := fun w h => by
  have hp : wsX60 = ([164, 166, 168, 170, 172, 174, 176, 178, 180, 182] : List Nat).filterMap (fun i => tables_1[i]?) := by decide +kernel
  have hg : wsX60.all goodWord = true := by decide +kernel
  have h2 := h
  rw [hp] at h2
  obtain ⟨i, -, hi⟩ := List.mem_filterMap.mp h2
  exact gT_tab (List.mem_of_getElem? hi) (List.all_eq_true.mp hg w h)
theorem iT_X7 : ∀ w ∈ wsX70, w ∈ gT := fun w h => by
  have hp : wsX70 = ([578, 580, 582, 584, 586, 588, 590, 592, 594, 596, 598, 600, 602, 604, 606, 608, 610, 612, 614, 616, 618, 620, 622, 624, 626, 628, 630] : List Nat).filterMap (fun i => tables_1[i]?) := by decide +kernel
  have hg : wsX70.all goodWord = true := by decide +kernel
  have h2 := h
  rw [hp] at h2
  obtain ⟨i, -, hi⟩ := List.mem_filterMap.mp h2
  exact gT_tab (List.mem_of_getElem? hi) (List.all_eq_true.mp hg w h)
end
section
def wC (y : MethodName) (cc : ByteArray) (n : Nat) (ret : Option FieldType) : List Cond := Cond.code y cc n ret :: gT
theorem gW {y : MethodName} {cc : ByteArray} {n : Nat} {ret : Option FieldType} (h : Cond.code y cc n ret ∈ gT) : GoodIn gT (wC y cc n ret) := fun w hw => by
  rcases List.mem_cons.mp hw with rfl | h2
  · exact gT_good h
  · exact gT_good h2
theorem gV {own C : String} {idx : Nat} {y : MethodName} {cc : ByteArray} {n : Nat} {ret : Option FieldType} (h1 : Cond.methodLink own idx y ∈ gT) (h : Cond.instanceMethod y ∈ gT ∧ Cond.selects C y y ∈ gT ∧ Cond.initialized C ∈ gT ∧ Cond.code y cc n ret ∈ gT) : GoodIn gT (wsV own idx C y (wC y cc n ret)) := fun w hw => by
  rcases List.mem_append.mp hw with h2 | h2
  · simp only [List.mem_cons, List.not_mem_nil, or_false] at h2
    rcases h2 with rfl | rfl | rfl | rfl
    · exact gT_good h1
    · exact gT_good h.1
    · exact gT_good h.2.1
    · exact gT_good h.2.2.1
  · exact gW h.2.2.2 w h2
theorem gS {own : String} {idx : Nat} {y : MethodName} {cc : ByteArray} {n : Nat} {ret : Option FieldType} (h1 : Cond.methodLink own idx y ∈ gT) (h : Cond.static y ∈ gT ∧ Cond.initialized y.cls ∈ gT ∧ Cond.code y cc n ret ∈ gT) : GoodIn gT (va_wsS own idx y (wC y cc n ret)) := fun w hw => by
  rcases List.mem_append.mp hw with h2 | h2
  · simp only [List.mem_cons, List.not_mem_nil, or_false] at h2
    rcases h2 with rfl | rfl | rfl
    · exact gT_good h1
    · exact gT_good h.1
    · exact gT_good h.2.1
  · exact gW h.2.2 w h2
/-! what never changes: the classes, the array classes, the nest's links -/
abbrev gY (cI cJ cZ cR : ClassId) : List (ClassId × FieldType) := [(cI, .int), (cJ, .long), (cZ, .boolean), (cR, .object "GrownGraphs$Rule")]
def kN (U : State) : Prop := va_Nw (.methodLinkNest RX6 9 yX3_init RX6) U ∧ va_Nw (.methodLinkNest RX5 21 yX4_init RX6) U ∧ va_Nw (.methodLinkNest RX6 34 yX2_init RX6) U ∧ va_Nw (.methodLinkNest RX6 41 yX1_init RX6) U ∧ va_Nw (.methodLinkNest RX3 31 yX6_isOpen RX6) U ∧ va_Nw (.methodLinkNest RX0 32 yX6_isOpen RX6) U ∧ va_Nw (.methodLinkNest RX2 102 yX6_isOpen RX6) U ∧ va_AO "GrownGraphs$Rule" U
theorem kN.warm {s U : State} (hW : s.WarmedH U.vm) (h : kN s) : kN U := ⟨va_Nw.warmM hW h.1, va_Nw.warmM hW h.2.1, va_Nw.warmM hW h.2.2.1, va_Nw.warmM hW h.2.2.2.1, va_Nw.warmM hW h.2.2.2.2.1, va_Nw.warmM hW h.2.2.2.2.2.1, va_Nw.warmM hW h.2.2.2.2.2.2.1, va_AO.moved hW.alike h.2.2.2.2.2.2.2⟩
theorem kN.same {s U : State} (hW : s.vm = U.vm) (h : kN s) : kN U := ⟨va_Nw.same rfl hW h.1, va_Nw.same rfl hW h.2.1, va_Nw.same rfl hW h.2.2.1, va_Nw.same rfl hW h.2.2.2.1, va_Nw.same rfl hW h.2.2.2.2.1, va_Nw.same rfl hW h.2.2.2.2.2.1, va_Nw.same rfl hW h.2.2.2.2.2.2.1, va_AO.moved (by rw [hW]; exact Vm.Alike.refl _) h.2.2.2.2.2.2.2⟩
def kK (D : va_G) (cI cJ cZ cR : ClassId) (U : State) : Prop := va_K D vwCl (gY cI cJ cZ cR) U ∧ kN U
def pB (D : va_G) (cI cJ cZ cR : ClassId) (sz : Nat) (ws : va_W) (U : State) : Prop := U.heap.size = sz ∧ va_P D vwCl ws U.heap ∧ kK D cI cJ cZ cR U ∧ va_D (fun _ => True) ws
def bB (D : va_G) (A : Nat → Prop) (ws : va_W) (t : State) : Prop := va_P D vwCl ws t.heap ∧ va_D A ws
theorem pB.blind {D : va_G} {cI cJ cZ cR : ClassId} {sz : Nat} {ws : va_W} {av : List Value} : FrameBlind (va_Pc av (pB D cI cJ cZ cR sz ws)) := fun a U g mk q => by
  obtain ⟨q0, q1, qP, ⟨qK, qN⟩, qD⟩ := q
  exact ⟨q0, q1, qP, ⟨va_K.moved (u := U) (U := U.calling g mk a) (Vm.Alike.refl U.vm) qK, kN.same (s := U) rfl qN⟩, qD⟩
theorem pB.pre {D : va_G} {cI cJ cZ cR : ClassId} {ws wc : va_W} {A : Nat → Prop} {s U : State} {H : Heap} (hU : U.heap = H) (hW : s.WarmedH U.vm) (hK : kK D cI cJ cZ cR s) (hP : va_P D vwCl ws H) (hD : va_D A ws) (isC : List Nat) (hn : va_nd isC = true) (hC : isC.map (fun i => ws[i]?) = wc.map some) : pB D cI cJ cZ cR H.size wc U := by
  refine ⟨by rw [hU], ?_, ⟨va_K.moved hW.alike hK.1, hK.2.warm hW⟩, (hD.sub isC hn hC).weaken (fun _ _ _ _ => trivial)⟩
  rw [hU]
  intro k q hk
  have h1 : (isC.map (fun i => ws[i]?))[k]? = some (some q) := by rw [hC, List.getElem?_map, hk]; rfl
  rw [List.getElem?_map] at h1
  cases hi : isC[k]? with
  | none => rw [hi] at h1; cases h1
  | some i => rw [hi] at h1; exact hP i q (Option.some.inj h1)
/-! contracts, by what they answer -/
abbrev rM (fr mc ms lo : Nat) : Room := { frames := fr, cells := mc, slots := ms, locals := lo }
def CTi (l : Launch) (D : va_G) (cI cJ cZ cR : ClassId) (y : MethodName) (cc : ByteArray) (n : Nat) (ret : Option FieldType) (fr lo mc ms sz : Nat) (av : List Value) (W0 : va_W) {S : Type} (post : Int32 → S → Prop) (aft : S → va_W) : Prop := Met l y (wC y cc n ret) (rM fr mc ms lo) (va_Pc av (pB D cI cJ cZ cR sz W0)) (va_Qi post (fun u => bB D (va_A W0 sz) (aft u)) (va_A W0 sz)) mc ms (va_A W0 sz)
def CTl (l : Launch) (D : va_G) (cI cJ cZ cR : ClassId) (y : MethodName) (cc : ByteArray) (n : Nat) (ret : Option FieldType) (fr lo mc ms sz : Nat) (av : List Value) (W0 : va_W) {S : Type} (post : Int64 → S → Prop) (aft : S → va_W) : Prop := Met l y (wC y cc n ret) (rM fr mc ms lo) (va_Pc av (pB D cI cJ cZ cR sz W0)) (va_Ql post (fun u => bB D (va_A W0 sz) (aft u)) (va_A W0 sz)) mc ms (va_A W0 sz)
def CTv (l : Launch) (D : va_G) (cI cJ cZ cR : ClassId) (y : MethodName) (cc : ByteArray) (n : Nat) (ret : Option FieldType) (fr lo mc ms sz : Nat) (av : List Value) (W0 : va_W) {S : Type} (post : S → Prop) (aft : S → va_W) : Prop := Met l y (wC y cc n ret) (rM fr mc ms lo) (va_Pc av (pB D cI cJ cZ cR sz W0)) (va_Qv post (fun u => bB D (va_A W0 sz) (aft u)) (va_A W0 sz)) mc ms (va_A W0 sz)
/-- what a walk has at its start -/
def Hd (p : Program) (s : State) (m : MethodId) (meth : Method) (c : Code) (args : Array Value) (y : MethodName) (cc : ByteArray) (n : Nat) : Prop := p.tables.exec = Jvm.exec ∧ c.code = cc ∧ c.maxLocals = n ∧ s.vm.findClass y.cls = some m.cls ∧ ∀ w ∈ gT, w.before args s = true
section
variable {l : Launch} {D : va_G} {cI cJ cZ cR : ClassId} {y : MethodName} {cc : ByteArray} {n : Nat} {fr lo mc ms sz : Nat} {av : List Value} {W0 : va_W} {S : Type} {aft : S → va_W}
theorem CTi.of {ret : Option FieldType} {ty : FieldType} {post : Int32 → S → Prop} (hy : plainName y.cls = true) (hn : (lg_sl av).length ≤ n) (hret : ret = some ty)
    (body : ∀ (p : Program) (e : Env) (s : State) (m : MethodId) (below : List Frame) (meth : Method) (c : Code) (A : Nat → Prop) (Q : State → Prop) (ls : Array Slot), Hd p s m meth c av.toArray y cc n → meth.name = y.name → kK D cI cJ cZ cR s → s.heap.size = sz → va_P D vwCl W0 s.heap → va_D A W0 → (∀ q, s.heap.size ≤ q → A q) → va_S A s.heap s.heap [] → lv_has ls n (lv_args 0 av) →
      (∀ (H : Heap) (locs : List Loc) (cells slots pc : Nat) (ls : Array Slot) (v : Int32) (u : S), decode cc pc = .ok (.ireturn, 1) → narrow ty (.int v) = .int v → va_S A s.heap H locs → cells ≤ mc → slots ≤ ms → post v u → va_P D vwCl (aft u) H → va_D A (aft u) → W p l e (rM fr mc ms lo) s m av.toArray below meth c H locs cells slots Q (F0 m pc ls [.int v])) →
      W p l e (rM fr mc ms lo) s m av.toArray below meth c s.heap [] 0 0 Q (F0 m 0 ls [])) : CTi l D cI cJ cZ cR y cc n ret fr lo mc ms sz av W0 post aft := by
  subst hret
  refine Met.ofW (cc := cc) (maxL := n) (ret := some ty) hy rfl ?_
  intro p e s m args below meth c s₁ B hml hv
  obtain ⟨rfl, hsz, hP, hK, hD0⟩ := hv
  have hts := atoms_spec (ws := wC y cc n (some ty)) B.pre
  have hlocks := B.notSynchronized
  have hl := lv_entry av (n := n) hn
  rw [lg_entry_eq]
  subst hsz
  exact body p e s m below meth c _ _ _ ⟨B.exec, B.bytes, hml, findClass_of_methodNamed B.named, fun w h => hts w (List.mem_cons_of_mem _ h)⟩ (name_of_methodNamed B.named B.method).1 hK rfl hP hD0.self (fun q h => Or.inr h) va_S.rf hl (fun H locs cells slots pc ls v u hd hnr hS h1 h2 hp hP9 hD9 => by
    refine W.widen h1 h2 ?_
    exact W.zret B.exec B.bytes B.returns hnr (fun t ht hW => ⟨⟨v, u, rfl, hp, by rw [ht]; exact hP9, hD9⟩, hS.F ht⟩) hS.2.2 hd)
theorem CTl.of {ret : Option FieldType} {post : Int64 → S → Prop} (hy : plainName y.cls = true) (hn : (lg_sl av).length ≤ n) (hret : ret = some .long)
    (body : ∀ (p : Program) (e : Env) (s : State) (m : MethodId) (below : List Frame) (meth : Method) (c : Code) (A : Nat → Prop) (Q : State → Prop) (ls : Array Slot), Hd p s m meth c av.toArray y cc n → meth.name = y.name → kK D cI cJ cZ cR s → s.heap.size = sz → va_P D vwCl W0 s.heap → va_D A W0 → (∀ q, s.heap.size ≤ q → A q) → va_S A s.heap s.heap [] → lv_has ls n (lv_args 0 av) →
      (∀ (H : Heap) (locs : List Loc) (cells slots pc : Nat) (ls : Array Slot) (v : Int64) (u : S), decode cc pc = .ok (.lreturn, 1) → va_S A s.heap H locs → cells ≤ mc → slots ≤ ms → post v u → va_P D vwCl (aft u) H → va_D A (aft u) → W p l e (rM fr mc ms lo) s m av.toArray below meth c H locs cells slots Q (F0 m pc ls [.long v])) →
      W p l e (rM fr mc ms lo) s m av.toArray below meth c s.heap [] 0 0 Q (F0 m 0 ls [])) : CTl l D cI cJ cZ cR y cc n ret fr lo mc ms sz av W0 post aft := by
  subst hret
  refine Met.ofW (cc := cc) (maxL := n) (ret := some .long) hy rfl ?_
  intro p e s m args below meth c s₁ B hml hv
  obtain ⟨rfl, hsz, hP, hK, hD0⟩ := hv
  have hts := atoms_spec (ws := wC y cc n (some .long)) B.pre
  have hlocks := B.notSynchronized
  have hl := lv_entry av (n := n) hn
  rw [lg_entry_eq]
  subst hsz
  exact body p e s m below meth c _ _ _ ⟨B.exec, B.bytes, hml, findClass_of_methodNamed B.named, fun w h => hts w (List.mem_cons_of_mem _ h)⟩ (name_of_methodNamed B.named B.method).1 hK rfl hP hD0.self (fun q h => Or.inr h) va_S.rf hl (fun H locs cells slots pc ls v u hd hS h1 h2 hp hP9 hD9 => by
    refine W.widen h1 h2 ?_
    exact W.lret B.exec B.bytes B.returns (fun t ht hW => ⟨⟨v, u, rfl, hp, by rw [ht]; exact hP9, hD9⟩, hS.F ht⟩) hS.2.2 hd)
theorem CTv.of {ret : Option FieldType} {post : S → Prop} (hy : plainName y.cls = true) (hn : (lg_sl av).length ≤ n) (hret : ret = none)
    (body : ∀ (p : Program) (e : Env) (s : State) (m : MethodId) (below : List Frame) (meth : Method) (c : Code) (A : Nat → Prop) (Q : State → Prop) (ls : Array Slot), Hd p s m meth c av.toArray y cc n → meth.name = y.name → kK D cI cJ cZ cR s → s.heap.size = sz → va_P D vwCl W0 s.heap → va_D A W0 → (∀ q, s.heap.size ≤ q → A q) → va_S A s.heap s.heap [] → lv_has ls n (lv_args 0 av) →
      (∀ (H : Heap) (locs : List Loc) (cells slots pc : Nat) (ls : Array Slot) (u : S), decode cc pc = .ok (.return_, 1) → va_S A s.heap H locs → cells ≤ mc → slots ≤ ms → post u → va_P D vwCl (aft u) H → va_D A (aft u) → W p l e (rM fr mc ms lo) s m av.toArray below meth c H locs cells slots Q (F0 m pc ls [])) →
      W p l e (rM fr mc ms lo) s m av.toArray below meth c s.heap [] 0 0 Q (F0 m 0 ls [])) : CTv l D cI cJ cZ cR y cc n ret fr lo mc ms sz av W0 post aft := by
  subst hret
  refine Met.ofW (cc := cc) (maxL := n) (ret := none) hy rfl ?_
  intro p e s m args below meth c s₁ B hml hv
  obtain ⟨rfl, hsz, hP, hK, hD0⟩ := hv
  have hts := atoms_spec (ws := wC y cc n none) B.pre
  have hlocks := B.notSynchronized
  have hl := lv_entry av (n := n) hn
  rw [lg_entry_eq]
  subst hsz
  exact body p e s m below meth c _ _ _ ⟨B.exec, B.bytes, hml, findClass_of_methodNamed B.named, fun w h => hts w (List.mem_cons_of_mem _ h)⟩ (name_of_methodNamed B.named B.method).1 hK rfl hP hD0.self (fun q h => Or.inr h) va_S.rf hl (fun H locs cells slots pc ls u hd hS h1 h2 hp hP9 hD9 => by
    refine W.widen h1 h2 ?_
    exact W.vret B.exec B.bytes B.returns (fun t ht hW => ⟨⟨u, rfl, hp, by rw [ht]; exact hP9, hD9⟩, hS.F ht⟩) hS.2.2 hd)
end
section
variable {p : Program} {l : Launch} {e : Env} {R : Room} {s : State} {m : MethodId} {args : Array Value} {below : List Frame} {meth : Method} {c : Code} {H H0 : Heap} {locs : List Loc} {cells slots : Nat} {Q : State → Prop} {cc bytes : ByteArray} {pc nL maxL : Nat} {ls : Array Slot} {rest : List Value} {A : Nat → Prop} {D : va_G} {cI cJ cZ cR : ClassId} {ws wc wr : va_W} {S : Type} {aft : S → va_W} {fr lo mc ms n index b : Nat} {own C host : String} {y y0 : MethodName} {ret : Option FieldType} {As : List Value}
theorem lv_nmi {x z : Int32} (h : x = z) (k : W p l e R s m args below meth c H locs cells slots Q (F0 m pc ls (.int z :: rest))) : W p l e R s m args below meth c H locs cells slots Q (F0 m pc ls (.int x :: rest)) := by
  subst h
  exact k
theorem lv_nml {x z : Int64} (h : x = z) (k : W p l e R s m args below meth c H locs cells slots Q (F0 m pc ls (.long z :: rest))) : W p l e R s m args below meth c H locs cells slots Q (F0 m pc ls (.long x :: rest)) := by
  subst h
  exact k
theorem xc_i {st0 : List Value} {a : Array Value} {post : Int32 → S → Prop} (hrun : va_Run p l e R s m args below meth c H locs cells slots mc ms (F0 m pc ls st0) rest (va_Qi post (fun u => bB D (va_A wc H.size) (aft u)) (va_A wc H.size) a) (va_A wc H.size)) (hP : va_P D vwCl ws H) (hD : va_D A ws) (hS : va_S A H0 H locs) (hA : ∀ q, H0.size ≤ q → A q) (isC isR : List Nat) (hC : isC.map (fun i => ws[i]?) = wc.map some) (hR : isR.map (fun i => ws[i]?) = wr.map some) (hn : va_nd isR = true) (hdis : ∀ i ∈ isR, i ∉ isC)
    (kk : ∀ (r : Int32) (u : S) (H1 : Heap) (locs1 : List Loc), post r u → va_P D vwCl (wr ++ aft u) H1 → va_D A (wr ++ aft u) → va_S A H0 H1 locs1 → W p l e R s m args below meth c H1 locs1 (cells + mc) (slots + ms) Q (F0 m (pc + 3) ls (.int r :: rest))) : W p l e R s m args below meth c H locs cells slots Q (F0 m pc ls st0) := by
  have hFc := va_free (wc := wc) hD hS hA isC hC
  refine va_calli hrun hS (fun q _ h => hFc q h) hFc (fun r u t H1 locs1 ht hvm hw hB hz1 hk1 hS1 => ?_)
  obtain ⟨hP1, hD1⟩ := hB
  rw [ht] at hP1
  obtain ⟨hP2, hD2⟩ := va_join hP hD isC isR hC hR hn hdis hk1 hFc hP1 hD1
  exact kk r u H1 locs1 hw hP2 hD2 hS1
theorem xc_l {st0 : List Value} {a : Array Value} {post : Int64 → S → Prop} (hrun : va_Run p l e R s m args below meth c H locs cells slots mc ms (F0 m pc ls st0) rest (va_Ql post (fun u => bB D (va_A wc H.size) (aft u)) (va_A wc H.size) a) (va_A wc H.size)) (hP : va_P D vwCl ws H) (hD : va_D A ws) (hS : va_S A H0 H locs) (hA : ∀ q, H0.size ≤ q → A q) (isC isR : List Nat) (hC : isC.map (fun i => ws[i]?) = wc.map some) (hR : isR.map (fun i => ws[i]?) = wr.map some) (hn : va_nd isR = true) (hdis : ∀ i ∈ isR, i ∉ isC)
    (kk : ∀ (r : Int64) (u : S) (H1 : Heap) (locs1 : List Loc), post r u → va_P D vwCl (wr ++ aft u) H1 → va_D A (wr ++ aft u) → va_S A H0 H1 locs1 → W p l e R s m args below meth c H1 locs1 (cells + mc) (slots + ms) Q (F0 m (pc + 3) ls (.long r :: rest))) : W p l e R s m args below meth c H locs cells slots Q (F0 m pc ls st0) := by
  have hFc := va_free (wc := wc) hD hS hA isC hC
  refine va_calll hrun hS (fun q _ h => hFc q h) hFc (fun r u t H1 locs1 ht hvm hw hB hz1 hk1 hS1 => ?_)
  obtain ⟨hP1, hD1⟩ := hB
  rw [ht] at hP1
  obtain ⟨hP2, hD2⟩ := va_join hP hD isC isR hC hR hn hdis hk1 hFc hP1 hD1
  exact kk r u H1 locs1 hw hP2 hD2 hS1
theorem xc_v {st0 : List Value} {a : Array Value} {post : S → Prop} (hrun : va_Run p l e R s m args below meth c H locs cells slots mc ms (F0 m pc ls st0) rest (va_Qv post (fun u => bB D (va_A wc H.size) (aft u)) (va_A wc H.size) a) (va_A wc H.size)) (hP : va_P D vwCl ws H) (hD : va_D A ws) (hS : va_S A H0 H locs) (hA : ∀ q, H0.size ≤ q → A q) (isC isR : List Nat) (hC : isC.map (fun i => ws[i]?) = wc.map some) (hR : isR.map (fun i => ws[i]?) = wr.map some) (hn : va_nd isR = true) (hdis : ∀ i ∈ isR, i ∉ isC)
    (kk : ∀ (u : S) (H1 : Heap) (locs1 : List Loc), post u → va_P D vwCl (wr ++ aft u) H1 → va_D A (wr ++ aft u) → va_S A H0 H1 locs1 → W p l e R s m args below meth c H1 locs1 (cells + mc) (slots + ms) Q (F0 m (pc + 3) ls rest)) : W p l e R s m args below meth c H locs cells slots Q (F0 m pc ls st0) := by
  have hFc := va_free (wc := wc) hD hS hA isC hC
  refine va_callv hrun hS (fun q _ h => hFc q h) hFc (fun u t H1 locs1 ht hvm hw hB hz1 hk1 hS1 => ?_)
  obtain ⟨hP1, hD1⟩ := hB
  rw [ht] at hP1
  obtain ⟨hP2, hD2⟩ := va_join hP hD isC isR hC hR hn hdis hk1 hFc hP1 hD1
  exact kk u H1 locs1 hw hP2 hD2 hS1
/-! a call on an object of ours, its class by its cell -/
theorem xrV {Qc : Array Value → State → Outcome → State → Prop} {ci q0 : Nat} {fs : List Value} {T : u_T} {N : Nat} (hd : Hd p s m meth c args y0 cc nL) (hK : kK D cI cJ cZ cR s) (hP : va_P D vwCl ws H) (hD : va_D A ws) (hM : Met l y (wC y bytes maxL ret) (rM fr mc ms lo) (va_Pc (.ref b :: As) (pB D cI cJ cZ cR H.size wc)) Qc mc ms (va_A wc H.size)) (hG : GoodIn gT (wsV y0.cls index C y (wC y bytes maxL ret)))
    (hdd : y.cls = C ∧ y.cls ≠ "java/lang/invoke/MethodHandle" ∧ y.cls ≠ "java/lang/invoke/VarHandle" ∧ (parseMethodDescriptor y.desc).map (fun d => d.parameters.length) = some n) (hR : fr + 1 ≤ R.frames ∧ 8 + (maxL + 11) + lo ≤ R.locals) (he : ws[q0]? = some (b, .inr (ci, fs))) (hc : vwCl[ci]? = some (C, T, N)) (isC : List Nat) (hnC : va_nd isC = true) (hC : isC.map (fun i => ws[i]?) = wc.map some)
    (hnA : As.length = n) (hls : ls.size = nL) {st0 : List Value} (hst : st0 = As.reverse ++ .ref b :: rest) (hrs : (rest.map fun v => v.category).sum ≤ 8) (hdg : decode cc pc = .ok (.invokevirtual index, 3)) (hf : cells + mc ≤ R.cells ∧ slots + ms ≤ R.slots) :
    va_Run p l e R s m args below meth c H locs cells slots mc ms (F0 m pc ls st0) rest (Qc (Value.ref b :: As).toArray) (va_A wc H.size) := by
  obtain ⟨hx, hb, hml, hown, hts⟩ := hd
  exact va_runV (As := As) (rest := rest) (C := C) ⟨hx, hb, hml, hown, hts⟩ hM (cwV n hts hG rfl rfl rfl hdd hR) ⟨pB.blind, va_recv hK.1 hP hc he, fun U hU hW => ⟨rfl, pB.pre hU hW hK hP hD isC hnC hC⟩⟩ rfl hnA hls hst (lv_room hrs) hdg hf
theorem xrS {Qc : Array Value → State → Outcome → State → Prop} (hd : Hd p s m meth c args y0 cc nL) (hK : kK D cI cJ cZ cR s) (hP : va_P D vwCl ws H) (hD : va_D A ws) (hM : Met l y (wC y bytes maxL ret) (rM fr mc ms lo) (va_Pc As (pB D cI cJ cZ cR H.size wc)) Qc mc ms (va_A wc H.size)) (hG : GoodIn gT (va_wsS y0.cls index y (wC y bytes maxL ret)))
    (hdd : y.cls ≠ "java/lang/invoke/MethodHandle" ∧ y.cls ≠ "java/lang/invoke/VarHandle" ∧ (parseMethodDescriptor y.desc).map (fun d => d.parameters.length) = some n) (hR : fr + 1 ≤ R.frames ∧ 8 + (maxL + 11) + lo ≤ R.locals) (isC : List Nat) (hnC : va_nd isC = true) (hC : isC.map (fun i => ws[i]?) = wc.map some)
    (hnA : As.length = n) (hls : ls.size = nL) {st0 : List Value} (hst : st0 = As.reverse ++ rest) (hrs : (rest.map fun v => v.category).sum ≤ 8) (hdg : decode cc pc = .ok (.invokestatic index, 3)) (hf : cells + mc ≤ R.cells ∧ slots + ms ≤ R.slots) :
    va_Run p l e R s m args below meth c H locs cells slots mc ms (F0 m pc ls st0) rest (Qc As.toArray) (va_A wc H.size) := by
  obtain ⟨hx, hb, hml, hown, hts⟩ := hd
  exact va_runS (As := As) (rest := rest) ⟨hx, hb, hml, hown, hts⟩ hM (va_cwS n hts hG rfl rfl rfl hdd hR) ⟨pB.blind, fun U hU hW => ⟨rfl, pB.pre hU hW hK hP hD isC hnC hC⟩⟩ rfl hnA hls hst (lv_room hrs) hdg hf
theorem xrSN {Qc : Array Value → State → Outcome → State → Prop} (hd : Hd p s m meth c args y0 cc nL) (hK : kK D cI cJ cZ cR s) (hP : va_P D vwCl ws H) (hD : va_D A ws) (hM : Met l y (wC y bytes maxL ret) (rM fr mc ms lo) (va_Pc As (pB D cI cJ cZ cR H.size wc)) Qc mc ms (va_A wc H.size)) (hcd : Cond.code y bytes maxL ret ∈ gT) (hst0 : Cond.static y ∈ gT) (hin0 : Cond.initialized y.cls ∈ gT) (hln : va_Nw (.methodLinkNest y0.cls index y host) s)
    (hdd : y.cls ≠ "java/lang/invoke/MethodHandle" ∧ y.cls ≠ "java/lang/invoke/VarHandle" ∧ (parseMethodDescriptor y.desc).map (fun d => d.parameters.length) = some n) (hR : fr + 1 ≤ R.frames ∧ 8 + (maxL + 11) + lo ≤ R.locals) (isC : List Nat) (hnC : va_nd isC = true) (hC : isC.map (fun i => ws[i]?) = wc.map some)
    (hnA : As.length = n) (hls : ls.size = nL) {st0 : List Value} (hst : st0 = As.reverse ++ rest) (hrs : (rest.map fun v => v.category).sum ≤ 8) (hdg : decode cc pc = .ok (.invokestatic index, 3)) (hf : cells + mc ≤ R.cells ∧ slots + ms ≤ R.slots) :
    va_Run p l e R s m args below meth c H locs cells slots mc ms (F0 m pc ls st0) rest (Qc As.toArray) (va_A wc H.size) := by
  obtain ⟨hx, hb, hml, hown, hts⟩ := hd
  exact va_runSN (As := As) (rest := rest) ⟨hx, hb, hml, hown, hts⟩ hM ⟨va_cnB n hts (gW hcd) rfl rfl rfl hln (hts _ hin0) hdd hR, hts _ hst0, trivial⟩ ⟨pB.blind, fun U hU hW => ⟨rfl, pB.pre hU hW hK hP hD isC hnC hC⟩⟩ rfl hnA hls hst (lv_room hrs) hdg hf
theorem xrI {Qc : Array Value → State → Outcome → State → Prop} (hd : Hd p s m meth c args y0 cc nL) (hK : kK D cI cJ cZ cR s) (hP : va_P D vwCl ws H) (hD : va_D A ws) (hM : Met l y (wC y bytes maxL none) (rM fr mc ms lo) (va_Pc (.ref b :: As) (pB D cI cJ cZ cR H.size wc)) Qc mc ms (va_A wc H.size)) (hcd : Cond.code y bytes maxL none ∈ gT) (hin0 : Cond.initialized y.cls ∈ gT) (hln : Cond.methodLink y0.cls index y ∈ gT) (him : Cond.instanceMethod y ∈ gT) (hy1 : y.name = "<init>")
    (hdd : y.cls ≠ "java/lang/invoke/MethodHandle" ∧ y.cls ≠ "java/lang/invoke/VarHandle" ∧ (parseMethodDescriptor y.desc).map (fun d => d.parameters.length) = some n) (hR : fr + 1 ≤ R.frames ∧ 8 + (maxL + 11) + lo ≤ R.locals) (isC : List Nat) (hnC : va_nd isC = true) (hC : isC.map (fun i => ws[i]?) = wc.map some)
    (hnA : As.length = n) (hls : ls.size = nL) {st0 : List Value} (hst : st0 = As.reverse ++ .ref b :: rest) (hrs : (rest.map fun v => v.category).sum ≤ 8) (hdg : decode cc pc = .ok (.invokespecial index, 3)) (hf : cells + mc ≤ R.cells ∧ slots + ms ≤ R.slots) :
    va_Run p l e R s m args below meth c H locs cells slots mc ms (F0 m pc ls st0) rest (Qc (Value.ref b :: As).toArray) (va_A wc H.size) := by
  obtain ⟨hx, hb, hml, hown, hts⟩ := hd
  exact va_runI (As := As) (rest := rest) ⟨hx, hb, hml, hown, hts⟩ hM (cwI n hts (gW hcd) rfl rfl rfl (hts _ hin0) (hts _ hln) (hts _ him) hy1 hdd hR) ⟨pB.blind, fun U hU hW => ⟨rfl, pB.pre hU hW hK hP hD isC hnC hC⟩⟩ rfl hnA hls hst (lv_room hrs) hdg hf
theorem xrIN {Qc : Array Value → State → Outcome → State → Prop} (hd : Hd p s m meth c args y0 cc nL) (hK : kK D cI cJ cZ cR s) (hP : va_P D vwCl ws H) (hD : va_D A ws) (hM : Met l y (wC y bytes maxL none) (rM fr mc ms lo) (va_Pc (.ref b :: As) (pB D cI cJ cZ cR H.size wc)) Qc mc ms (va_A wc H.size)) (hcd : Cond.code y bytes maxL none ∈ gT) (hin0 : Cond.initialized y.cls ∈ gT) (hln : va_Nw (.methodLinkNest y0.cls index y host) s) (him : Cond.instanceMethod y ∈ gT) (hy1 : y.name = "<init>")
    (hdd : y.cls ≠ "java/lang/invoke/MethodHandle" ∧ y.cls ≠ "java/lang/invoke/VarHandle" ∧ (parseMethodDescriptor y.desc).map (fun d => d.parameters.length) = some n) (hR : fr + 1 ≤ R.frames ∧ 8 + (maxL + 11) + lo ≤ R.locals) (isC : List Nat) (hnC : va_nd isC = true) (hC : isC.map (fun i => ws[i]?) = wc.map some)
    (hnA : As.length = n) (hls : ls.size = nL) {st0 : List Value} (hst : st0 = As.reverse ++ .ref b :: rest) (hrs : (rest.map fun v => v.category).sum ≤ 8) (hdg : decode cc pc = .ok (.invokespecial index, 3)) (hf : cells + mc ≤ R.cells ∧ slots + ms ≤ R.slots) :
    va_Run p l e R s m args below meth c H locs cells slots mc ms (F0 m pc ls st0) rest (Qc (Value.ref b :: As).toArray) (va_A wc H.size) := by
  obtain ⟨hx, hb, hml, hown, hts⟩ := hd
  exact va_runIN (As := As) (rest := rest) ⟨hx, hb, hml, hown, hts⟩ hM ⟨va_cnB n hts (gW hcd) rfl rfl rfl hln (hts _ hin0) hdd hR, hy1, hts _ him⟩ ⟨pB.blind, fun U hU hW => ⟨rfl, pB.pre hU hW hK hP hD isC hnC hC⟩⟩ rfl hnA hls hst (lv_room hrs) hdg hf
/-! new rows of the array classes that are known -/
theorem same_arr {tys : List (ClassId × FieldType)} {cA cB : ClassId} {ty : FieldType} (h : va_K D vwCl tys s) (i j : Nat) (hi : tys[i]? = some (cA, ty)) (hj : tys[j]? = some (cB, ty)) : cA = cB := by
  have h1 := (h.2 i _ hi).2
  have h2 := (h.2 j _ hj).2
  unfold va_RA at h1 h2
  cases ty with
  | object C =>
    obtain ⟨-, -, -, -, -, e1⟩ := h1
    obtain ⟨-, -, -, -, -, e2⟩ := h2
    exact Option.some.inj (e1.symm.trans e2)
  | _ => exact Option.some.inj (h1.symm.trans h2)
theorem nw_I {N' : Nat} {k : Int32} (hx : p.tables.exec = Jvm.exec) (hb : c.code = cc) (harr : (Cond.arrayClass .int).before args s = true) (hK : kK D cI cJ cZ cR s) (hP : va_P D vwCl ws H) (hD : va_D A ws) (hS : va_S A H0 H locs) (hA : ∀ q, H0.size ≤ q → A q) (hn : ¬ k < 0) (hN : k.toNatClampNeg = N') (hbytes : N' * 4 ≤ 536870912) (hcells : cells + 1 ≤ R.cells) (hslots : slots + N' ≤ R.slots) (hdg : decode cc pc = .ok (.newarray .int, 2))
    (kk : ∀ (q : Nat) (H1 : Heap), va_P D vwCl (ws ++ [(q, .inl (cI, N', .inl (fun _ => 0)))]) H1 → va_D A (ws ++ [(q, .inl (cI, N', .inl (fun _ => 0)))]) → va_S A H0 H1 locs → W p l e R s m args below meth c H1 locs (cells + 1) (slots + N') Q (F0 m (pc + 2) ls (.ref q :: rest))) : W p l e R s m args below meth c H locs cells slots Q (F0 m pc ls (.int k :: rest)) := by
  refine va_newa (atype := .int) (ty := .int) (a0 := (N', .inl (fun _ => 0))) hx hb harr rfl hK.1 hP hD hS hA (fun _ => rfl) hn hN hbytes hcells hslots hdg (fun q cA H1 hK2 hP2 hD2 hS2 => ?_)
  have hc : cA = cI := same_arr hK2 4 0 rfl rfl
  subst hc
  exact kk q H1 hP2 hD2 hS2
theorem nw_J {N' : Nat} {k : Int32} (hx : p.tables.exec = Jvm.exec) (hb : c.code = cc) (harr : (Cond.arrayClass .long).before args s = true) (hK : kK D cI cJ cZ cR s) (hP : va_P D vwCl ws H) (hD : va_D A ws) (hS : va_S A H0 H locs) (hA : ∀ q, H0.size ≤ q → A q) (hn : ¬ k < 0) (hN : k.toNatClampNeg = N') (hbytes : N' * 8 ≤ 536870912) (hcells : cells + 1 ≤ R.cells) (hslots : slots + N' ≤ R.slots) (hdg : decode cc pc = .ok (.newarray .long, 2))
    (kk : ∀ (q : Nat) (H1 : Heap), va_P D vwCl (ws ++ [(q, .inl (cJ, N', .inr (.inl (fun _ => 0))))]) H1 → va_D A (ws ++ [(q, .inl (cJ, N', .inr (.inl (fun _ => 0))))]) → va_S A H0 H1 locs → W p l e R s m args below meth c H1 locs (cells + 1) (slots + N') Q (F0 m (pc + 2) ls (.ref q :: rest))) : W p l e R s m args below meth c H locs cells slots Q (F0 m pc ls (.int k :: rest)) := by
  refine va_newa (atype := .long) (ty := .long) (a0 := (N', .inr (.inl (fun _ => 0)))) hx hb harr rfl hK.1 hP hD hS hA (fun _ => rfl) hn hN hbytes hcells hslots hdg (fun q cA H1 hK2 hP2 hD2 hS2 => ?_)
  have hc : cA = cJ := same_arr hK2 4 1 rfl rfl
  subst hc
  exact kk q H1 hP2 hD2 hS2
theorem nw_Z {N' : Nat} {k : Int32} (hx : p.tables.exec = Jvm.exec) (hb : c.code = cc) (harr : (Cond.arrayClass .boolean).before args s = true) (hK : kK D cI cJ cZ cR s) (hP : va_P D vwCl ws H) (hD : va_D A ws) (hS : va_S A H0 H locs) (hA : ∀ q, H0.size ≤ q → A q) (hn : ¬ k < 0) (hN : k.toNatClampNeg = N') (hbytes : N' * 1 ≤ 536870912) (hcells : cells + 1 ≤ R.cells) (hslots : slots + N' ≤ R.slots) (hdg : decode cc pc = .ok (.newarray .boolean, 2))
    (kk : ∀ (q : Nat) (H1 : Heap), va_P D vwCl (ws ++ [(q, .inl (cZ, N', .inl (fun _ => 0)))]) H1 → va_D A (ws ++ [(q, .inl (cZ, N', .inl (fun _ => 0)))]) → va_S A H0 H1 locs → W p l e R s m args below meth c H1 locs (cells + 1) (slots + N') Q (F0 m (pc + 2) ls (.ref q :: rest))) : W p l e R s m args below meth c H locs cells slots Q (F0 m pc ls (.int k :: rest)) := by
  refine va_newa (atype := .boolean) (ty := .boolean) (a0 := (N', .inl (fun _ => 0))) hx hb harr rfl hK.1 hP hD hS hA (fun _ => rfl) hn hN hbytes hcells hslots hdg (fun q cA H1 hK2 hP2 hD2 hS2 => ?_)
  have hc : cA = cZ := same_arr hK2 4 2 rfl rfl
  subst hc
  exact kk q H1 hP2 hD2 hS2
theorem nw_Q {N' idx : Nat} {k : Int32} {own1 : String} (hx : p.tables.exec = Jvm.exec) (hb : c.code = cc) (hown : s.vm.findClass own1 = some m.cls) (hcl : (Cond.classLink own1 idx "GrownGraphs$Rule").before args s = true) (hK : kK D cI cJ cZ cR s) (hP : va_P D vwCl ws H) (hD : va_D A ws) (hS : va_S A H0 H locs) (hA : ∀ q, H0.size ≤ q → A q) (hn : ¬ k < 0) (hN : k.toNatClampNeg = N') (hbytes : N' * 4 ≤ 536870912) (hcells : cells + 1 ≤ R.cells) (hslots : slots + N' ≤ R.slots) (hdg : decode cc pc = .ok (.anewarray idx, 3))
    (kk : ∀ (q : Nat) (H1 : Heap), va_P D vwCl (ws ++ [(q, .inl (cR, N', .inr (.inr (.inr (.inr (fun _ => none))))))]) H1 → va_D A (ws ++ [(q, .inl (cR, N', .inr (.inr (.inr (.inr (fun _ => none))))))]) → va_S A H0 H1 locs → W p l e R s m args below meth c H1 locs (cells + 1) (slots + N') Q (F0 m (pc + 3) ls (.ref q :: rest))) : W p l e R s m args below meth c H locs cells slots Q (F0 m pc ls (.int k :: rest)) := by
  refine va_newq hx hb hown hcl hK.2.2.2.2.2.2.2.2 hK.1 hP hD hS hA hn hN hbytes hcells hslots hdg (fun q cA H1 hK2 hP2 hD2 hS2 => ?_)
  have hc : cA = cR := same_arr hK2 4 3 rfl rfl
  subst hc
  exact kk q H1 hP2 hD2 hS2
end

theorem vin {i : Int32} {n : Nat} (h : (decide (i < 0) || decide (n ≤ i.toNatClampNeg)) = false) : vp_in i n := fun q => by
  rcases q with q | q
  · rw [decide_eq_true q] at h; cases h
  · rw [decide_eq_true q, Bool.or_true] at h; cases h
theorem sw_7 (x : Int32) : x = 0 ∨ x = 1 ∨ x = 2 ∨ x = 3 ∨ x = 4 ∨ x = 5 ∨ x = 6 ∨ x = 7 ∨ (x.toInt < 0 ∨ 7 < x.toInt) := by
  simp only [← Int32.toInt_inj]
  have h0 : (0 : Int32).toInt = 0 := by decide
  have h1 : (1 : Int32).toInt = 1 := by decide
  have h2 : (2 : Int32).toInt = 2 := by decide
  have h3 : (3 : Int32).toInt = 3 := by decide
  have h4 : (4 : Int32).toInt = 4 := by decide
  have h5 : (5 : Int32).toInt = 5 := by decide
  have h6 : (6 : Int32).toInt = 6 := by decide
  have h7 : (7 : Int32).toInt = 7 := by decide
  omega
theorem df_X0 : ∀ j, j < 5 → defaultValue (tyX0 j) = vp_V [.null, .null, .null, .int 0, .int 0] j := fun j hj => by
  rcases (show j = 0 ∨ j = 1 ∨ j = 2 ∨ j = 3 ∨ j = 4 by omega) with rfl | rfl | rfl | rfl | rfl <;> rfl
theorem df_X1 : ∀ j, j < 5 → defaultValue (tyX1 j) = vp_V [.null, .null, .null, .null, .null] j := fun j hj => by
  rcases (show j = 0 ∨ j = 1 ∨ j = 2 ∨ j = 3 ∨ j = 4 by omega) with rfl | rfl | rfl | rfl | rfl <;> rfl
theorem df_X2 : ∀ j, j < 2 → defaultValue (tyX2 j) = vp_V [.null, .null] j := fun j hj => by
  rcases (show j = 0 ∨ j = 1 by omega) with rfl | rfl <;> rfl
theorem df_X3 : ∀ j, j < 2 → defaultValue (tyX3 j) = vp_V [.null, .int 0] j := fun j hj => by
  rcases (show j = 0 ∨ j = 1 by omega) with rfl | rfl <;> rfl
theorem df_X4 : ∀ j, j < 5 → defaultValue (tyX4 j) = vp_V [.int 0, .null, .null, .null, .null] j := fun j hj => by
  rcases (show j = 0 ∨ j = 1 ∨ j = 2 ∨ j = 3 ∨ j = 4 by omega) with rfl | rfl | rfl | rfl | rfl <;> rfl
theorem df_X5 : ∀ j, j < 2 → defaultValue (tyX5 j) = vp_V [.null, .int 0] j := fun j hj => by
  rcases (show j = 0 ∨ j = 1 by omega) with rfl | rfl <;> rfl
theorem df_X6 : ∀ j, j < 10 → defaultValue (tyX6 j) = vp_V [.null, .null, .null, .null, .null, .int 0, .int 0, .int 0, .int 0, .int 0] j := fun j hj => by
  rcases (show j = 0 ∨ j = 1 ∨ j = 2 ∨ j = 3 ∨ j = 4 ∨ j = 5 ∨ j = 6 ∨ j = 7 ∨ j = 8 ∨ j = 9 by omega) with rfl | rfl | rfl | rfl | rfl | rfl | rfl | rfl | rfl | rfl <;> rfl
theorem df_X7 : ∀ j, j < 27 → defaultValue (tyX7 j) = vp_V [.int 0, .null, .int 0, .null, .null, .null, .null, .int 0, .int 0, .null, .int 0, .int 0, .int 0, .int 0, .null, .int 0, .int 0, .int 0, .int 0, .null, .null, .null, .int 0, .null, .null, .null, .long 0] j := fun j hj => by
  rcases (show j = 0 ∨ j = 1 ∨ j = 2 ∨ j = 3 ∨ j = 4 ∨ j = 5 ∨ j = 6 ∨ j = 7 ∨ j = 8 ∨ j = 9 ∨ j = 10 ∨ j = 11 ∨ j = 12 ∨ j = 13 ∨ j = 14 ∨ j = 15 ∨ j = 16 ∨ j = 17 ∨ j = 18 ∨ j = 19 ∨ j = 20 ∨ j = 21 ∨ j = 22 ∨ j = 23 ∨ j = 24 ∨ j = 25 ∨ j = 26 by omega) with rfl | rfl | rfl | rfl | rfl | rfl | rfl | rfl | rfl | rfl | rfl | rfl | rfl | rfl | rfl | rfl | rfl | rfl | rfl | rfl | rfl | rfl | rfl | rfl | rfl | rfl | rfl <;> rfl
end
section
/-! the cells, by short names -/
abbrev kX0 (a : Nat) (x0 : Nat) (x1 : Nat) (x2 : Nat) (x3 : Int32) (x4 : Int32) : Nat × va_E := (a, .inr (0, [.ref x0, .ref x1, .ref x2, .int x3, .int x4]))
abbrev kX1 (a : Nat) (x0 : Nat) (x1 : Nat) (x2 : Nat) (x3 : Nat) (x4 : Nat) : Nat × va_E := (a, .inr (1, [.ref x0, .ref x1, .ref x2, .ref x3, .ref x4]))
abbrev kX2 (a : Nat) (x0 : Nat) (x1 : Nat) : Nat × va_E := (a, .inr (2, [.ref x0, .ref x1]))
abbrev kX3 (a : Nat) (x0 : Nat) (x1 : Int32) : Nat × va_E := (a, .inr (3, [.ref x0, .int x1]))
abbrev kX4 (a : Nat) (x0 : Int32) (x1 : Nat) (x2 : Nat) (x3 : Nat) (x4 : Nat) : Nat × va_E := (a, .inr (4, [.int x0, .ref x1, .ref x2, .ref x3, .ref x4]))
abbrev kX5 (a : Nat) (x0 : Nat) (x1 : Int32) : Nat × va_E := (a, .inr (5, [.ref x0, .int x1]))
abbrev kX6 (a : Nat) (x0 : Nat) (x1 : Nat) (x2 : Nat) (x3 : Nat) (x4 : Nat) (x5 : Int32) (x6 : Int32) (x7 : Int32) (x8 : Int32) (x9 : Int32) : Nat × va_E := (a, .inr (6, [.ref x0, .ref x1, .ref x2, .ref x3, .ref x4, .int x5, .int x6, .int x7, .int x8, .int x9]))
abbrev kX7 (a : Nat) (x0 : Int32) (x1 : Nat) (x2 : Int32) (x3 : Nat) (x4 : Nat) (x5 : Nat) (x6 : Nat) (x7 : Int32) (x8 : Int32) (x9 : Nat) (x10 : Int32) (x11 : Int32) (x12 : Int32) (x13 : Int32) (x14 : Nat) (x15 : Int32) (x16 : Int32) (x17 : Int32) (x18 : Int32) (x19 : Nat) (x20 : Nat) (x21 : Nat) (x22 : Int32) (x23 : Nat) (x24 : Nat) (x25 : Nat) (x26 : Int64) : Nat × va_E := (a, .inr (7, [.int x0, .ref x1, .int x2, .ref x3, .ref x4, .ref x5, .ref x6, .int x7, .int x8, .ref x9, .int x10, .int x11, .int x12, .int x13, .ref x14, .int x15, .int x16, .int x17, .int x18, .ref x19, .ref x20, .ref x21, .int x22, .ref x23, .ref x24, .ref x25, .long x26]))
abbrev kI (c : ClassId) (a n : Nat) (f : Nat → Int32) : Nat × va_E := (a, .inl (c, n, .inl f))
abbrev kJ (c : ClassId) (a n : Nat) (f : Nat → Int64) : Nat × va_E := (a, .inl (c, n, .inr (.inl f)))
abbrev kQ (c : ClassId) (a n : Nat) (f : Nat → Option Nat) : Nat × va_E := (a, .inl (c, n, .inr (.inr (.inr (.inr f)))))
end
section
/-! worlds with a tail: cells that are told, then a list that is only carried along -/
theorem vaP_mem {D : va_G} {ws : va_W} {H : Heap} : va_P D vwCl ws H ↔ ∀ q ∈ ws, va_at D vwCl q H := by
  constructor
  · intro h q hq
    obtain ⟨k, hk⟩ := List.mem_iff_getElem?.mp hq
    exact h k q hk
  · intro h k q hk
    exact h q (List.mem_of_getElem? hk)
theorem vaD_iff {A : Nat → Prop} {ws : va_W} : va_D A ws ↔ ws.Pairwise (fun p q => p.1 ≠ q.1) ∧ ∀ q ∈ ws, A q.1 := by
  constructor
  · intro h
    refine ⟨List.pairwise_iff_getElem.mpr (fun i j hi hj hij e => ?_), fun q hq => ?_⟩
    · have := h.1 i j _ _ (List.getElem?_eq_getElem hi) (List.getElem?_eq_getElem hj) e
      omega
    · obtain ⟨k, hk⟩ := List.mem_iff_getElem?.mp hq
      exact h.2 k q hk
  · intro h
    refine ⟨fun i j p q hp hq e => ?_, fun k q hk => h.2 q (List.mem_of_getElem? hk)⟩
    obtain ⟨hi, rfl⟩ := List.getElem?_eq_some_iff.mp hp
    obtain ⟨hj, rfl⟩ := List.getElem?_eq_some_iff.mp hq
    have hw := List.pairwise_iff_getElem.mp h.1
    rcases Nat.lt_trichotomy i j with q | q | q
    · exact absurd e (hw i j hi hj q)
    · exact q
    · exact absurd e.symm (hw j i hj hi q)
def PD (D : va_G) (A : Nat → Prop) (ws : va_W) (H : Heap) : Prop := va_P D vwCl ws H ∧ va_D A ws
theorem PD.perm {D : va_G} {A : Nat → Prop} {ws ws' : va_W} {H : Heap} (h : PD D A ws H) (hp : ws.Perm ws') : PD D A ws' H :=
  ⟨vaP_mem.mpr (fun q hq => vaP_mem.mp h.1 q (hp.mem_iff.mpr hq)), vaD_iff.mpr ⟨hp.pairwise (vaD_iff.mp h.2).1 (fun e => e.symm), fun q hq => (vaD_iff.mp h.2).2 q (hp.mem_iff.mpr hq)⟩⟩
theorem PD.left {D : va_G} {A : Nat → Prop} {a b : va_W} {H : Heap} (h : PD D A (a ++ b) H) : PD D A a H :=
  ⟨vaP_mem.mpr (fun q hq => vaP_mem.mp h.1 q (List.mem_append_left _ hq)), vaD_iff.mpr ⟨(List.pairwise_append.mp (vaD_iff.mp h.2).1).1, fun q hq => (vaD_iff.mp h.2).2 q (List.mem_append_left _ hq)⟩⟩
/-- a call: the callee's cells wc come back as w1, the rest stays -/
theorem PD.join {D : va_G} {A0 : Nat → Prop} {wc wr w1 : va_W} {H H1 : Heap} (h : PD D A0 (wc ++ wr) H) (hk : ∀ q : Nat, q < H.size → ¬ va_A wc H.size q → H1[q]? = H[q]?) (hF : ∀ q, va_A wc H.size q → A0 q) (hP1 : va_P D vwCl w1 H1) (hD1 : va_D (va_A wc H.size) w1) : PD D A0 (wr ++ w1) H1 := by
  have hp := List.pairwise_append.mp (vaD_iff.mp h.2).1
  have apart : ∀ q ∈ wr, q.1 < H.size ∧ ¬ va_A wc H.size q.1 := by
    intro q hq
    have hl := (vaP_mem.mp h.1 q (List.mem_append_right _ hq)).lt
    refine ⟨hl, fun z => ?_⟩
    rcases z with ⟨k, e, hk2⟩ | z
    · exact hp.2.2 _ (List.mem_of_getElem? hk2) q hq rfl
    · omega
  refine ⟨vaP_mem.mpr (fun q hq => ?_), vaD_iff.mpr ⟨List.pairwise_append.mpr ⟨hp.2.1, (vaD_iff.mp hD1).1, fun a ha b hb e => ?_⟩, fun q hq => ?_⟩⟩
  · rcases List.mem_append.mp hq with q1 | q1
    · exact (vaP_mem.mp h.1 q (List.mem_append_right _ q1)).kept (hk q.1 (apart q q1).1 (apart q q1).2)
    · exact vaP_mem.mp hP1 q q1
  · exact (apart a ha).2 (by rw [e]; exact (vaD_iff.mp hD1).2 b hb)
  · rcases List.mem_append.mp hq with q1 | q1
    · exact (vaD_iff.mp h.2).2 q (List.mem_append_right _ q1)
    · exact hF q.1 ((vaD_iff.mp hD1).2 q q1)
/-- cells by their places, the rest by theirs -/
theorem pick_perm {E wc wr : va_W} (n : Nat) (hlen : E.length = n) (isC isR : List Nat) (hp0 : (isC ++ isR).Perm (List.range n)) (hC : isC.map (fun i => E[i]?) = wc.map some) (hR : isR.map (fun i => E[i]?) = wr.map some) : E.Perm (wc ++ wr) := by
  have hp : (isC ++ isR).Perm (List.range E.length) := by rw [hlen]; exact hp0
  have h1 : ((isC ++ isR).map (fun i => E[i]?)).Perm ((List.range E.length).map (fun i => E[i]?)) := hp.map _
  rw [List.map_append, hC, hR, ← List.map_append] at h1
  have h2 : (List.range E.length).map (fun i => E[i]?) = E.map some := by
    apply List.ext_getElem?
    intro n
    rw [List.getElem?_map, List.getElem?_map]
    by_cases hn : n < E.length
    · rw [List.getElem?_range hn]
      simp [List.getElem?_eq_getElem hn]
    · rw [List.getElem?_eq_none (by simpa using hn), List.getElem?_eq_none (by omega)]
      rfl
  rw [h2] at h1
  have h3 := h1.symm.filterMap id
  simpa using h3
theorem permA {E T wc wr : va_W} (h : E.Perm (wc ++ wr)) : (E ++ T).Perm (wc ++ (wr ++ T)) := by
  rw [← List.append_assoc]
  exact h.append_right T
theorem permB {E T wc wr : va_W} (h : E.Perm (wc ++ wr)) : (E ++ T).Perm ((wc ++ T) ++ wr) := by
  refine (permA h).trans ?_
  rw [List.append_assoc]
  exact List.perm_append_comm.append_left wc
theorem permA' {T a wr : va_W} : ((wr ++ T) ++ a).Perm ((wr ++ a) ++ T) := by
  rw [List.append_assoc, List.append_assoc]
  exact List.perm_append_comm.append_left wr
theorem permB' {T a wr : va_W} : (wr ++ (a ++ T)).Perm ((wr ++ a) ++ T) := by
  rw [List.append_assoc]
theorem sub_T {D : va_G} {A : Nat → Prop} {E E' T wr : va_W} {H : Heap} (hP : va_P D vwCl (E ++ T) H) (hD : va_D A (E ++ T)) (n : Nat) (hlen : E.length = n) (isC isR : List Nat) (hp : (isC ++ isR).Perm (List.range n)) (hC : isC.map (fun i => E[i]?) = E'.map some) (hR : isR.map (fun i => E[i]?) = wr.map some) : PD D A (E' ++ T) H :=
  (PD.perm ⟨hP, hD⟩ (permB (pick_perm n hlen isC isR hp hC hR))).left
theorem PD.free {D : va_G} {A0 : Nat → Prop} {wc wr : va_W} {H0 H : Heap} {locs : List Loc} (h : PD D A0 (wc ++ wr) H) (hS : va_S A0 H0 H locs) (hA : ∀ q, H0.size ≤ q → A0 q) : ∀ q, va_A wc H.size q → A0 q := by
  intro q z
  rcases z with ⟨k, e, hk⟩ | z
  · exact (vaD_iff.mp h.2).2 (q, e) (List.mem_append_left _ (List.mem_of_getElem? hk))
  · exact hA q (Nat.le_trans hS.1 z)
theorem pB.ofPD {D : va_G} {cI cJ cZ cR : ClassId} {ws : va_W} {A : Nat → Prop} {s U : State} {H : Heap} (hU : U.heap = H) (hW : s.WarmedH U.vm) (hK : kK D cI cJ cZ cR s) (h : PD D A ws H) : pB D cI cJ cZ cR H.size ws U :=
  ⟨by rw [hU], by rw [hU]; exact h.1, ⟨va_K.moved hW.alike hK.1, hK.2.warm hW⟩, h.2.weaken (fun _ _ _ _ => trivial)⟩
section
variable {p : Program} {l : Launch} {e : Env} {R : Room} {s : State} {m : MethodId} {args : Array Value} {below : List Frame} {meth : Method} {c : Code} {H H0 : Heap} {locs : List Loc} {cells slots : Nat} {Q : State → Prop} {cc bytes : ByteArray} {pc nL maxL : Nat} {ls : Array Slot} {rest : List Value} {A : Nat → Prop} {D : va_G} {cI cJ cZ cR : ClassId} {ws wc wr : va_W} {S : Type} {aft : S → va_W} {fr lo mc ms n index b : Nat} {own C host : String} {y y0 : MethodName} {ret : Option FieldType} {As : List Value}
theorem lv_nmr {x : Value} {q : Nat} (h : x = .ref q) (k : W p l e R s m args below meth c H locs cells slots Q (F0 m pc ls (.ref q :: rest))) : W p l e R s m args below meth c H locs cells slots Q (F0 m pc ls (x :: rest)) := by
  subst h
  exact k
theorem xp_i {st0 : List Value} {a : Array Value} {post : Int32 → S → Prop} (hrun : va_Run p l e R s m args below meth c H locs cells slots mc ms (F0 m pc ls st0) rest (va_Qi post (fun u => bB D (va_A wc H.size) (aft u)) (va_A wc H.size) a) (va_A wc H.size)) (h : PD D A (wc ++ wr) H) (hS : va_S A H0 H locs) (hA : ∀ q, H0.size ≤ q → A q)
    (kk : ∀ (r : Int32) (u : S) (H1 : Heap) (locs1 : List Loc), post r u → PD D A (wr ++ aft u) H1 → va_S A H0 H1 locs1 → W p l e R s m args below meth c H1 locs1 (cells + mc) (slots + ms) Q (F0 m (pc + 3) ls (.int r :: rest))) : W p l e R s m args below meth c H locs cells slots Q (F0 m pc ls st0) := by
  have hFc := h.free hS hA
  refine va_calli hrun hS (fun q _ h => hFc q h) hFc (fun r u t H1 locs1 ht hvm hw hB hz1 hk1 hS1 => ?_)
  obtain ⟨hP1, hD1⟩ := hB
  rw [ht] at hP1
  exact kk r u H1 locs1 hw (h.join hk1 hFc hP1 hD1) hS1
theorem xp_l {st0 : List Value} {a : Array Value} {post : Int64 → S → Prop} (hrun : va_Run p l e R s m args below meth c H locs cells slots mc ms (F0 m pc ls st0) rest (va_Ql post (fun u => bB D (va_A wc H.size) (aft u)) (va_A wc H.size) a) (va_A wc H.size)) (h : PD D A (wc ++ wr) H) (hS : va_S A H0 H locs) (hA : ∀ q, H0.size ≤ q → A q)
    (kk : ∀ (r : Int64) (u : S) (H1 : Heap) (locs1 : List Loc), post r u → PD D A (wr ++ aft u) H1 → va_S A H0 H1 locs1 → W p l e R s m args below meth c H1 locs1 (cells + mc) (slots + ms) Q (F0 m (pc + 3) ls (.long r :: rest))) : W p l e R s m args below meth c H locs cells slots Q (F0 m pc ls st0) := by
  have hFc := h.free hS hA
  refine va_calll hrun hS (fun q _ h => hFc q h) hFc (fun r u t H1 locs1 ht hvm hw hB hz1 hk1 hS1 => ?_)
  obtain ⟨hP1, hD1⟩ := hB
  rw [ht] at hP1
  exact kk r u H1 locs1 hw (h.join hk1 hFc hP1 hD1) hS1
theorem xp_v {st0 : List Value} {a : Array Value} {post : S → Prop} (hrun : va_Run p l e R s m args below meth c H locs cells slots mc ms (F0 m pc ls st0) rest (va_Qv post (fun u => bB D (va_A wc H.size) (aft u)) (va_A wc H.size) a) (va_A wc H.size)) (h : PD D A (wc ++ wr) H) (hS : va_S A H0 H locs) (hA : ∀ q, H0.size ≤ q → A q)
    (kk : ∀ (u : S) (H1 : Heap) (locs1 : List Loc), post u → PD D A (wr ++ aft u) H1 → va_S A H0 H1 locs1 → W p l e R s m args below meth c H1 locs1 (cells + mc) (slots + ms) Q (F0 m (pc + 3) ls rest)) : W p l e R s m args below meth c H locs cells slots Q (F0 m pc ls st0) := by
  have hFc := h.free hS hA
  refine va_callv hrun hS (fun q _ h => hFc q h) hFc (fun u t H1 locs1 ht hvm hw hB hz1 hk1 hS1 => ?_)
  obtain ⟨hP1, hD1⟩ := hB
  rw [ht] at hP1
  exact kk u H1 locs1 hw (h.join hk1 hFc hP1 hD1) hS1
theorem xqV {Qc : Array Value → State → Outcome → State → Prop} {ci q0 : Nat} {fs : List Value} {T : u_T} {N : Nat} (hd : Hd p s m meth c args y0 cc nL) (hK : kK D cI cJ cZ cR s) (h : PD D A wc H) (hM : Met l y (wC y bytes maxL ret) (rM fr mc ms lo) (va_Pc (.ref b :: As) (pB D cI cJ cZ cR H.size wc)) Qc mc ms (va_A wc H.size)) (hG : GoodIn gT (wsV y0.cls index C y (wC y bytes maxL ret)))
    (hdd : y.cls = C ∧ y.cls ≠ "java/lang/invoke/MethodHandle" ∧ y.cls ≠ "java/lang/invoke/VarHandle" ∧ (parseMethodDescriptor y.desc).map (fun d => d.parameters.length) = some n) (hR : fr + 1 ≤ R.frames ∧ 8 + (maxL + 11) + lo ≤ R.locals) (he : wc[q0]? = some (b, .inr (ci, fs))) (hc : vwCl[ci]? = some (C, T, N))
    (hnA : As.length = n) (hls : ls.size = nL) {st0 : List Value} (hst : st0 = As.reverse ++ .ref b :: rest) (hrs : (rest.map fun v => v.category).sum ≤ 8) (hdg : decode cc pc = .ok (.invokevirtual index, 3)) (hf : cells + mc ≤ R.cells ∧ slots + ms ≤ R.slots) :
    va_Run p l e R s m args below meth c H locs cells slots mc ms (F0 m pc ls st0) rest (Qc (Value.ref b :: As).toArray) (va_A wc H.size) := by
  obtain ⟨hx, hb, hml, hown, hts⟩ := hd
  exact va_runV (As := As) (rest := rest) (C := C) ⟨hx, hb, hml, hown, hts⟩ hM (cwV n hts hG rfl rfl rfl hdd hR) ⟨pB.blind, va_recv hK.1 h.1 hc he, fun U hU hW => ⟨rfl, pB.ofPD hU hW hK h⟩⟩ rfl hnA hls hst (lv_room hrs) hdg hf
theorem xqS {Qc : Array Value → State → Outcome → State → Prop} (hd : Hd p s m meth c args y0 cc nL) (hK : kK D cI cJ cZ cR s) (h : PD D A wc H) (hM : Met l y (wC y bytes maxL ret) (rM fr mc ms lo) (va_Pc As (pB D cI cJ cZ cR H.size wc)) Qc mc ms (va_A wc H.size)) (hG : GoodIn gT (va_wsS y0.cls index y (wC y bytes maxL ret)))
    (hdd : y.cls ≠ "java/lang/invoke/MethodHandle" ∧ y.cls ≠ "java/lang/invoke/VarHandle" ∧ (parseMethodDescriptor y.desc).map (fun d => d.parameters.length) = some n) (hR : fr + 1 ≤ R.frames ∧ 8 + (maxL + 11) + lo ≤ R.locals)
    (hnA : As.length = n) (hls : ls.size = nL) {st0 : List Value} (hst : st0 = As.reverse ++ rest) (hrs : (rest.map fun v => v.category).sum ≤ 8) (hdg : decode cc pc = .ok (.invokestatic index, 3)) (hf : cells + mc ≤ R.cells ∧ slots + ms ≤ R.slots) :
    va_Run p l e R s m args below meth c H locs cells slots mc ms (F0 m pc ls st0) rest (Qc As.toArray) (va_A wc H.size) := by
  obtain ⟨hx, hb, hml, hown, hts⟩ := hd
  exact va_runS (As := As) (rest := rest) ⟨hx, hb, hml, hown, hts⟩ hM (va_cwS n hts hG rfl rfl rfl hdd hR) ⟨pB.blind, fun U hU hW => ⟨rfl, pB.ofPD hU hW hK h⟩⟩ rfl hnA hls hst (lv_room hrs) hdg hf
theorem xqSN {Qc : Array Value → State → Outcome → State → Prop} (hd : Hd p s m meth c args y0 cc nL) (hK : kK D cI cJ cZ cR s) (h : PD D A wc H) (hM : Met l y (wC y bytes maxL ret) (rM fr mc ms lo) (va_Pc As (pB D cI cJ cZ cR H.size wc)) Qc mc ms (va_A wc H.size)) (hcd : Cond.code y bytes maxL ret ∈ gT) (hst0 : Cond.static y ∈ gT) (hin0 : Cond.initialized y.cls ∈ gT) (hln : va_Nw (.methodLinkNest y0.cls index y host) s)
    (hdd : y.cls ≠ "java/lang/invoke/MethodHandle" ∧ y.cls ≠ "java/lang/invoke/VarHandle" ∧ (parseMethodDescriptor y.desc).map (fun d => d.parameters.length) = some n) (hR : fr + 1 ≤ R.frames ∧ 8 + (maxL + 11) + lo ≤ R.locals)
    (hnA : As.length = n) (hls : ls.size = nL) {st0 : List Value} (hst : st0 = As.reverse ++ rest) (hrs : (rest.map fun v => v.category).sum ≤ 8) (hdg : decode cc pc = .ok (.invokestatic index, 3)) (hf : cells + mc ≤ R.cells ∧ slots + ms ≤ R.slots) :
    va_Run p l e R s m args below meth c H locs cells slots mc ms (F0 m pc ls st0) rest (Qc As.toArray) (va_A wc H.size) := by
  obtain ⟨hx, hb, hml, hown, hts⟩ := hd
  exact va_runSN (As := As) (rest := rest) ⟨hx, hb, hml, hown, hts⟩ hM ⟨va_cnB n hts (gW hcd) rfl rfl rfl hln (hts _ hin0) hdd hR, hts _ hst0, trivial⟩ ⟨pB.blind, fun U hU hW => ⟨rfl, pB.ofPD hU hW hK h⟩⟩ rfl hnA hls hst (lv_room hrs) hdg hf
end
/-! the book's rules: addresses (rule, body, its three rows, slots, ways, hues); open, size, nodes; the rows -/
abbrev RT : Type := (Nat × Nat × Nat × Nat × Nat × Nat × Nat × Nat) × (Int32 × Int32 × Int32) × ((Nat → Int32) × (Nat → Int32) × (Nat → Int32) × (Nat → Int32) × (Nat → Int32) × (Nat → Int32))
def RC (cI : ClassId) (t : RT) : va_W := [(t.1.1, .inr (4, [.int t.2.1.1, .ref t.1.2.1, .ref t.1.2.2.2.2.2.1, .ref t.1.2.2.2.2.2.2.1, .ref t.1.2.2.2.2.2.2.2])), (t.1.2.1, .inr (0, [.ref t.1.2.2.1, .ref t.1.2.2.2.1, .ref t.1.2.2.2.2.1, .int t.2.1.2.1, .int t.2.1.2.2])), (t.1.2.2.1, .inl (cI, 3, .inl t.2.2.1)), (t.1.2.2.2.1, .inl (cI, 3, .inl t.2.2.2.1)), (t.1.2.2.2.2.1, .inl (cI, 3, .inl t.2.2.2.2.1)), (t.1.2.2.2.2.2.1, .inl (cI, 3, .inl t.2.2.2.2.2.1)), (t.1.2.2.2.2.2.2.1, .inl (cI, 64, .inl t.2.2.2.2.2.2.1)), (t.1.2.2.2.2.2.2.2, .inl (cI, 64, .inl t.2.2.2.2.2.2.2))]
def RWn (cI : ClassId) (ρ : Nat → RT) : Nat → va_W
  | 0 => []
  | n + 1 => RWn cI ρ n ++ RC cI (ρ n)
def RWx (cI : ClassId) (ρ : Nat → RT) (j : Nat) : Nat → va_W
  | 0 => []
  | n + 1 => if n = j then RWx cI ρ j n else RWx cI ρ j n ++ RC cI (ρ n)
def RB (cI : ClassId) (ρ : Nat → RT) : va_W := RWn cI ρ 9
def RX (cI : ClassId) (ρ : Nat → RT) (j : Nat) : va_W := RWx cI ρ j 9
theorem RWx_le {cI : ClassId} {ρ : Nat → RT} {j : Nat} : ∀ n, n ≤ j → RWx cI ρ j n = RWn cI ρ n := by
  intro n
  induction n with
  | zero => intro _; rfl
  | succ n ih =>
    intro h
    rw [RWx, RWn, if_neg (by omega), ih (by omega)]
theorem RW_perm {cI : ClassId} {ρ : Nat → RT} {j : Nat} : ∀ n, j < n → (RWn cI ρ n).Perm (RC cI (ρ j) ++ RWx cI ρ j n) := by
  intro n
  induction n with
  | zero => intro h; omega
  | succ n ih =>
    intro h
    rw [RWn, RWx]
    by_cases hj : n = j
    · subst hj
      rw [if_pos rfl, RWx_le n (Nat.le_refl n)]
      exact List.perm_append_comm
    · rw [if_neg hj]
      refine ((ih (by omega)).append_right _).trans ?_
      rw [List.append_assoc]
theorem RWx_up {cI : ClassId} {ρ : Nat → RT} {j : Nat} {t : RT} : ∀ n, RWx cI (va_up ρ j t) j n = RWx cI ρ j n := by
  intro n
  induction n with
  | zero => rfl
  | succ n ih =>
    rw [RWx, RWx, ih]
    by_cases hj : n = j
    · rw [if_pos hj, if_pos hj]
    · rw [if_neg hj, if_neg hj]
      have : va_up ρ j t n = ρ n := by simp [va_up, hj]
      rw [this]
theorem focus {D : va_G} {A : Nat → Prop} {E : va_W} {H : Heap} {cI : ClassId} {ρ : Nat → RT} (j : Nat) (hj : j < 9) (hP : va_P D vwCl (E ++ RB cI ρ) H) (hD : va_D A (E ++ RB cI ρ)) : PD D A ((E ++ RC cI (ρ j)) ++ RX cI ρ j) H := by
  refine PD.perm ⟨hP, hD⟩ ?_
  rw [List.append_assoc]
  exact (RW_perm 9 hj).append_left E
theorem unfocus {D : va_G} {A : Nat → Prop} {E : va_W} {H : Heap} {cI : ClassId} {ρ : Nat → RT} (j : Nat) (hj : j < 9) (t : RT) (hP : va_P D vwCl ((E ++ RC cI t) ++ RX cI ρ j) H) (hD : va_D A ((E ++ RC cI t) ++ RX cI ρ j)) : PD D A (E ++ RB cI (va_up ρ j t)) H := by
  refine PD.perm ⟨hP, hD⟩ ?_
  rw [List.append_assoc]
  refine List.Perm.append_left E ?_
  have h := (RW_perm (cI := cI) (ρ := va_up ρ j t) 9 hj).symm
  rw [RWx_up] at h
  have ht : va_up ρ j t j = t := by simp [va_up]
  rw [ht] at h
  exact h
theorem unfocus0 {D : va_G} {A : Nat → Prop} {E : va_W} {H : Heap} {cI : ClassId} {ρ : Nat → RT} (j : Nat) (hj : j < 9) (hP : va_P D vwCl ((E ++ RC cI (ρ j)) ++ RX cI ρ j) H) (hD : va_D A ((E ++ RC cI (ρ j)) ++ RX cI ρ j)) : PD D A (E ++ RB cI ρ) H := by
  refine PD.perm ⟨hP, hD⟩ ?_
  rw [List.append_assoc]
  exact ((RW_perm 9 hj).append_left E).symm
end
section
/-! rows by what they hold below their length -/
theorem arrV_ext {cA : ClassId} {n : Nat} {f g : Nat → Value} (h : ∀ j, j < n → f j = g j) : arrV cA n f = arrV cA n g := by
  unfold arrV
  congr 1
  congr 1
  funext j
  exact h j.val j.isLt
theorem va_P.rowI {D : va_G} {ws : va_W} {H : Heap} {a n : Nat} {cA : ClassId} {f g : Nat → Int32} {A : Nat → Prop} (k : Nat) (hP : va_P D vwCl ws H) (hD : va_D A ws) (he : ws[k]? = some (a, .inl (cA, n, .inl f))) (h : ∀ j, j < n → f j = g j) : va_P D vwCl (ws.set k (a, .inl (cA, n, .inl g))) H ∧ va_D A (ws.set k (a, .inl (cA, n, .inl g))) := by
  refine ⟨hP.set hD he ?_ (fun _ _ => rfl), hD.set he⟩
  have h1 : H[a]? = some (vp_cell cA (n, .inl f)) := hP k _ he
  show H[a]? = some (vp_cell cA (n, .inl g))
  rw [h1, vp_cell_i, vp_cell_i, arrV_ext (fun j hj => by rw [h j hj])]
theorem va_P.rowJ {D : va_G} {ws : va_W} {H : Heap} {a n : Nat} {cA : ClassId} {f g : Nat → Int64} {A : Nat → Prop} (k : Nat) (hP : va_P D vwCl ws H) (hD : va_D A ws) (he : ws[k]? = some (a, .inl (cA, n, .inr (.inl f)))) (h : ∀ j, j < n → f j = g j) : va_P D vwCl (ws.set k (a, .inl (cA, n, .inr (.inl g)))) H ∧ va_D A (ws.set k (a, .inl (cA, n, .inr (.inl g)))) := by
  refine ⟨hP.set hD he ?_ (fun _ _ => rfl), hD.set he⟩
  have h1 : H[a]? = some (vp_cell cA (n, .inr (.inl f))) := hP k _ he
  show H[a]? = some (vp_cell cA (n, .inr (.inl g)))
  rw [h1, vp_cell_l, vp_cell_l, arrV_ext (fun j hj => by rw [h j hj])]
theorem up_lt {g : Nat → Int32} {i : Nat} {v : Int32} (hg : ∀ j, j < i → g j = v) : ∀ j, j < i + 1 → upd g i v j = v := fun j hj => by
  by_cases h9 : j = i
  · subst h9; exact pk_us
  · rw [pk_un h9]; exact hg j (by omega)
theorem upL_lt {g : Nat → Int64} {i : Nat} {v : Int64} (hg : ∀ j, j < i → g j = v) : ∀ j, j < i + 1 → vp_updL g i v j = v := fun j hj => by
  by_cases h9 : j = i
  · subst h9; exact pk_uLs
  · rw [pk_uLn h9]; exact hg j (by omega)
theorem leN {a b : Nat} (hb : b < 2147483648) (ha : a < 2147483648) (h : nI a ≤ nI b) : a ≤ b := (nI_leI ha hb).mp h
theorem nleN {a b : Nat} (hb : b < 2147483648) (ha : a < 2147483648) (h : ¬ nI a ≤ nI b) : b < a := by
  rcases Nat.lt_or_ge b a with q | q
  · exact q
  · exact absurd (nI_le q hb) h
/-! the letters of a page -/
def opn (x : Int32) : Int32 := if x < 0 then 0 else if 3 ≤ x then 0 else 1
theorem opn_01 (x : Int32) : opn x = 0 ∨ opn x = 1 := by
  unfold opn
  split
  · exact Or.inl rfl
  · split
    · exact Or.inl rfl
    · exact Or.inr rfl
theorem nar_01 {x : Int32} (h : x = 0 ∨ x = 1) : narrow .boolean (.int x) = .int x := by
  rcases h with rfl | rfl <;> rfl
def cL (c : Int32) : Int32 := if c < 65 then (if c = 97 then 3 else if c = 98 then 4 else -1) else if 67 < c then (if c = 97 then 3 else if c = 98 then 4 else -1) else c - 65
def fH (pf : Nat → Int32) (i : Nat) : Int32 := if nI i = 0 then opn (cL (pf i)) else if pf i = 61 then 1 else 0
def fE0 (pf : Nat → Int32) (i q : Nat) : Int32 := if nI q = 0 then (if cL (pf i) < 0 then 0 else 1) else if pf i < 48 then 0 else if 51 < pf i then 0 else if nI q = 1 then 1 else if pf i = pf (i - 1) then 0 else 1
def fE1 (pf : Nat → Int32) (i q : Nat) : Int32 := if nI q = 0 then (if cL (pf i) < 3 then 0 else 1) else if pf i < 48 then 0 else if 52 < pf i then 0 else if nI q = 1 then 1 else if pf i = pf (i - 1) then 0 else 1
def okF0 (pf : Nat → Int32) (i : Nat) : Prop := i < 11 ∧ ¬ (if i < 2 then fH pf i else fE0 pf i ((i - 2) % 3)) = 0
def okF1 (pf : Nat → Int32) (i : Nat) : Prop := i < 15 ∧ ¬ fE1 pf i (i % 3) = 0
/-- k is the first place that isn't right, or the end -/
def FF (ok : Nat → Prop) (z k : Nat) : Prop := k ≤ z ∧ (∀ j, j < k → ok j) ∧ (k = z ∨ ¬ ok k)
theorem FF_end {ok : Nat → Prop} {i z : Nat} (h : ∀ j, j < i → ok j) (hz : i = z) : FF ok z z := by
  subst hz
  exact ⟨Nat.le_refl _, h, Or.inl rfl⟩
theorem FF_bad {ok : Nat → Prop} {i z : Nat} (h : ∀ j, j < i → ok j) (hz : i < z) (hb : ¬ ok i) : FF ok z i := ⟨by omega, h, Or.inr hb⟩
theorem FF_step {ok : Nat → Prop} {i : Nat} (h : ∀ j, j < i → ok j) (hb : ok i) : ∀ j, j < i + 1 → ok j := fun j hj => by
  by_cases h9 : j = i
  · subst h9; exact hb
  · exact h j (by omega)
theorem ok0_most {pf : Nat → Int32} {i : Nat} (hi : i < 16) (c : 11 ≤ nI i) : ¬ okF0 pf i := fun h => by
  have := leN (a := 11) (by omega) (by omega) c
  have := h.1
  omega
theorem ok1_most {pf : Nat → Int32} {i : Nat} (hi : i < 16) (c : 15 ≤ nI i) : ¬ okF1 pf i := fun h => by
  have := leN (a := 15) (by omega) (by omega) c
  have := h.1
  omega
theorem ok0_h {pf : Nat → Int32} {i : Nat} (hi : i < 16) (c : ¬ 2 ≤ nI i) : okF0 pf i ↔ ¬ fH pf i = 0 := by
  have := nleN (a := 2) (by omega) (by omega) c
  unfold okF0
  rw [if_pos this]
  exact ⟨fun h => h.2, fun h => ⟨by omega, h⟩⟩
theorem ok0_e {pf : Nat → Int32} {i : Nat} (hi : i < 16) (c : 2 ≤ nI i) (c2 : ¬ 11 ≤ nI i) : okF0 pf i ↔ ¬ fE0 pf i ((i - 2) % 3) = 0 := by
  have := leN (a := 2) (by omega) (by omega) c
  have := nleN (a := 11) (by omega) (by omega) c2
  unfold okF0
  rw [if_neg (by omega)]
  exact ⟨fun h => h.2, fun h => ⟨by omega, h⟩⟩
theorem ok1_e {pf : Nat → Int32} {i : Nat} (hi : i < 16) (c2 : ¬ 15 ≤ nI i) : okF1 pf i ↔ ¬ fE1 pf i (i % 3) = 0 := by
  have := nleN (a := 15) (by omega) (by omega) c2
  exact ⟨fun h => h.2, fun h => ⟨by omega, h⟩⟩
/-- whether one of the first z is x -/
def nmB (pf : Nat → Int32) (x : Int32) : Nat → Int32
  | 0 => 0
  | z + 1 => if pf z = x then 1 else nmB pf x z
theorem nmB_0 {pf : Nat → Int32} {x : Int32} : ∀ z, (∀ j, j < z → ¬ pf j = x) → nmB pf x z = 0 := by
  intro z
  induction z with
  | zero => intro _; rfl
  | succ z ih =>
    intro h
    rw [nmB, if_neg (h z (by omega)), ih (fun j hj => h j (by omega))]
theorem nmB_1 {pf : Nat → Int32} {x : Int32} {i : Nat} (hx : pf i = x) : ∀ z, i < z → nmB pf x z = 1 := by
  intro z
  induction z with
  | zero => intro h; omega
  | succ z ih =>
    intro h
    rw [nmB]
    by_cases h9 : pf z = x
    · rw [if_pos h9]
    · rw [if_neg h9]
      have : i ≠ z := fun q => h9 (by rw [← q]; exact hx)
      exact ih (by omega)
theorem nmB_01 (pf : Nat → Int32) (x : Int32) : ∀ z, nmB pf x z = 0 ∨ nmB pf x z = 1 := by
  intro z
  induction z with
  | zero => exact Or.inl rfl
  | succ z ih =>
    rw [nmB]
    by_cases h9 : pf z = x
    · rw [if_pos h9]; exact Or.inr rfl
    · rw [if_neg h9]; exact ih
def iW (h z : Nat) : Int32 := if h < z ∧ (z - h) % 3 = 0 then 1 else 0
theorem iW_a {h z : Nat} (hz : z < 100) (hh : h < 100) (c : nI z ≤ nI h) : (0 : Int32) = iW h z := by
  have := leN (by omega) (by omega) c
  rw [iW, if_neg (by omega)]
theorem iW_le {h z : Nat} (hz : z < 100) (hh : h < 100) (c : ¬ nI z ≤ nI h) : h ≤ z := by
  have := nleN (by omega) (by omega) c
  omega
theorem iW_b {h z : Nat} (hz : z < 100) (hh : h < 100) (c : ¬ nI z ≤ nI h) (c2 : ¬ nI ((z - h) % 3) = 0) : (0 : Int32) = iW h z := by
  rw [iW, if_neg]
  intro q
  exact c2 (by rw [q.2]; rfl)
theorem iW_c {h z : Nat} (hz : z < 100) (hh : h < 100) (c : ¬ nI z ≤ nI h) (c2 : nI ((z - h) % 3) = 0) : (1 : Int32) = iW h z := by
  have := nleN (by omega) (by omega) c
  have h3 : nI ((z - h) % 3) = nI 0 := c2
  have := (nI_eq (by omega) (by omega)).mp h3
  rw [iW, if_pos ⟨by omega, this⟩]
def gapOK (pf : Nat → Int32) (z : Nat) : Prop := (nmB pf 51 z = 0 ∨ ¬ nmB pf 50 z = 0) ∧ (nmB pf 52 z = 0 ∨ ¬ nmB pf 51 z = 0)
def RuleOK (pf : Nat → Int32) (z : Nat) : Prop := ¬ iW 2 z = 0 ∧ FF (okF0 pf) z z ∧ ¬ nmB pf 48 z = 0 ∧ ¬ nmB pf 49 z = 0 ∧ gapOK pf z
def GraphOK (pf : Nat → Int32) (z : Nat) : Prop := ¬ iW 0 z = 0 ∧ FF (okF1 pf) z z ∧ gapOK pf z
theorem FF_one {ok : Nat → Prop} {z k : Nat} (h : FF ok z k) (h2 : FF ok z z) : k = z := by
  rcases h.2.2 with q | q
  · exact q
  · rcases Nat.lt_or_ge k z with w | w
    · exact absurd (h2.2.1 k w) q
    · have := h.1
      omega
def YN (r : Int32) (P : Prop) : Prop := (r = 1 ∧ P) ∨ (r = 0 ∧ ¬ P)
theorem YN_y {P : Prop} (h : P) : YN 1 P := Or.inl ⟨rfl, h⟩
theorem YN_n {P : Prop} (h : ¬ P) : YN 0 P := Or.inr ⟨rfl, h⟩
theorem YN.of {r : Int32} {P : Prop} (h : YN r P) (c : ¬ r = 0) : P := by
  rcases h with h | h
  · exact h.2
  · exact absurd h.1 c
theorem YN.no {r : Int32} {P : Prop} (h : YN r P) (c : r = 0) : ¬ P := by
  rcases h with h | h
  · rw [h.1] at c; exact absurd c (by decide)
  · exact h.2
theorem fE_ge {q i : Nat} (hq : q = 0 ∨ 1 ≤ i) (c : ¬ nI q = 0) (h3 : q < 3) : 1 ≤ i := by
  rcases hq with h | h
  · subst h; exact absurd rfl c
  · exact h
end
section
theorem max0 {x : Int32} (h : ¬ x < 0) : (if 0 < x then x else 0) = x := by
  by_cases h1 : 0 < x
  · rw [if_pos h1]
  · rw [if_neg h1]
    simp only [Int32.lt_iff_toInt_lt] at h h1
    rw [show (0 : Int32).toInt = 0 from by decide] at h h1
    rw [← Int32.toInt_inj, show (0 : Int32).toInt = 0 from by decide]
    omega
def hs (p : Int32) (n : Nat) : Int32 := if p < 0 then 0 else if nI n ≤ p then 0 else 1
theorem hs_y {p : Int32} {n : Nat} (hn : n < 1000) (h : ¬ hs p n = 0) : ∃ j, j < n ∧ p = nI j := by
  unfold hs at h
  by_cases h1 : p < 0
  · rw [if_pos h1] at h; exact absurd rfl h
  · rw [if_neg h1] at h
    by_cases h2 : nI n ≤ p
    · rw [if_pos h2] at h; exact absurd rfl h
    · obtain ⟨j, hj, e⟩ := nI_of h1
      refine ⟨j, ?_, e⟩
      rw [e] at h2
      exact nleN (by omega) (by omega) h2
def opE (x : Nat → Int32) : Nat → Int32
  | 0 => 0
  | i + 1 => if opn (x i) = 0 then opE x i + 0 else opE x i + 1
theorem opE_a {x : Nat → Int32} {i : Nat} (h : opn (x i) = 0) : opE x (i + 1) = opE x i + 0 := by rw [opE, if_pos h]
theorem opE_b {x : Nat → Int32} {i : Nat} (h : ¬ opn (x i) = 0) : opE x (i + 1) = opE x i + 1 := by rw [opE, if_neg h]
def isD (x : Nat → Int32) (n : Nat) : Int32 := if nI n ≤ 0 then 0 else if opE x n = 0 then 1 else 0
def lt4 (r : Int32) : Prop := ∃ k, k < 4 ∧ r = nI k
theorem lt4_or1 {r : Int32} (h : lt4 r) : lt4 (r ||| 1) := by
  obtain ⟨k, hk, rfl⟩ := h
  rcases (show k = 0 ∨ k = 1 ∨ k = 2 ∨ k = 3 by omega) with rfl | rfl | rfl | rfl
  · exact ⟨1, by decide, by decide⟩
  · exact ⟨1, by decide, by decide⟩
  · exact ⟨3, by decide, by decide⟩
  · exact ⟨3, by decide, by decide⟩
theorem lt4_or2 {r : Int32} (h : lt4 r) : lt4 (r ||| 2) := by
  obtain ⟨k, hk, rfl⟩ := h
  rcases (show k = 0 ∨ k = 1 ∨ k = 2 ∨ k = 3 by omega) with rfl | rfl | rfl | rfl
  · exact ⟨2, by decide, by decide⟩
  · exact ⟨3, by decide, by decide⟩
  · exact ⟨2, by decide, by decide⟩
  · exact ⟨3, by decide, by decide⟩
theorem shl1 {v : Nat} (h : v ≤ 9) : (1 : Int32) <<< (nI v &&& 31) = nI (2 ^ v) := by
  rcases (show v = 0 ∨ v = 1 ∨ v = 2 ∨ v = 3 ∨ v = 4 ∨ v = 5 ∨ v = 6 ∨ v = 7 ∨ v = 8 ∨ v = 9 by omega) with rfl | rfl | rfl | rfl | rfl | rfl | rfl | rfl | rfl | rfl <;> decide
theorem pow_le9 {v : Nat} (h : v ≤ 9) : 2 ^ v ≤ 512 := Nat.le_trans (Nat.pow_le_pow_right (by decide) h) (by decide)
theorem pow_half {v : Nat} (h : 1 ≤ v) : 2 ^ v = 2 * 2 ^ (v - 1) := by
  rw [← Nat.pow_succ']
  congr 1
  omega
theorem inc2 (q : Nat) : nI (2 * q) + Int32.ofInt 2 = nI (2 * (q + 1)) := nI_add (2 * q) 2
theorem inc3 (a k : Nat) : nI (a + 3 * k) + Int32.ofInt 3 = nI (a + 3 * (k + 1)) := nI_add (a + 3 * k) 3
def ndN (pf : Nat → Int32) (z : Nat) : Nat := 2 + (if nmB pf 50 z = 0 then 0 else 1) + (if nmB pf 51 z = 0 then 0 else 1) + (if nmB pf 52 z = 0 then 0 else 1)
/-- the edges of a text that begins at h -/
def edT (pf : Nat → Int32) (h k : Nat) (y1 y2 y3 : Nat → Int32) : Prop := ∀ j, j < k → y1 j = cL (pf (h + 3 * j)) ∧ y2 j = pf (h + 3 * j + 1) - 48 ∧ y3 j = pf (h + 3 * j + 2) - 48
theorem edT_0 {pf : Nat → Int32} {h : Nat} {y1 y2 y3 : Nat → Int32} : edT pf h 0 y1 y2 y3 := fun j hj => absurd hj (by omega)
theorem edT_s {pf : Nat → Int32} {h k : Nat} {y1 y2 y3 : Nat → Int32} (H : edT pf h k y1 y2 y3) : edT pf h (k + 1) (upd y1 k (cL (pf (h + 3 * k)))) (upd y2 k (pf (h + 3 * k + 1) - 48)) (upd y3 k (pf (h + 3 * k + 2) - 48)) := fun j hj => by
  by_cases h9 : j = k
  · subst h9
    exact ⟨pk_us, pk_us, pk_us⟩
  · rw [pk_un h9, pk_un h9, pk_un h9]
    exact H j (by omega)
end
section
theorem hs_ok {k n : Nat} (h : k < n) (hn : n < 1000) : hs (nI k) n = 1 := by
  rw [hs, if_neg (nI_pos (by omega)), if_neg (nI_ge h (by omega))]
theorem dec1 {i : Nat} (h : 1 ≤ i) : nI i + Int32.ofInt (-1) = nI (i - 1) := by
  obtain ⟨k, rfl⟩ : ∃ k, i = k + 1 := ⟨i - 1, by omega⟩
  exact pk_m1 k
def slv (y1 : Nat → Int32) (e j : Nat) : Int32 := if hs (nI j) e = 0 then 5 else y1 j
theorem slv_a {y1 : Nat → Int32} {e j : Nat} {g : Nat → Int32} (h : ∀ i, i < j → g i = slv y1 e i) (c : hs (nI j) e = 0) : ∀ i, i < j + 1 → upd g j 5 i = slv y1 e i := fun i hi => by
  by_cases h9 : i = j
  · subst h9
    rw [pk_us, slv, if_pos c]
  · rw [pk_un h9]
    exact h i (by omega)
theorem slv_b {y1 : Nat → Int32} {e j : Nat} {g : Nat → Int32} (h : ∀ i, i < j → g i = slv y1 e i) (c : ¬ hs (nI j) e = 0) : ∀ i, i < j + 1 → upd g j (y1 j) i = slv y1 e i := fun i hi => by
  by_cases h9 : i = j
  · subst h9
    rw [pk_us, slv, if_neg c]
  · rw [pk_un h9]
    exact h i (by omega)
theorem lt4_s {g : Nat → Int32} {i : Nat} {x : Int32} (h : ∀ j, j < i → lt4 (g j)) (hx : lt4 x) : ∀ j, j < i + 1 → lt4 (upd g i x j) := fun j hj => by
  by_cases h9 : j = i
  · subst h9; rw [pk_us]; exact hx
  · rw [pk_un h9]; exact h j (by omega)
theorem and3 (x : Int32) : lt4 (x &&& 3) := by
  have h : (x &&& 3).toBitVec = x.toBitVec &&& (3 : Int32).toBitVec := rfl
  refine ⟨(x &&& 3).toBitVec.toNat, ?_, ?_⟩
  · rw [h, BitVec.toNat_and]
    exact Nat.lt_of_le_of_lt Nat.and_le_right (by decide)
  · apply Int32.toBitVec_inj.mp
    show (x &&& 3).toBitVec = BitVec.ofNat 32 (x &&& 3).toBitVec.toNat
    rw [BitVec.ofNat_toNat, BitVec.setWidth_eq]
theorem k3 {a b c : Int32} (ha : lt4 a) (hb : lt4 b) (hc : lt4 c) : ∃ k, k < 64 ∧ (a ||| (b <<< (2 &&& 31))) ||| (c <<< (4 &&& 31)) = nI k := by
  obtain ⟨i, hi, rfl⟩ := ha
  obtain ⟨j, hj, rfl⟩ := hb
  obtain ⟨k, hk, rfl⟩ := hc
  refine ⟨i + 4 * j + 16 * k, by omega, ?_⟩
  rcases (show i = 0 ∨ i = 1 ∨ i = 2 ∨ i = 3 by omega) with rfl | rfl | rfl | rfl <;> rcases (show j = 0 ∨ j = 1 ∨ j = 2 ∨ j = 3 by omega) with rfl | rfl | rfl | rfl <;> rcases (show k = 0 ∨ k = 1 ∨ k = 2 ∨ k = 3 by omega) with rfl | rfl | rfl | rfl <;> decide
theorem k2r {a b : Int32} (ha : lt4 a) (hb : lt4 b) : ∃ k, k < 16 ∧ a ||| (b <<< (2 &&& 31)) = nI k := by
  obtain ⟨i, hi, rfl⟩ := ha
  obtain ⟨j, hj, rfl⟩ := hb
  refine ⟨i + 4 * j, by omega, ?_⟩
  rcases (show i = 0 ∨ i = 1 ∨ i = 2 ∨ i = 3 by omega) with rfl | rfl | rfl | rfl <;> rcases (show j = 0 ∨ j = 1 ∨ j = 2 ∨ j = 3 by omega) with rfl | rfl | rfl | rfl <;> decide
def lt16 (r : Int32) : Prop := ∃ k, k < 16 ∧ r = nI k
end
section
/-! an edge is replaced: rows that move on, new ones in their place -/
/-- y is x with the places behind i moved on by d, up to n -/
def SHR (x y : Nat → Int32) (d n i : Nat) : Prop := ∀ j, j < n + d → y j = if i + d < j then x (j - d) else x j
theorem SHR_0 {x : Nat → Int32} {d n : Nat} : SHR x x d n (n - 1) := fun j hj => by rw [if_neg (by omega)]
theorem SHR_s {x y : Nat → Int32} {d n i : Nat} (h : SHR x y d n i) (h1 : 1 ≤ i) (hi : i < n) : SHR x (upd y (i + d) (y i)) d n (i - 1) := fun j hj => by
  by_cases h9 : j = i + d
  · subst h9
    rw [pk_us, h i (by omega), if_neg (by omega), if_pos (by omega), show i + d - d = i by omega]
  · rw [pk_un h9, h j hj]
    by_cases h8 : i + d < j
    · rw [if_pos h8, if_pos (by omega)]
    · rw [if_neg h8, if_neg (by omega)]
/-- t of the e new ones are at their places from k on -/
def RPT (x w y : Nat → Int32) (k e n t : Nat) : Prop := ∀ j, j < n + (e - 1) → y j = if k ≤ j ∧ j < k + t then w (j - k) else if k + (e - 1) < j then x (j - (e - 1)) else x j
theorem RPT_0 {x w y : Nat → Int32} {k e n : Nat} (h : SHR x y (e - 1) n k) : RPT x w y k e n 0 := fun j hj => by
  rw [h j hj, if_neg (show ¬ (k ≤ j ∧ j < k + 0) by omega)]
theorem RPT_s {x w y : Nat → Int32} {k e n t : Nat} (h : RPT x w y k e n t) : RPT x w (upd y (k + t) (w t)) k e n (t + 1) := fun j hj => by
  by_cases h9 : j = k + t
  · subst h9
    rw [pk_us, if_pos (by omega), show k + t - k = t by omega]
  · rw [pk_un h9, h j hj]
    by_cases h8 : k ≤ j ∧ j < k + t
    · rw [if_pos h8, if_pos (show k ≤ j ∧ j < k + (t + 1) by omega)]
    · rw [if_neg h8, if_neg (show ¬ (k ≤ j ∧ j < k + (t + 1)) by omega)]
def RPL (x w y : Nat → Int32) (k e n : Nat) : Prop := ∀ j, j < n + (e - 1) → y j = if j < k then x j else if j < k + e then w (j - k) else x (j - (e - 1))
theorem RPL_end {x w y : Nat → Int32} {k e n t : Nat} (he : t = e) (h1 : 1 ≤ e) (h : RPT x w y k e n t) : RPL x w y k e n := fun j hj => by
  subst he
  rw [h j hj]
  by_cases h2 : j < k
  · rw [if_neg (show ¬ (k ≤ j ∧ j < k + t) by omega), if_neg (show ¬ (k + (t - 1) < j) by omega), if_pos h2]
  · rw [if_neg h2]
    by_cases h3 : j < k + t
    · rw [if_pos (show k ≤ j ∧ j < k + t by omega), if_pos h3]
    · rw [if_neg (show ¬ (k ≤ j ∧ j < k + t) by omega), if_pos (show k + (t - 1) < j by omega), if_neg h3]
def nC (v : Nat) (p s t : Int32) : Int32 := if p = 0 then s else if p = 1 then t else (nI v + p) - 2
def cntF (p a0 a1 a2 a3 a4 a5 a6 a7 : Int32) : Int32 := if p = 0 then a0 else if p = 1 then a1 else if p = 2 then a2 else if p = 3 then a3 else if p = 4 then a4 else if p = 5 then a5 else if p = 6 then a6 else if p = 7 then a7 else -1002
theorem cnt_o {p a0 a1 a2 a3 a4 a5 a6 a7 : Int32} (h : p.toInt < 0 ∨ 7 < p.toInt) : cntF p a0 a1 a2 a3 a4 a5 a6 a7 = -1002 := by
  have f : ∀ k : Int32, 0 ≤ k.toInt → k.toInt ≤ 7 → ¬ p = k := fun k h1 h2 q => by subst q; omega
  unfold cntF
  rw [if_neg (f 0 (by decide) (by decide)), if_neg (f 1 (by decide) (by decide)), if_neg (f 2 (by decide) (by decide)), if_neg (f 3 (by decide) (by decide)), if_neg (f 4 (by decide) (by decide)), if_neg (f 5 (by decide) (by decide)), if_neg (f 6 (by decide) (by decide)), if_neg (f 7 (by decide) (by decide))]
end
section
/-! ways and colours of a figure, as the class reckons them -/
def cw1 (y s a b : Int32) : Int32 := if y &&& 1 = 0 then s else if (s >>> (a &&& 31)) &&& 1 = 0 then s else s ||| ((1 : Int32) <<< (b &&& 31))
def cw2 (y s a b : Int32) : Int32 := if y &&& 2 = 0 then s else if (s >>> (b &&& 31)) &&& 1 = 0 then s else s ||| ((1 : Int32) <<< (a &&& 31))
def cw (y s a b : Int32) : Int32 := cw2 y (cw1 y s a b) a b
theorem cw1_a {y s a b : Int32} (h : y &&& 1 = 0) : cw1 y s a b = s := if_pos h
theorem cw1_b {y s a b : Int32} (h : ¬ y &&& 1 = 0) (h2 : (s >>> (a &&& 31)) &&& 1 = 0) : cw1 y s a b = s := by rw [cw1, if_neg h, if_pos h2]
theorem cw1_c {y s a b : Int32} (h : ¬ y &&& 1 = 0) (h2 : ¬ (s >>> (a &&& 31)) &&& 1 = 0) : cw1 y s a b = s ||| ((1 : Int32) <<< (b &&& 31)) := by rw [cw1, if_neg h, if_neg h2]
theorem cw2_a {y s a b : Int32} (h : y &&& 2 = 0) : cw2 y s a b = s := if_pos h
theorem cw2_b {y s a b : Int32} (h : ¬ y &&& 2 = 0) (h2 : (s >>> (b &&& 31)) &&& 1 = 0) : cw2 y s a b = s := by rw [cw2, if_neg h, if_pos h2]
theorem cw2_c {y s a b : Int32} (h : ¬ y &&& 2 = 0) (h2 : ¬ (s >>> (b &&& 31)) &&& 1 = 0) : cw2 y s a b = s ||| ((1 : Int32) <<< (a &&& 31)) := by rw [cw2, if_neg h, if_neg h2]
/-- all edges once -/
def cwN (d : Int32) (x2 x3 : Nat → Int32) : Nat → Int32 → Int32
  | 0, s => s
  | i + 1, s => cw (d >>> ((nI (2 * i)) &&& 31)) (cwN d x2 x3 i s) (x2 i) (x3 i)
/-- so many rounds -/
def cwR (d : Int32) (x2 x3 : Nat → Int32) (n : Nat) : Nat → Int32 → Int32
  | 0, s => s
  | q + 1, s => cwN d x2 x3 n (cwR d x2 x3 n q s)
theorem cwR_b {d : Int32} {x2 x3 : Nat → Int32} {n q i : Nat} {s s6 se : Int32} (h6 : s6 = cwN d x2 x3 i se) (hi : i = n) (he : se = cwR d x2 x3 n (q - 1) s) (hq : 1 ≤ q) : s6 = cwR d x2 x3 n (q + 1 - 1) s := by
  obtain ⟨k, rfl⟩ : ∃ k, q = k + 1 := ⟨q - 1, by omega⟩
  rw [show k + 1 + 1 - 1 = k + 1 by omega, cwR, h6, hi, he, show k + 1 - 1 = k by omega]
def cmF (a b d : Int32) (x2 x3 : Nat → Int32) (n v : Nat) : Int32 := if (cwR d x2 x3 n (v - 1) ((1 : Int32) <<< (a &&& 31)) >>> (b &&& 31)) &&& 1 = 0 then 0 else 1
def wyF (d : Int32) (x2 x3 : Nat → Int32) (n v : Nat) : Int32 := (if cmF 0 1 d x2 x3 n v = 0 then 0 else 1) ||| (if cmF 1 0 d x2 x3 n v = 0 then 0 else 2)
theorem wy_0 {d : Int32} {x2 x3 : Nat → Int32} {n v : Nat} (h1 : cmF 0 1 d x2 x3 n v = 0) (h2 : cmF 1 0 d x2 x3 n v = 0) : (0 : Int32) = wyF d x2 x3 n v ∧ lt4 (wyF d x2 x3 n v) := by
  rw [wyF, if_pos h1, if_pos h2]; exact ⟨by decide, 0, by decide, by decide⟩
theorem wy_1 {d : Int32} {x2 x3 : Nat → Int32} {n v : Nat} (h1 : ¬ cmF 0 1 d x2 x3 n v = 0) (h2 : cmF 1 0 d x2 x3 n v = 0) : (1 : Int32) = wyF d x2 x3 n v ∧ lt4 (wyF d x2 x3 n v) := by
  rw [wyF, if_neg h1, if_pos h2]; exact ⟨by decide, 1, by decide, by decide⟩
theorem wy_2 {d : Int32} {x2 x3 : Nat → Int32} {n v : Nat} (h1 : cmF 0 1 d x2 x3 n v = 0) (h2 : ¬ cmF 1 0 d x2 x3 n v = 0) : (2 : Int32) = wyF d x2 x3 n v ∧ lt4 (wyF d x2 x3 n v) := by
  rw [wyF, if_pos h1, if_neg h2]; exact ⟨by decide, 2, by decide, by decide⟩
theorem wy_3 {d : Int32} {x2 x3 : Nat → Int32} {n v : Nat} (h1 : ¬ cmF 0 1 d x2 x3 n v = 0) (h2 : ¬ cmF 1 0 d x2 x3 n v = 0) : (3 : Int32) = wyF d x2 x3 n v ∧ lt4 (wyF d x2 x3 n v) := by
  rw [wyF, if_neg h1, if_neg h2]; exact ⟨by decide, 3, by decide, by decide⟩
/-- the colours p are allowed by the bits d -/
def alP (p d : Int32) (x2 x3 : Nat → Int32) (n : Nat) : Prop := ∀ i, i < n → ¬ (d >>> (((nI (2 * i)) + (((p >>> ((x2 i) &&& 31)) ^^^ (p >>> ((x3 i) &&& 31))) &&& 1)) &&& 31)) &&& 1 = 0
theorem alP_s {p d : Int32} {x2 x3 : Nat → Int32} {i : Nat} (h : alP p d x2 x3 i) (h2 : ¬ (d >>> (((nI (2 * i)) + (((p >>> ((x2 i) &&& 31)) ^^^ (p >>> ((x3 i) &&& 31))) &&& 1)) &&& 31)) &&& 1 = 0) : alP p d x2 x3 (i + 1) := fun j hj => by
  by_cases h9 : j = i
  · subst h9; exact h2
  · exact h j (by omega)
/-- which colourings there are among the first q even ones -/
def HUq (d : Int32) (x2 x3 : Nat → Int32) (n q : Nat) (r : Int32) : Prop := ∃ h, h < 4 ∧ r = nI h ∧ (h.testBit 0 = true ↔ ∃ k, k < q ∧ alP (nI (2 * k)) d x2 x3 n ∧ nI (2 * k) &&& 2 = 0) ∧ (h.testBit 1 = true ↔ ∃ k, k < q ∧ alP (nI (2 * k)) d x2 x3 n ∧ ¬ nI (2 * k) &&& 2 = 0)
theorem HUq.lt {d : Int32} {x2 x3 : Nat → Int32} {n q : Nat} {r : Int32} (h : HUq d x2 x3 n q r) : lt4 r := by
  obtain ⟨k, h1, h2, -⟩ := h
  exact ⟨k, h1, h2⟩
theorem ex_0 {P : Nat → Prop} : ∀ h : Nat, h < 1 → ((false = true) ↔ ∃ k, k < 0 ∧ P k) := fun _ _ => ⟨fun q => absurd q (by decide), fun ⟨k, hk, _⟩ => absurd hk (by omega)⟩
theorem ex_n {P : Nat → Prop} {q : Nat} (h : ¬ P q) : (∃ k, k < q + 1 ∧ P k) ↔ ∃ k, k < q ∧ P k := by
  constructor
  · rintro ⟨k, hk, e⟩
    refine ⟨k, ?_, e⟩
    rcases Nat.lt_or_ge k q with z | z
    · exact z
    · have : k = q := by omega
      subst this
      exact absurd e h
  · rintro ⟨k, hk, e⟩
    exact ⟨k, by omega, e⟩
theorem ex_y {P : Nat → Prop} {q : Nat} (h : P q) : ∃ k, k < q + 1 ∧ P k := ⟨q, by omega, h⟩
theorem HU_0 {d : Int32} {x2 x3 : Nat → Int32} {n : Nat} : HUq d x2 x3 n 0 0 := ⟨0, by decide, rfl, ⟨fun q => absurd q (by decide), fun ⟨k, hk, _⟩ => absurd hk (by omega)⟩, ⟨fun q => absurd q (by decide), fun ⟨k, hk, _⟩ => absurd hk (by omega)⟩⟩
theorem HU_n {d : Int32} {x2 x3 : Nat → Int32} {n q : Nat} {r : Int32} (h : HUq d x2 x3 n q r) (hn : ¬ alP (nI (2 * q)) d x2 x3 n) : HUq d x2 x3 n (q + 1) r := by
  obtain ⟨k, h1, h2, h3, h4⟩ := h
  exact ⟨k, h1, h2, h3.trans (ex_n (P := fun k => alP (nI (2 * k)) d x2 x3 n ∧ nI (2 * k) &&& 2 = 0) (fun w => hn w.1)).symm, h4.trans (ex_n (P := fun k => alP (nI (2 * k)) d x2 x3 n ∧ ¬ nI (2 * k) &&& 2 = 0) (fun w => hn w.1)).symm⟩
theorem or_n1 {h : Nat} (hh : h < 4) : ∃ k, k < 4 ∧ nI h ||| 1 = nI k ∧ k.testBit 0 = true ∧ (k.testBit 1 = h.testBit 1) := by
  have : ∀ h, h < 4 → (h ||| 1) < 4 ∧ nI h ||| 1 = nI (h ||| 1) ∧ (h ||| 1).testBit 0 = true ∧ ((h ||| 1).testBit 1 = h.testBit 1) := by decide +kernel
  exact ⟨h ||| 1, this h hh⟩
theorem or_n2 {h : Nat} (hh : h < 4) : ∃ k, k < 4 ∧ nI h ||| 2 = nI k ∧ k.testBit 1 = true ∧ (k.testBit 0 = h.testBit 0) := by
  have : ∀ h, h < 4 → (h ||| 2) < 4 ∧ nI h ||| 2 = nI (h ||| 2) ∧ (h ||| 2).testBit 1 = true ∧ ((h ||| 2).testBit 0 = h.testBit 0) := by decide +kernel
  exact ⟨h ||| 2, this h hh⟩
theorem HU_1 {d : Int32} {x2 x3 : Nat → Int32} {n q : Nat} {r : Int32} (h : HUq d x2 x3 n q r) (ha : alP (nI (2 * q)) d x2 x3 n) (hc : nI (2 * q) &&& 2 = 0) : HUq d x2 x3 n (q + 1) (r ||| 1) := by
  obtain ⟨k, h1, rfl, h3, h4⟩ := h
  obtain ⟨j, j1, j2, j3, j4⟩ := or_n1 h1
  exact ⟨j, j1, j2, ⟨fun _ => ex_y (P := fun k => alP (nI (2 * k)) d x2 x3 n ∧ nI (2 * k) &&& 2 = 0) ⟨ha, hc⟩, fun _ => j3⟩, by rw [j4]; exact h4.trans (ex_n (P := fun k => alP (nI (2 * k)) d x2 x3 n ∧ ¬ nI (2 * k) &&& 2 = 0) (fun w => w.2 hc)).symm⟩
theorem HU_2 {d : Int32} {x2 x3 : Nat → Int32} {n q : Nat} {r : Int32} (h : HUq d x2 x3 n q r) (ha : alP (nI (2 * q)) d x2 x3 n) (hc : ¬ nI (2 * q) &&& 2 = 0) : HUq d x2 x3 n (q + 1) (r ||| 2) := by
  obtain ⟨k, h1, rfl, h3, h4⟩ := h
  obtain ⟨j, j1, j2, j3, j4⟩ := or_n2 h1
  exact ⟨j, j1, j2, by rw [j4]; exact h3.trans (ex_n (P := fun k => alP (nI (2 * k)) d x2 x3 n ∧ nI (2 * k) &&& 2 = 0) (fun w => hc w.2)).symm, ⟨fun _ => ex_y (P := fun k => alP (nI (2 * k)) d x2 x3 n ∧ ¬ nI (2 * k) &&& 2 = 0) ⟨ha, hc⟩, fun _ => j3⟩⟩
/-- the bits of all edges -/
def owW (x1 : Nat → Int32) : Nat → Int32
  | 0 => 0
  | i + 1 => owW x1 i ||| ((if x1 i = 3 then (1 : Int32) else 3) <<< ((nI (2 * i)) &&& 31))
def owH (x1 : Nat → Int32) : Nat → Int32
  | 0 => 0
  | i + 1 => owH x1 i ||| ((if x1 i = 3 then (2 : Int32) else 3) <<< ((nI (2 * i)) &&& 31))
def OwK (x1 x2 x3 : Nat → Int32) (n v : Nat) (r : Int32) : Prop := ∃ h, HUq (owH x1 n) x2 x3 n (2 ^ (v - 1)) h ∧ r = wyF (owW x1 n) x2 x3 n v ||| (h <<< (2 &&& 31))
def KdC (x1 x2 x3 : Nat → Int32) (n v : Nat) (r : Int32) : Prop := (isD x1 n = 0 ∧ r = -1003) ∨ (¬ isD x1 n = 0 ∧ OwK x1 x2 x3 n v r)
end
section
theorem va_P.rowQ {D : va_G} {ws : va_W} {H : Heap} {a n : Nat} {cA : ClassId} {f g : Nat → Option Nat} {A : Nat → Prop} (k : Nat) (hP : va_P D vwCl ws H) (hD : va_D A ws) (he : ws[k]? = some (a, .inl (cA, n, .inr (.inr (.inr (.inr f)))))) (h : ∀ j, j < n → f j = g j) : va_P D vwCl (ws.set k (a, .inl (cA, n, .inr (.inr (.inr (.inr g)))))) H ∧ va_D A (ws.set k (a, .inl (cA, n, .inr (.inr (.inr (.inr g)))))) := by
  refine ⟨hP.set hD he ?_ (fun _ _ => rfl), hD.set he⟩
  have h1 : H[a]? = some (vp_cell cA (n, .inr (.inr (.inr (.inr f))))) := hP k _ he
  show H[a]? = some (vp_cell cA (n, .inr (.inr (.inr (.inr g)))))
  rw [h1, vp_cell_q, vp_cell_q, arrV_ext (fun j hj => by rw [h j hj])]
/-- what a rule holds that was read from a page -/
def RNew (pf : Nat → Int32) (z : Nat) (t : RT) : Prop := t.2.1.1 = cL (pf 0) ∧ t.2.1.2.1 = nI ((z - 2) / 3) ∧ t.2.1.2.2 = nI (ndN pf z) ∧ edT pf 2 ((z - 2) / 3) t.2.2.1 t.2.2.2.1 t.2.2.2.2.1 ∧ (∀ j, j < 3 → t.2.2.2.2.2.1 j = slv t.2.2.1 ((z - 2) / 3) j) ∧ (∀ j, j < 64 → lt4 (t.2.2.2.2.2.2.1 j)) ∧ ∀ j, j < 64 → lt4 (t.2.2.2.2.2.2.2 j)
theorem fm_perm {α β : Type} (f : α → List β) {a b : List α} (h : a.Perm b) : (a.flatMap f).Perm (b.flatMap f) := by
  induction h with
  | nil => exact List.Perm.refl _
  | cons x h ih => rw [List.flatMap_cons, List.flatMap_cons]; exact ih.append_left _
  | swap x y l =>
    rw [List.flatMap_cons, List.flatMap_cons, List.flatMap_cons, List.flatMap_cons, ← List.append_assoc, ← List.append_assoc]
    exact List.perm_append_comm.append_right _
  | trans h1 h2 i1 i2 => exact i1.trans i2
theorem RWn_fm {cI : ClassId} {ρ : Nat → RT} : ∀ n, RWn cI ρ n = (List.range n).flatMap (fun k => RC cI (ρ k)) := by
  intro n
  induction n with
  | zero => rfl
  | succ n ih => rw [RWn, ih, List.range_succ, List.flatMap_append]; simp
/-- where the rules are behind a drop of rule k out of r -/
def sg (k r j : Nat) : Nat := if j < k then j else if j + 1 < r then j + 1 else if j + 1 = r then k else j
theorem sg_perm : ∀ r, r < 10 → ∀ k, k < r → ((List.range 9).map (sg k r)).Perm (List.range 9) := by decide +kernel
theorem RB_perm {cI : ClassId} {ρ : Nat → RT} {k r : Nat} (hr : r ≤ 9) (hk : k < r) : (RB cI ρ).Perm (RB cI (fun j => ρ (sg k r j))) := by
  rw [RB, RB, RWn_fm, RWn_fm]
  have h := fm_perm (fun k => RC cI (ρ k)) (sg_perm r (by omega) k hk)
  rw [List.flatMap_map] at h
  exact h.symm
theorem RB_any {D : va_G} {tys : List (ClassId × FieldType)} {s : State} {H : Heap} {E : va_W} {cI : ClassId} {ρ : Nat → RT} {A : Nat → Prop} {j : Nat} (hj : j < 9) (hK : va_K D vwCl tys s) (hP : va_P D vwCl (E ++ RB cI ρ) H) (hD : va_D A (E ++ RB cI ρ)) : va_Any "GrownGraphs$Rule" s H (ρ j).1.1 := by
  have h := (focus j hj hP hD).1
  have hm : ((ρ j).1.1, (.inr (4, [.int (ρ j).2.1.1, .ref (ρ j).1.2.1, .ref (ρ j).1.2.2.2.2.2.1, .ref (ρ j).1.2.2.2.2.2.2.1, .ref (ρ j).1.2.2.2.2.2.2.2]) : va_E)) ∈ (E ++ RC cI (ρ j)) ++ RX cI ρ j := List.mem_append_left _ (List.mem_append_right _ (by rw [RC]; exact List.mem_cons_self))
  obtain ⟨q0, hq⟩ := List.mem_iff_getElem?.mp hm
  refine va_rAny hK h hq (show vwCl[4]? = some (RX4, TX4, 5) from rfl) (fun comp c0 h1 h2 => ?_)
  have h3 : s.vm.findClass RX4 = some comp := h1
  rw [h3] at h2
  obtain rfl := Option.some.inj h2
  exact Vm.assignable_self _ _
/-- the row of the rules while a drop goes through it: places from k up to i hold the next one's -/
def sgr (ρ : Nat → RT) (k i : Nat) (g : Nat → Option Nat) : Prop := ∀ j, j < 9 → g j = some (if k ≤ j ∧ j < i then (ρ (j + 1)).1.1 else (ρ j).1.1)
theorem sgr_s {ρ : Nat → RT} {k i : Nat} {g : Nat → Option Nat} (hk : k ≤ i) (h : sgr ρ k i g) : sgr ρ k (i + 1) (va_up g i (some (ρ (i + 1)).1.1)) := fun j hj => by
  by_cases h9 : j = i
  · subst h9
    rw [if_pos ⟨hk, by omega⟩]
    simp [va_up]
  · have := h j hj
    simp only [va_up, if_neg h9]
    rw [this]
    by_cases h8 : k ≤ j ∧ j < i
    · rw [if_pos h8, if_pos ⟨h8.1, by omega⟩]
    · rw [if_neg h8, if_neg (by omega)]
theorem sgr_e {ρ : Nat → RT} {k r : Nat} {g : Nat → Option Nat} (hk : k < r) (hr : r ≤ 9) (h : sgr ρ k (r - 1) g) : ∀ j, j < 9 → va_up g (r - 1) (some (ρ k).1.1) j = some ((ρ (sg k r j)).1.1) := fun j hj => by
  by_cases h9 : j = r - 1
  · simp only [va_up, if_pos h9, sg]
    rw [if_neg (by omega), if_neg (by omega), if_pos (by omega)]
  · simp only [va_up, if_neg h9]
    rw [h j hj]
    by_cases h8 : k ≤ j ∧ j < r - 1
    · rw [if_pos h8, sg, if_neg (by omega), if_pos (by omega)]
    · rw [if_neg h8, sg]
      by_cases h7 : j < k
      · rw [if_pos h7]
      · rw [if_neg h7, if_neg (by omega), if_neg (by omega)]
end
section
/-! what is settled: how many classes of a letter -/
def cz (z : Nat → Int32) (b : Nat) : Nat → Nat
  | 0 => 0
  | n + 1 => if z (b + n) = 0 then cz z b n else cz z b n + 1
theorem cz_le {z : Nat → Int32} {b : Nat} : ∀ n, cz z b n ≤ n := by
  intro n
  induction n with
  | zero => exact Nat.le_refl _
  | succ n ih => rw [cz]; split <;> omega
theorem cz_lt {z : Nat → Int32} {b k : Nat} (h : z (b + k) = 0) : ∀ n, k < n → cz z b n < n := by
  intro n
  induction n with
  | zero => intro h; omega
  | succ n ih =>
    intro hk
    rw [cz]
    by_cases h9 : k = n
    · subst h9
      rw [if_pos h]
      have := cz_le (z := z) (b := b) k
      omega
    · have := ih (by omega)
      split <;> omega
theorem cz_out {z : Nat → Int32} {b j : Nat} {x : Int32} : ∀ n, (j < b ∨ b + n ≤ j) → cz (upd z j x) b n = cz z b n := by
  intro n
  induction n with
  | zero => intro _; rfl
  | succ n ih =>
    intro h
    rw [cz, cz, ih (by omega), pk_un (by omega)]
theorem cz_in {z : Nat → Int32} {b k : Nat} (h : z (b + k) = 0) : ∀ n, k < n → cz (upd z (b + k) 1) b n = cz z b n + 1 := by
  intro n
  induction n with
  | zero => intro h; omega
  | succ n ih =>
    intro hk
    rw [cz, cz]
    by_cases h9 : k = n
    · subst h9
      rw [pk_us, if_neg (by decide), if_pos h, cz_out k (by omega)]
    · rw [pk_un (by omega), ih (by omega)]
      split <;> rfl
/-- the lights' rows while they are found: counts, and classes that are classes -/
def SI (z k c : Nat → Int32) : Prop := (∀ l, l < 6 → c l = nI (cz z (l * 16) 16)) ∧ ∀ l, l < 6 → ∀ i, i < cz z (l * 16) 16 → ∃ q, q < 16 ∧ k (l * 16 + i) = nI q
theorem cz_zero {b : Nat} : ∀ n, cz (fun _ => 0) b n = 0 := by
  intro n
  induction n with
  | zero => rfl
  | succ n ih => rw [cz, if_pos rfl, ih]
theorem SI_0 {k : Nat → Int32} : SI (fun _ => 0) k (fun _ => 0) := by
  refine ⟨fun l _ => by rw [cz_zero]; rfl, fun l _ i hi => ?_⟩
  rw [cz_zero] at hi
  omega
theorem SI_s {z k c : Nat → Int32} {a b : Nat} (h : SI z k c) (ha : a < 6) (hb : b < 16) (hz : z (a * 16 + b) = 0) : SI (upd z (a * 16 + b) 1) (upd k (a * 16 + cz z (a * 16) 16) (nI b)) (upd c a (nI (cz z (a * 16) 16 + 1))) := by
  have hlt := cz_lt hz 16 hb
  refine ⟨fun l hl => ?_, fun l hl i hi => ?_⟩
  · by_cases h9 : l = a
    · subst h9
      rw [pk_us, cz_in hz 16 hb]
    · rw [pk_un h9, cz_out 16 (by omega)]
      exact h.1 l hl
  · by_cases h9 : l = a
    · subst h9
      rw [cz_in hz 16 hb] at hi
      by_cases h8 : i = cz z (l * 16) 16
      · subst h8
        exact ⟨b, hb, pk_us⟩
      · rw [pk_un (by omega)]
        exact h.2 l hl i (by omega)
    · rw [cz_out 16 (by omega)] at hi
      have := cz_le (z := z) (b := l * 16) 16
      rw [pk_un (by omega)]
      exact h.2 l hl i hi
def NR (z : Nat → Int32) (r : Int32) : Prop := r = -1 ∨ ∃ k, k < 96 ∧ r = nI k ∧ z k = 0
/-- what the book's rules must be for the tables that are made of them -/
def RI (t : RT) : Prop := (∃ o, o < 3 ∧ t.2.1.1 = nI o) ∧ (∃ e, 1 ≤ e ∧ e ≤ 3 ∧ t.2.1.2.1 = nI e) ∧ (∃ v, 2 ≤ v ∧ v ≤ 5 ∧ t.2.1.2.2 = nI v) ∧ (∀ j, j < 3 → ∃ q, q < 6 ∧ t.2.2.2.2.2.1 j = nI q) ∧ (∀ j, j < 3 → ¬ t.2.2.2.2.2.1 j = 5 → (∃ q, q < 4 ∧ t.2.2.2.1 j = nI q) ∧ ∃ q, q < 4 ∧ t.2.2.2.2.1 j = nI q) ∧ (∀ j, j < 64 → lt4 (t.2.2.2.2.2.2.1 j)) ∧ ∀ j, j < 64 → lt4 (t.2.2.2.2.2.2.2 j)
def BI (ρ : Nat → RT) (r : Nat) : Prop := ∀ j, j < r → RI (ρ j)
end
section
theorem NR.of {z : Nat → Int32} {r : Int32} (h : NR z r) (c : ¬ r = -1) : ∃ k, k < 96 ∧ r = nI k ∧ z k = 0 := by
  rcases h with h | h
  · exact absurd h c
  · exact h
theorem opn_y {p : Int32} (h : ¬ opn p = 0) : ∃ a, a < 3 ∧ p = nI a := by
  unfold opn at h
  by_cases h1 : p < 0
  · rw [if_pos h1] at h; exact absurd rfl h
  · rw [if_neg h1] at h
    by_cases h2 : 3 ≤ p
    · rw [if_pos h2] at h; exact absurd rfl h
    · obtain ⟨j, hj, e⟩ := nI_of h1
      refine ⟨j, ?_, e⟩
      rw [e] at h2
      exact nleN (a := 3) hj (by omega) h2
theorem rng16 {p : Int32} (h1 : ¬ p < 0) (h2 : ¬ 16 ≤ p) : ∃ b, b < 16 ∧ p = nI b := by
  obtain ⟨j, hj, e⟩ := nI_of h1
  refine ⟨j, ?_, e⟩
  rw [e] at h2
  exact nleN (a := 16) hj (by omega) h2
end
section
theorem and32 {x : Nat} (hx : x < 32) (y : Int32) : ∃ k, k < 32 ∧ nI x &&& y = nI k := by
  have h : (nI x &&& y).toBitVec = (nI x).toBitVec &&& y.toBitVec := rfl
  refine ⟨(nI x &&& y).toBitVec.toNat, ?_, ?_⟩
  · rw [h, BitVec.toNat_and]
    refine Nat.lt_of_le_of_lt Nat.and_le_left ?_
    have : (nI x).toBitVec.toNat = x % 2 ^ 32 := rfl
    rw [this]
    omega
  · apply Int32.toBitVec_inj.mp
    show (nI x &&& y).toBitVec = BitVec.ofNat 32 (nI x &&& y).toBitVec.toNat
    rw [BitVec.ofNat_toNat, BitVec.setWidth_eq]
def SDn (n : Nat) (s : Nat → Int32) : Prop := ∀ j, j < n → ∃ w, w < 5 ∧ s j = nI w
theorem SDn_s {n w : Nat} {s : Nat → Int32} (h : SDn n s) (hw : w < 5) : SDn (n + 1) (upd s n (nI w)) := fun j hj => by
  by_cases h9 : j = n
  · subst h9; exact ⟨w, hw, pk_us⟩
  · rw [pk_un h9]; exact h j (by omega)
theorem SDn_k {n k : Nat} {x : Int32} {s : Nat → Int32} (h : SDn n s) (hk : n ≤ k) : SDn n (upd s k x) := fun j hj => by
  rw [pk_un (by omega)]; exact h j hj
theorem SDn_le {n k : Nat} {s : Nat → Int32} (h : SDn n s) (hk : k ≤ n) : SDn k s := fun j hj => h j (by omega)
theorem SDn_0 {s : Nat → Int32} : SDn 0 s := fun j hj => absurd hj (by omega)
theorem or01 {a b : Int32} (ha : a = 0 ∨ a = 1) (hb : b = 0 ∨ b = 1) : a ||| b = 0 ∨ a ||| b = 1 := by
  rcases ha with rfl | rfl <;> rcases hb with rfl | rfl
  · exact Or.inl (by decide)
  · exact Or.inr (by decide)
  · exact Or.inr (by decide)
  · exact Or.inr (by decide)
/-- where a rule's edges go -/
def FT (x2 x3 x4 : Nat → Int32) : Prop := ∀ j, j < 3 → ¬ x4 j = 5 → (∃ q, q < 4 ∧ x2 j = nI q) ∧ ∃ q, q < 4 ∧ x3 j = nI q
theorem pow_le5 {v : Nat} (h : v ≤ 5) : 2 ^ v ≤ 32 := Nat.le_trans (Nat.pow_le_pow_right (by decide) h) (by decide)
theorem pow_ge1 {v : Nat} : 1 ≤ 2 ^ v := Nat.one_le_two_pow
end
section
theorem ltN {a b : Nat} (hb : b < 2147483648) (ha : a < 2147483648) (h : nI a < nI b) : a < b := (nI_ltI ha hb).mp h
theorem nltN {a b : Nat} (hb : b < 2147483648) (ha : a < 2147483648) (h : ¬ nI a < nI b) : b ≤ a := by
  rcases Nat.lt_or_ge a b with q | q
  · exact absurd (nI_lt q hb) h
  · exact q
def letOK (p : Int32) (z : Nat) : Prop := ¬ p < 32 ∧ p ≤ 126 ∧ nI z < 16
theorem nd_ge (pf : Nat → Int32) (z : Nat) : 2 ≤ ndN pf z := by unfold ndN; omega
theorem nd_le (pf : Nat → Int32) (z : Nat) : ndN pf z ≤ 5 := by
  unfold ndN
  repeat' split
  all_goals omega
theorem cL_rng {c : Int32} (h : ¬ cL c < 0) : ∃ q, q < 5 ∧ cL c = nI q := by
  unfold cL at h ⊢
  by_cases h1 : c < 65
  · rw [if_pos h1] at h ⊢
    by_cases h2 : c = 97
    · rw [if_pos h2]; exact ⟨3, by decide, rfl⟩
    · rw [if_neg h2] at h ⊢
      by_cases h3 : c = 98
      · rw [if_pos h3]; exact ⟨4, by decide, rfl⟩
      · rw [if_neg h3] at h; exact absurd (by decide) h
  · rw [if_neg h1] at h ⊢
    by_cases h4 : 67 < c
    · rw [if_pos h4] at h ⊢
      by_cases h2 : c = 97
      · rw [if_pos h2]; exact ⟨3, by decide, rfl⟩
      · rw [if_neg h2] at h ⊢
        by_cases h3 : c = 98
        · rw [if_pos h3]; exact ⟨4, by decide, rfl⟩
        · rw [if_neg h3] at h; exact absurd (by decide) h
    · rw [if_neg h4]
      have hc : 0 ≤ c.toInt := by
        simp only [Int32.lt_iff_toInt_lt] at h1
        rw [show (65 : Int32).toInt = 65 from by decide] at h1
        omega
      obtain ⟨j, hj, e⟩ := nI_of (x := c) (by simp only [Int32.lt_iff_toInt_lt]; rw [show (0 : Int32).toInt = 0 from by decide]; omega)
      subst e
      have a1 := nltN (b := 65) (a := j) (by omega) hj h1
      have a2 := nltN (a := 67) (b := j) hj (by omega) h4
      exact ⟨j - 65, by omega, pk_sub (a := j) (b := 65) a1⟩
theorem dg_rng {c : Int32} (h1 : ¬ c < 48) (h2 : ¬ 51 < c) : ∃ q, q < 4 ∧ c - 48 = nI q := by
  obtain ⟨j, hj, e⟩ := nI_of (x := c) (fun q => h1 (by
    simp only [Int32.lt_iff_toInt_lt] at q ⊢
    rw [show (0 : Int32).toInt = 0 from by decide] at q
    rw [show (48 : Int32).toInt = 48 from by decide]
    omega))
  subst e
  have a1 := nltN (b := 48) (a := j) (by omega) hj h1
  have a2 := nltN (a := 51) (b := j) hj (by omega) h2
  exact ⟨j - 48, by omega, pk_sub (a := j) (b := 48) a1⟩
theorem iW_y {h z : Nat} (c : ¬ iW h z = 0) : h < z ∧ (z - h) % 3 = 0 := by
  unfold iW at c
  by_cases q : h < z ∧ (z - h) % 3 = 0
  · exact q
  · rw [if_neg q] at c; exact absurd rfl c
theorem ro_z {pf : Nat → Int32} {z : Nat} (h : RuleOK pf z) : 2 < z ∧ (z - 2) % 3 = 0 ∧ z ≤ 11 := by
  obtain ⟨a, b⟩ := iW_y h.1
  have := (h.2.1.2.1 (z - 1) (by omega)).1
  exact ⟨a, b, by omega⟩
theorem go_z {pf : Nat → Int32} {z : Nat} (h : GraphOK pf z) : 0 < z ∧ z % 3 = 0 ∧ z ≤ 15 := by
  obtain ⟨a, b⟩ := iW_y h.1
  have := (h.2.1.2.1 (z - 1) (by omega)).1
  exact ⟨a, b, by omega⟩
theorem ro_l {pf : Nat → Int32} {z : Nat} (h : RuleOK pf z) : ¬ opn (cL (pf 0)) = 0 := by
  have hz := ro_z h
  have h0 := (h.2.1.2.1 0 (by omega)).2
  rw [if_pos (show (0 : Nat) < 2 from by decide), fH, if_pos (show nI 0 = 0 from rfl)] at h0
  exact h0
theorem opn_n {x : Int32} (h : ¬ opn x = 0) : ¬ x < 0 := fun q => h (by rw [opn, if_pos q])
theorem ro_e {pf : Nat → Int32} {z j : Nat} (h : RuleOK pf z) (hj : j < (z - 2) / 3) : (¬ cL (pf (2 + 3 * j)) < 0) ∧ (∃ q, q < 4 ∧ pf (2 + 3 * j + 1) - 48 = nI q) ∧ ∃ q, q < 4 ∧ pf (2 + 3 * j + 2) - 48 = nI q := by
  have hz := ro_z h
  have e0 := (h.2.1.2.1 (2 + 3 * j) (by omega)).2
  have e1 := (h.2.1.2.1 (2 + 3 * j + 1) (by omega)).2
  have e2 := (h.2.1.2.1 (2 + 3 * j + 2) (by omega)).2
  rw [if_neg (by omega)] at e0 e1 e2
  rw [show (2 + 3 * j - 2) % 3 = 0 by omega] at e0
  rw [show (2 + 3 * j + 1 - 2) % 3 = 1 by omega] at e1
  rw [show (2 + 3 * j + 2 - 2) % 3 = 2 by omega] at e2
  unfold fE0 at e0 e1 e2
  rw [if_pos (show nI 0 = 0 from rfl)] at e0
  rw [if_neg (show ¬ nI 1 = 0 from by decide)] at e1
  rw [if_neg (show ¬ nI 2 = 0 from by decide)] at e2
  refine ⟨fun q => by rw [if_pos q] at e0; exact e0 rfl, dg_rng (fun q => by rw [if_pos q] at e1; exact e1 rfl) (fun q => ?_), dg_rng (fun q => by rw [if_pos q] at e2; exact e2 rfl) (fun q => ?_)⟩
  · by_cases w : pf (2 + 3 * j + 1) < 48
    · rw [if_pos w] at e1; exact e1 rfl
    · rw [if_neg w, if_pos q] at e1; exact e1 rfl
  · by_cases w : pf (2 + 3 * j + 2) < 48
    · rw [if_pos w] at e2; exact e2 rfl
    · rw [if_neg w, if_pos q] at e2; exact e2 rfl
theorem RI_new {pf : Nat → Int32} {z : Nat} {t : RT} (h : RuleOK pf z) (ht : RNew pf z t) : RI t := by
  have hz := ro_z h
  obtain ⟨h1, h2, h3, h4, h5, h6, h7⟩ := ht
  refine ⟨?_, ⟨(z - 2) / 3, by omega, by omega, h2⟩, ⟨ndN pf z, nd_ge pf z, nd_le pf z, h3⟩, fun j hj => ?_, fun j hj hn => ?_, h6, h7⟩
  · obtain ⟨o, ho, e⟩ := opn_y (ro_l h)
    exact ⟨o, ho, by rw [h1]; exact e⟩
  · rw [h5 j hj, slv]
    by_cases q : hs (nI j) ((z - 2) / 3) = 0
    · rw [if_pos q]; exact ⟨5, by decide, rfl⟩
    · rw [if_neg q]
      obtain ⟨i, hi, e⟩ := hs_y (by omega) q
      have := (nI_eq (by omega) (by omega)).mp e
      subst this
      rw [(h4 j hi).1]
      obtain ⟨w, hw, e⟩ := cL_rng (ro_e h hi).1
      exact ⟨w, by omega, e⟩
  · rw [h5 j hj, slv] at hn
    by_cases q : hs (nI j) ((z - 2) / 3) = 0
    · rw [if_pos q] at hn; exact absurd rfl hn
    · obtain ⟨i, hi, e⟩ := hs_y (by omega) q
      have := (nI_eq (by omega) (by omega)).mp e
      subst this
      rw [(h4 j hi).2.1, (h4 j hi).2.2]
      exact (ro_e h hi).2
theorem BI_add {ρ ρ2 : Nat → RT} {r : Nat} {pf : Nat → Int32} {z : Nat} (h : BI ρ r) (hR : RuleOK pf z) (hn : RNew pf z (ρ2 r)) (hk : ∀ k, ¬ k = r → ρ2 k = ρ k) : BI ρ2 (r + 1) := fun j hj => by
  by_cases h9 : j = r
  · subst h9; exact RI_new hR hn
  · rw [hk j h9]; exact h j (by omega)
theorem BI_drop {ρ : Nat → RT} {r k : Nat} (h : BI ρ r) (hk : k < r) : BI (fun j => ρ (sg k r j)) (r - 1) := fun j hj => by
  show RI (ρ (sg k r j))
  apply h
  unfold sg
  split
  · omega
  · split
    · omega
    · split <;> omega
/-- what rule() answers and leaves -/
def RuP (pf : Nat → Int32) (z r : Nat) (ρ : Nat → RT) (a : Int32) (z2 r2 : Nat) (ρ2 : Nat → RT) : Prop := (¬ RuleOK pf z ∧ a = -1003 ∧ z2 = z ∧ r2 = r ∧ ρ2 = ρ) ∨ (RuleOK pf z ∧ ¬ r < 9 ∧ a = -1004 ∧ z2 = z ∧ r2 = r ∧ ρ2 = ρ) ∨ (RuleOK pf z ∧ r < 9 ∧ a = nI r ∧ z2 = 0 ∧ r2 = r + 1 ∧ RNew pf z (ρ2 r) ∧ ∀ k, ¬ k = r → ρ2 k = ρ k)
def DrP (p : Int32) (r : Nat) (ρ : Nat → RT) (a : Int32) (r2 : Nat) (ρ2 : Nat → RT) : Prop := (hs p r = 0 ∧ a = -1001 ∧ r2 = r ∧ ρ2 = ρ) ∨ ∃ k, k < r ∧ p = nI k ∧ a = nI (r - 1) ∧ r2 = r - 1 ∧ ρ2 = fun j => ρ (sg k r j)
/-- the figure's numbers: edges, nodes -/
def FgI (n v : Nat) : Prop := n ≤ 12 ∧ v ≤ 9 ∧ (n = 0 ∨ 2 ≤ v)
def GrP (pf : Nat → Int32) (z n v : Nat) (x1 x2 x3 : Nat → Int32) (a : Int32) (z2 n2 v2 : Nat) (y1 y2 y3 : Nat → Int32) : Prop := (¬ GraphOK pf z ∧ a = -1003 ∧ z2 = z ∧ n2 = n ∧ v2 = v ∧ y1 = x1 ∧ y2 = x2 ∧ y3 = x3) ∨ (GraphOK pf z ∧ a = nI (z / 3) ∧ z2 = 0 ∧ n2 = z / 3 ∧ v2 = ndN pf z ∧ edT pf 0 (z / 3) y1 y2 y3)
theorem GrP.fg {pf : Nat → Int32} {z n v : Nat} {x1 x2 x3 : Nat → Int32} {a : Int32} {z2 n2 v2 : Nat} {y1 y2 y3 : Nat → Int32} (h : GrP pf z n v x1 x2 x3 a z2 n2 v2 y1 y2 y3) (hf : FgI n v) : FgI n2 v2 := by
  rcases h with ⟨-, -, -, rfl, rfl, -⟩ | ⟨h, -, -, rfl, rfl, -⟩
  · exact hf
  · have := go_z h
    exact ⟨by omega, by have := nd_le pf z; omega, Or.inr (nd_ge pf z)⟩
theorem isD_v {x : Nat → Int32} {n v : Nat} (hf : FgI n v) (c : ¬ isD x n = 0) : 1 ≤ v := by
  rcases hf.2.2 with h | h
  · subst h
    rw [isD, if_pos (by decide)] at c
    exact absurd rfl c
  · omega
end
section
def GrS (pf : Nat → Int32) (z : Nat) (s1 s3 a b : Int32) : Prop := (¬ GraphOK pf z ∧ a = s1 ∧ b = s3) ∨ (GraphOK pf z ∧ a = 0 ∧ b = s3 + 1)
/-- what of() answers -/
def COf (p0 p1 : Int32) (r : Nat) (ρ : Nat → RT) (a : Int32) : Prop :=
  (hs p0 r = 0 ∧ a = -1001) ∨ ∃ j, j < r ∧ p0 = nI j ∧ ((p1 = 0 ∧ a = (ρ j).2.1.1) ∨ (p1 = 1 ∧ a = (ρ j).2.1.2.1) ∨ (p1 = 2 ∧ a = (ρ j).2.1.2.2) ∨ ((¬ p1 = 0 ∧ ¬ p1 = 1 ∧ ¬ p1 = 2 ∧ (p1 < 10 ∨ ¬ p1 < 13)) ∧ a = -1002) ∨
    (¬ p1 < 10 ∧ p1 < 13 ∧ ∃ e, (e ≤ 3 ∧ (ρ j).2.1.2.1 = nI e) ∧ ((hs (p1 - 10) e = 0 ∧ a = -1) ∨ ∃ i, i < e ∧ p1 - 10 = nI i ∧ a = ((100 * ((ρ j).2.2.1 i)) + (10 * ((ρ j).2.2.2.1 i))) + ((ρ j).2.2.2.2.1 i))))
/-- what step() answers and leaves -/
def CStP (p0 p1 : Int32) (r n v : Nat) (g1 g2 g3 : Nat → Int32) (ρ : Nat → RT) (s1 s2 a : Int32) (n2 v2 : Nat) (y1 y2 y3 : Nat → Int32) (s12 s22 : Int32) : Prop :=
  ((hs p0 n = 0 ∨ hs p1 r = 0) ∧ a = -1001 ∧ n2 = n ∧ v2 = v ∧ y1 = g1 ∧ y2 = g2 ∧ y3 = g3 ∧ s12 = s1 ∧ s22 = s2) ∨
  ∃ j k, j < n ∧ k < r ∧ p0 = nI j ∧ p1 = nI k ∧ ((¬ g1 j = (ρ k).2.1.1 ∧ a = -1003 ∧ n2 = n ∧ v2 = v ∧ y1 = g1 ∧ y2 = g2 ∧ y3 = g3 ∧ s12 = s1 ∧ s22 = s2) ∨
    (g1 j = (ρ k).2.1.1 ∧ ∃ e w, 1 ≤ e ∧ e ≤ 3 ∧ w ≤ 5 ∧ (ρ k).2.1.2.1 = nI e ∧ (ρ k).2.1.2.2 = nI w ∧ (((12 < n + (e - 1) ∨ 9 < v + w - 2) ∧ a = -1004 ∧ n2 = n ∧ v2 = v ∧ y1 = g1 ∧ y2 = g2 ∧ y3 = g3 ∧ s12 = s1 ∧ s22 = s2) ∨
      (n + (e - 1) ≤ 12 ∧ v + w - 2 ≤ 9 ∧ a = nI (n + (e - 1)) ∧ n2 = n + (e - 1) ∧ v2 = v + (w - 2) ∧ s12 = s1 + 1 ∧ s22 = s2 + 1 ∧ RPL g1 (ρ k).2.2.1 y1 j e n ∧ RPL g2 (fun t => nC v ((ρ k).2.2.2.1 t) (g2 j) (g3 j)) y2 j e n ∧ RPL g3 (fun t => nC v ((ρ k).2.2.2.2.1 t) (g2 j) (g3 j)) y3 j e n))))
end
section
/-! the reference's own words -/
def wi (x a b : Int32) : Int32 := if x < a then 0 else if b < x then 0 else 1
theorem wi_01 (x a b : Int32) : wi x a b = 0 ∨ wi x a b = 1 := by
  unfold wi
  split
  · exact Or.inl rfl
  · split
    · exact Or.inl rfl
    · exact Or.inr rfl
theorem wi_p {x a b : Int32} (h : ¬ wi x a b = 0) : ¬ x < a ∧ ¬ b < x := by
  unfold wi at h
  by_cases h1 : x < a
  · rw [if_pos h1] at h; exact absurd rfl h
  · rw [if_neg h1] at h
    by_cases h2 : b < x
    · rw [if_pos h2] at h; exact absurd rfl h
    · exact ⟨h1, h2⟩
theorem lt16z {z : Nat} (hz : z ≤ 16) (c : ¬ nI z = 16) : z < 16 := by
  rcases Nat.lt_or_ge z 16 with q | q
  · exact q
  · have : z = 16 := by omega
    subst this
    exact absurd rfl c
/-- a number between two that are written -/
theorem wi_rng {x : Int32} {a b : Nat} (hb : b < 2147483648) (ha : a ≤ b) (h : ¬ wi x (nI a) (nI b) = 0) : ∃ k, a ≤ k ∧ k ≤ b ∧ x = nI k := by
  obtain ⟨h1, h2⟩ := wi_p h
  have h0 : ¬ x < 0 := fun q => h1 (by
    have : (0 : Int32) ≤ nI a := nI_pos' (by omega)
    simp only [Int32.lt_iff_toInt_lt, Int32.le_iff_toInt_le] at q this ⊢
    omega)
  obtain ⟨j, hj, e⟩ := nI_of h0
  subst e
  exact ⟨j, nltN (by omega) (by omega) h1, nltN (by omega) (by omega) h2, rfl⟩
/-- an index below a count -/
theorem wi_ix {x : Int32} {r : Nat} (hr : r < 1000) (h : ¬ wi x 0 (nI r - 1) = 0) : ∃ j, j < r ∧ x = nI j := by
  obtain ⟨h1, h2⟩ := wi_p h
  obtain ⟨j, hj, e⟩ := nI_of h1
  subst e
  refine ⟨j, ?_, rfl⟩
  rcases Nat.lt_or_ge j r with q | q
  · exact q
  · refine absurd ?_ h2
    by_cases h0 : r = 0
    · subst h0
      simp only [Int32.lt_iff_toInt_lt]
      rw [show (nI 0 - 1).toInt = -1 from by decide, nI_toInt hj]
      omega
    · rw [show nI r - 1 = nI (r - 1) from pk_sub (a := r) (b := 1) (by omega)]
      exact nI_lt (by omega) hj
/-- an edge as a number, its letter below 5, its nodes below d -/
def EV (d : Nat) (x : Int32) : Prop := ∃ w a b, w < 5 ∧ a < d ∧ b < d ∧ x = nI (100 * w + 10 * a + b)
/-- the reading of a text: so many edges (at most L), the stage of the one at hand, what of it is read; nodes below d -/
def TS (L d : Nat) (mn st nw nd : Int32) (ne : Nat → Int32) : Prop := ∃ q s w, mn = nI q ∧ st = nI s ∧ nd = nI w ∧ s ≤ 2 ∧ q ≤ L ∧ (s = 0 ∨ q < L) ∧ w < 2 ^ d ∧ (s = 1 → ∃ k, k < 5 ∧ nw = nI k) ∧ (s = 2 → ∃ k a, k < 5 ∧ a < d ∧ nw = nI (10 * k + a)) ∧ ∀ j, j < q → EV d (ne j)
/-- what is left of it in any case -/
def TB (L d : Nat) (mn nd : Int32) (ne : Nat → Int32) : Prop := ∃ q w, mn = nI q ∧ nd = nI w ∧ q ≤ L ∧ w < 2 ^ d ∧ ∀ j, j < q → EV d (ne j)
theorem TS.b {L d : Nat} {mn st nw nd : Int32} {ne : Nat → Int32} (h : TS L d mn st nw nd ne) : TB L d mn nd ne := by
  obtain ⟨q, s, w, h1, h2, h3, h4, h5, h6, h7, h8, h9, h10⟩ := h
  exact ⟨q, w, h1, h3, h5, h7, h10⟩
theorem or_shl {w d k : Nat} (hw : w < 2 ^ d) (hd : d ≤ 5) (hk : k < d) : ∃ w2, w2 < 2 ^ d ∧ nI w ||| ((1 : Int32) <<< (nI k &&& 31)) = nI w2 := by
  rw [shl1 (by omega)]
  have h1 : 2 ^ k < 2 ^ d := Nat.pow_lt_pow_right (by decide) hk
  have h5 : 2 ^ d ≤ 32 := pow_le5 hd
  refine ⟨w ||| 2 ^ k, Nat.or_lt_two_pow hw h1, ?_⟩
  apply Int32.toBitVec_inj.mp
  apply BitVec.eq_of_toNat_eq
  have e1 : (nI w ||| nI (2 ^ k)).toBitVec = (nI w).toBitVec ||| (nI (2 ^ k)).toBitVec := rfl
  have e2 : ∀ n, (nI n).toBitVec.toNat = n % 2 ^ 32 := fun n => rfl
  rw [e1, BitVec.toNat_or, e2, e2, e2]
  have h6 : w ||| 2 ^ k < 2 ^ d := Nat.or_lt_two_pow hw h1
  rw [Nat.mod_eq_of_lt (by omega), Nat.mod_eq_of_lt (by omega), Nat.mod_eq_of_lt (by omega)]
theorem shr_div {w k : Nat} (hw : w < 32) (hk : k ≤ 5) : nI w >>> (nI k &&& 31) = nI (w / 2 ^ k) := by
  have : ∀ w, w < 32 → ∀ k, k < 6 → nI w >>> (nI k &&& 31) = nI (w / 2 ^ k) := by decide +kernel
  exact this w hw k (by omega)
theorem div32 {w : Nat} (hw : w < 32) : w / 2 ^ 5 = 0 := Nat.div_eq_of_lt hw
theorem lA_b {x : Int32} (h : ¬ wi x 65 67 = 0) : x - 65 = -1 ∨ ∃ k, k < 5 ∧ x - 65 = nI k := by
  obtain ⟨k, h1, h2, e⟩ := wi_rng (a := 65) (b := 67) (by decide) (by decide) h
  subst e
  exact Or.inr ⟨k - 65, by omega, pk_sub (a := k) (b := 65) h1⟩
theorem nI_nm1 {n : Nat} (h : n < 1000) : ¬ nI n = -1 := fun q => by
  have h1 := congrArg Int32.toInt q
  rw [nI_toInt (by omega), show (-1 : Int32).toInt = -1 from by decide] at h1
  omega
theorem lA_a1 {x : Int32} (h : x = 97) : (x - 97) + 3 = -1 ∨ ∃ k, k < 5 ∧ (x - 97) + 3 = nI k := by
  subst h
  exact Or.inr ⟨3, by decide, by decide⟩
theorem lA_a2 {x : Int32} (h : x = 98) : (x - 97) + 3 = -1 ∨ ∃ k, k < 5 ∧ (x - 97) + 3 = nI k := by
  subst h
  exact Or.inr ⟨4, by decide, by decide⟩
theorem st_1 {s : Nat} (h2 : s ≤ 2) (c : ¬ nI s = 0) (c2 : ¬ nI s = 2) : s = 1 := by
  rcases (show s = 0 ∨ s = 1 ∨ s = 2 by omega) with rfl | rfl | rfl
  · exact absurd rfl c
  · rfl
  · exact absurd rfl c2
theorem st_2 {s : Nat} (h2 : s ≤ 2) (c2 : nI s = 2) : s = 2 := (nI_eq (b := 2) (by omega) (by decide)).mp c2
theorem EV_s {d q : Nat} {ne : Nat → Int32} {x : Int32} (h : ∀ j, j < q → EV d (ne j)) (hx : EV d x) : ∀ j, j < q + 1 → EV d (upd ne q x j) := fun j hj => by
  by_cases h9 : j = q
  · subst h9; rw [pk_us]; exact hx
  · rw [pk_un h9]; exact h j (by omega)
theorem fst_s {i : Nat} {P : Prop} (h : i = 0 ∨ P) (h0 : i = 0 → P) : i + 1 = 0 ∨ P := Or.inr (h.elim h0 id)
theorem ab_lt {w i : Nat} (hw : w < 32) (c : nI (w / 2 ^ i) = 0) : w < 2 ^ i := by
  have h1 : w / 2 ^ i ≤ w := Nat.div_le_self _ _
  have h2 := (nI_eq (b := 0) (by omega) (by decide)).mp c
  rcases (Nat.div_eq_zero_iff).mp h2 with q | q
  · exact absurd q (Nat.ne_of_gt (Nat.two_pow_pos i))
  · exact q
theorem ab_ge {w i : Nat} (hw : w < 32) (c : ¬ nI (w / 2 ^ i) = 0) : i + 1 = 0 ∨ 2 ^ (i + 1 - 1) ≤ w := by
  refine Or.inr ?_
  show 2 ^ i ≤ w
  rcases Nat.lt_or_ge w (2 ^ i) with q | q
  · exact absurd (show nI (w / 2 ^ i) = 0 by rw [Nat.div_eq_of_lt q]; rfl) c
  · exact q
/-- the reference's rules -/
def MRI (ro re rn rg : Nat → Int32) (r : Nat) : Prop := ∀ j, j < r → (∃ o, o < 3 ∧ ro j = nI o) ∧ ∃ e, 1 ≤ e ∧ e ≤ 3 ∧ re j = nI e ∧ (∃ w, 2 ≤ w ∧ w ≤ 4 ∧ rn j = nI w) ∧ ∀ k, k < e → EV 4 (rg (3 * j + k))
end
section
/-! the reading of a text, just as it is -/
theorem cL_wi {c : Int32} (h : ¬ wi c 65 67 = 0) : cL c = c - 65 := by
  obtain ⟨h1, h2⟩ := wi_p h
  rw [cL, if_neg h1, if_neg h2]
theorem cL_nwi {c : Int32} (h : wi c 65 67 = 0) (h97 : ¬ c = 97) (h98 : ¬ c = 98) : cL c = -1 := by
  unfold wi at h
  unfold cL
  by_cases h1 : c < 65
  · rw [if_pos h1, if_neg h97, if_neg h98]
  · rw [if_neg h1] at h ⊢
    by_cases h2 : 67 < c
    · rw [if_pos h2, if_neg h97, if_neg h98]
    · rw [if_neg h2] at h
      exact absurd h (by decide)
theorem cL_neg (c : Int32) : cL c < 0 ↔ cL c = -1 := by
  constructor
  · intro h
    by_cases h1 : wi c 65 67 = 0
    · by_cases h97 : c = 97
      · subst h97; exact absurd h (by decide)
      · by_cases h98 : c = 98
        · subst h98; exact absurd h (by decide)
        · exact cL_nwi h1 h97 h98
    · obtain ⟨k, k1, k2, e⟩ := wi_rng (a := 65) (b := 67) (by decide) (by decide) h1
      rw [cL_wi h1, e, show nI k - 65 = nI (k - 65) from pk_sub (a := k) (b := 65) k1] at h
      exact absurd h (nI_pos (by omega))
  · intro h
    rw [h]
    decide
theorem nI3 {k : Nat} (hk : k < 1000) : nI k < 3 ↔ k < 3 := nI_ltI (b := 3) (by omega) (by decide)
/-- the letter of a graph's text -/
def lA1 (c : Int32) : Int32 := if cL c < 3 then -1 else cL c
theorem lA1_n {c : Int32} (h97 : ¬ c = 97) (h98 : ¬ c = 98) : lA1 c = -1 := by
  by_cases h1 : wi c 65 67 = 0
  · rw [lA1, cL_nwi h1 h97 h98, if_pos (by decide)]
  · obtain ⟨k, k1, k2, e⟩ := wi_rng (a := 65) (b := 67) (by decide) (by decide) h1
    have e2 : cL c = nI (k - 65) := by rw [cL_wi h1, e]; exact pk_sub (a := k) (b := 65) k1
    rw [lA1, e2, if_pos ((nI3 (by omega)).mpr (by omega))]
theorem lA1_y {c : Int32} (h : ¬ lA1 c = -1) : lA1 c = cL c ∧ ¬ cL c < 3 := by
  unfold lA1 at h ⊢
  by_cases h1 : cL c < 3
  · rw [if_pos h1] at h; exact absurd rfl h
  · rw [if_neg h1]; exact ⟨rfl, h1⟩
theorem lA1_3 {c : Int32} (h : lA1 c = -1) : cL c < 3 := by
  unfold lA1 at h
  by_cases h1 : cL c < 3
  · exact h1
  · rw [if_neg h1] at h
    rw [h] at h1
    exact absurd (by decide) h1
theorem cL_k {c : Int32} (h : ¬ cL c = -1) : ∃ k, k < 5 ∧ cL c = nI k := cL_rng (fun q => h ((cL_neg c).mp q))
/-- an edge of a text at a place, as a number -/
def EX (pf : Nat → Int32) (p d : Nat) (x : Int32) : Prop := ∃ k a b, k < 5 ∧ a < d ∧ b < d ∧ ¬ a = b ∧ cL (pf p) = nI k ∧ pf (p + 1) = nI (48 + a) ∧ pf (p + 2) = nI (48 + b) ∧ x = nI (100 * k + 10 * a + b)
/-- what is read of a text ahead of place i: q edges, the stage s of the one at hand; w has the nodes' bits -/
def TX (h L d : Nat) (pf : Nat → Int32) (i q s w : Nat) (nw : Int32) (ne : Nat → Int32) : Prop :=
  ((i < h ∧ q = 0 ∧ s = 0) ∨ i = h + 3 * q + s) ∧ s ≤ 2 ∧ q ≤ L ∧ (s = 0 ∨ q < L) ∧ w < 2 ^ d ∧
  (s = 1 → ∃ k, k < 5 ∧ cL (pf (i - 1)) = nI k ∧ nw = nI k) ∧
  (s = 2 → ∃ k a, k < 5 ∧ a < d ∧ cL (pf (i - 2)) = nI k ∧ pf (i - 1) = nI (48 + a) ∧ nw = nI (10 * k + a)) ∧
  (∀ j, j < q → EX pf (h + 3 * j) d (ne j)) ∧
  ∀ a, a < 5 → (w.testBit a = true ↔ ∃ j, j < i ∧ pf j = nI (48 + a))
def TXo (h L d : Nat) (pf : Nat → Int32) (i : Nat) (mn st nd nw : Int32) (ne : Nat → Int32) : Prop := ∃ q s w, mn = nI q ∧ st = nI s ∧ nd = nI w ∧ TX h L d pf i q s w nw ne
theorem TX_zero {h L d : Nat} {pf : Nat → Int32} {nw : Int32} {ne : Nat → Int32} : TX h L d pf 0 0 0 0 nw ne := by
  refine ⟨?_, by omega, by omega, Or.inl rfl, Nat.two_pow_pos d, fun q => absurd q (by decide), fun q => absurd q (by decide), fun j hj => absurd hj (by omega), fun a _ => ?_⟩
  · rcases Nat.eq_zero_or_pos h with q | q
    · exact Or.inr (by omega)
    · exact Or.inl ⟨q, rfl, rfl⟩
  · rw [Nat.zero_testBit]
    exact ⟨fun q => absurd q (by decide), fun ⟨j, hj, _⟩ => absurd hj (by omega)⟩
theorem dig_cL {a : Nat} (ha : a < 5) : cL (nI (48 + a)) = -1 := by
  rcases (show a = 0 ∨ a = 1 ∨ a = 2 ∨ a = 3 ∨ a = 4 by omega) with rfl | rfl | rfl | rfl | rfl <;> decide
theorem bits_no {pf : Nat → Int32} {w i : Nat} (h : ∀ a, a < 5 → (w.testBit a = true ↔ ∃ j, j < i ∧ pf j = nI (48 + a))) (hn : ∀ a, a < 5 → ¬ pf i = nI (48 + a)) : ∀ a, a < 5 → (w.testBit a = true ↔ ∃ j, j < i + 1 ∧ pf j = nI (48 + a)) := fun a ha => by
  rw [h a ha]
  constructor
  · rintro ⟨j, hj, e⟩
    exact ⟨j, by omega, e⟩
  · rintro ⟨j, hj, e⟩
    refine ⟨j, ?_, e⟩
    rcases Nat.lt_or_ge j i with q | q
    · exact q
    · have : j = i := by omega
      subst this
      exact absurd e (hn a ha)
theorem bits_yes {pf : Nat → Int32} {w i b : Nat} (h : ∀ a, a < 5 → (w.testBit a = true ↔ ∃ j, j < i ∧ pf j = nI (48 + a))) (hb : b < 5) (hi : pf i = nI (48 + b)) : ∀ a, a < 5 → ((w ||| 2 ^ b).testBit a = true ↔ ∃ j, j < i + 1 ∧ pf j = nI (48 + a)) := fun a ha => by
  rw [Nat.testBit_or, Bool.or_eq_true, h a ha, Nat.testBit_two_pow, decide_eq_true_iff]
  constructor
  · rintro (⟨j, hj, e⟩ | e)
    · exact ⟨j, by omega, e⟩
    · subst e
      exact ⟨i, by omega, hi⟩
  · rintro ⟨j, hj, e⟩
    rcases Nat.lt_or_ge j i with q | q
    · exact Or.inl ⟨j, q, e⟩
    · have : j = i := by omega
      subst this
      rw [hi] at e
      have := (nI_eq (by omega) (by omega)).mp e
      exact Or.inr (by omega)
theorem TX_h {L d : Nat} {pf : Nat → Int32} {i q s w : Nat} {nw : Int32} {ne : Nat → Int32} (hX : TX 2 L d pf i q s w nw ne) (hi : i < 2) (hn : ∀ a, a < 5 → ¬ pf i = nI (48 + a)) : TX 2 L d pf (i + 1) q s w nw ne := by
  obtain ⟨h1, h2, h3, h4, h5, -, -, h8, h9⟩ := hX
  have hq : q = 0 ∧ s = 0 := by
    rcases h1 with ⟨_, a, b⟩ | a
    · exact ⟨a, b⟩
    · omega
  obtain ⟨rfl, rfl⟩ := hq
  refine ⟨?_, h2, h3, h4, h5, fun q => absurd q (by decide), fun q => absurd q (by decide), h8, bits_no h9 hn⟩
  rcases (show i = 0 ∨ i = 1 by omega) with rfl | rfl
  · exact Or.inl ⟨by omega, rfl, rfl⟩
  · exact Or.inr rfl
theorem TX_0 {h L d : Nat} {pf : Nat → Int32} {i q w k : Nat} {nw : Int32} {ne : Nat → Int32} (hX : TX h L d pf i q 0 w nw ne) (hi : h ≤ i) (hk : k < 5) (e : cL (pf i) = nI k) (hq : q < L) : TX h L d pf (i + 1) q 1 w (nI k) ne := by
  obtain ⟨h1, h2, h3, h4, h5, -, -, h8, h9⟩ := hX
  refine ⟨Or.inr (by omega), by omega, h3, Or.inr hq, h5, fun _ => ⟨k, hk, e, rfl⟩, fun q => absurd q (by decide), h8, bits_no h9 (fun a ha q => ?_)⟩
  rw [q, dig_cL ha] at e
  exact absurd e.symm (nI_nm1 (by omega))
theorem TX_1 {h L d : Nat} {pf : Nat → Int32} {i q w k a : Nat} {nw : Int32} {ne : Nat → Int32} (hX : TX h L d pf i q 1 w nw ne) (hi : h ≤ i) (hd : d ≤ 5) (ha : a < d) (hk : k < 5) (e : nw = nI k) (ei : pf i = nI (48 + a)) : TX h L d pf (i + 1) q 2 (w ||| 2 ^ a) (nI (10 * k + a)) ne := by
  obtain ⟨h1, h2, h3, h4, h5, h6, -, h8, h9⟩ := hX
  obtain ⟨k2, hk2, e2, e3⟩ := h6 rfl
  clear h6
  have hkk : k2 = k := (nI_eq (by omega) (by omega)).mp (e3.symm.trans e)
  subst hkk
  refine ⟨Or.inr (by omega), by omega, h3, by omega, Nat.or_lt_two_pow h5 (Nat.pow_lt_pow_right (by decide) ha), fun q => absurd q (by decide), fun _ => ⟨k2, a, hk2, ha, e2, ei, rfl⟩, h8, bits_yes h9 (by omega) ei⟩
theorem TX_2 {h L d : Nat} {pf : Nat → Int32} {i q w k a b : Nat} {nw : Int32} {ne : Nat → Int32} (hX : TX h L d pf i q 2 w nw ne) (hi : h ≤ i) (hd : d ≤ 5) (ha : a < d) (hb : b < d) (hk : k < 5) (e : nw = nI (10 * k + a)) (ei : pf i = nI (48 + b)) (hn : ¬ b = a) : TX h L d pf (i + 1) (q + 1) 0 (w ||| 2 ^ b) (nI (10 * (10 * k + a) + b)) (upd ne q (nI (10 * (10 * k + a) + b))) := by
  obtain ⟨h1, h2, h3, h4, h5, -, h7, h8, h9⟩ := hX
  obtain ⟨k2, a2, hk2, ha2, e2, e3, e4⟩ := h7 rfl
  clear h7
  have hkk : 10 * k2 + a2 = 10 * k + a := (nI_eq (by omega) (by omega)).mp (e4.symm.trans e)
  obtain ⟨rfl, rfl⟩ : k2 = k ∧ a2 = a := by omega
  have hip : i = h + 3 * q + 2 := by omega
  refine ⟨Or.inr (by omega), by omega, by omega, Or.inl rfl, Nat.or_lt_two_pow h5 (Nat.pow_lt_pow_right (by decide) hb), fun q => absurd q (by decide), fun q => absurd q (by decide), fun j hj => ?_, bits_yes h9 (by omega) ei⟩
  by_cases h10 : j = q
  · subst h10
    rw [pk_us]
    refine ⟨k2, a2, b, hk2, ha2, hb, fun q => hn q.symm, ?_, ?_, ?_, ?_⟩
    · rw [show h + 3 * j = i - 2 by omega]; exact e2
    · rw [show h + 3 * j + 1 = i - 1 by omega]; exact e3
    · rw [show h + 3 * j + 2 = i by omega]; exact ei
    · rw [show 10 * (10 * k2 + a2) + b = 100 * k2 + 10 * a2 + b by omega]
  · rw [pk_un h10]
    exact h8 j (by omega)
theorem or_shlx {w d k : Nat} (hw : w < 2 ^ d) (hd : d ≤ 5) (hk : k < d) : nI w ||| ((1 : Int32) <<< (nI k &&& 31)) = nI (w ||| 2 ^ k) := by
  have h5 : 2 ^ d ≤ 32 := pow_le5 hd
  have : ∀ w, w < 32 → ∀ k, k < 5 → nI w ||| ((1 : Int32) <<< (nI k &&& 31)) = nI (w ||| 2 ^ k) := by decide +kernel
  exact this w (by omega) k (by omega)
theorem wi_48 {c : Int32} {n : Nat} (hn : n < 1000) : (¬ c < 48 ∧ ¬ nI n < c) ↔ ¬ wi c 48 (nI n) = 0 := by
  constructor
  · rintro ⟨a, b⟩
    rw [wi, if_neg a, if_neg b]
    decide
  · exact wi_p
theorem okE0_0 {pf : Nat → Int32} {i q : Nat} (hi : i = 2 + 3 * q) : okF0 pf i ↔ ¬ cL (pf i) = -1 ∧ q < 3 := by
  unfold okF0
  rw [if_neg (by omega), show (i - 2) % 3 = 0 by omega, fE0, if_pos (show nI 0 = 0 from rfl), ← cL_neg]
  by_cases h : cL (pf i) < 0
  · rw [if_pos h]
    exact ⟨fun q => absurd rfl q.2, fun q => absurd h q.1⟩
  · rw [if_neg h]
    exact ⟨fun q => ⟨h, by omega⟩, fun q => ⟨by omega, by decide⟩⟩
theorem okE0_1 {pf : Nat → Int32} {i q : Nat} (hi : i = 2 + 3 * q + 1) (hq : q < 3) : okF0 pf i ↔ ¬ wi (pf i) 48 51 = 0 := by
  unfold okF0
  rw [if_neg (by omega), show (i - 2) % 3 = 1 by omega, fE0, if_neg (show ¬ nI 1 = 0 from by decide), if_pos (show nI 1 = 1 from rfl), wi]
  exact ⟨fun q => q.2, fun q => ⟨by omega, q⟩⟩
theorem okE0_2 {pf : Nat → Int32} {i q : Nat} (hi : i = 2 + 3 * q + 2) (hq : q < 3) : okF0 pf i ↔ ¬ wi (pf i) 48 51 = 0 ∧ ¬ pf i = pf (i - 1) := by
  unfold okF0
  rw [if_neg (by omega), show (i - 2) % 3 = 2 by omega, fE0, if_neg (show ¬ nI 2 = 0 from by decide), if_neg (show ¬ nI 2 = 1 from by decide), wi]
  by_cases h1 : pf i < 48
  · rw [if_pos h1, if_pos h1]
    exact ⟨fun q => absurd rfl q.2, fun q => absurd rfl q.1⟩
  · rw [if_neg h1, if_neg h1]
    by_cases h2 : 51 < pf i
    · rw [if_pos h2, if_pos h2]
      exact ⟨fun q => absurd rfl q.2, fun q => absurd rfl q.1⟩
    · rw [if_neg h2, if_neg h2]
      by_cases h3 : pf i = pf (i - 1)
      · rw [if_pos h3]
        exact ⟨fun q => absurd rfl q.2, fun q => absurd h3 q.2⟩
      · rw [if_neg h3]
        exact ⟨fun _ => ⟨by decide, h3⟩, fun _ => ⟨by omega, by decide⟩⟩
theorem okE1_0 {pf : Nat → Int32} {i q : Nat} (hi : i = 0 + 3 * q) : okF1 pf i ↔ ¬ lA1 (pf i) = -1 ∧ q < 5 := by
  unfold okF1
  rw [show i % 3 = 0 by omega, fE1, if_pos (show nI 0 = 0 from rfl)]
  by_cases h : cL (pf i) < 3
  · rw [if_pos h, lA1, if_pos h]
    exact ⟨fun q => absurd rfl q.2, fun q => absurd rfl q.1⟩
  · rw [if_neg h, lA1, if_neg h]
    refine ⟨fun q => ⟨fun e => h ?_, by omega⟩, fun q => ⟨by omega, by decide⟩⟩
    rw [e]; decide
theorem okE1_1 {pf : Nat → Int32} {i q : Nat} (hi : i = 0 + 3 * q + 1) (hq : q < 5) : okF1 pf i ↔ ¬ wi (pf i) 48 52 = 0 := by
  unfold okF1
  rw [show i % 3 = 1 by omega, fE1, if_neg (show ¬ nI 1 = 0 from by decide), if_pos (show nI 1 = 1 from rfl), wi]
  exact ⟨fun q => q.2, fun q => ⟨by omega, q⟩⟩
theorem okE1_2 {pf : Nat → Int32} {i q : Nat} (hi : i = 0 + 3 * q + 2) (hq : q < 5) : okF1 pf i ↔ ¬ wi (pf i) 48 52 = 0 ∧ ¬ pf i = pf (i - 1) := by
  unfold okF1
  rw [show i % 3 = 2 by omega, fE1, if_neg (show ¬ nI 2 = 0 from by decide), if_neg (show ¬ nI 2 = 1 from by decide), wi]
  by_cases h1 : pf i < 48
  · rw [if_pos h1, if_pos h1]
    exact ⟨fun q => absurd rfl q.2, fun q => absurd rfl q.1⟩
  · rw [if_neg h1, if_neg h1]
    by_cases h2 : 52 < pf i
    · rw [if_pos h2, if_pos h2]
      exact ⟨fun q => absurd rfl q.2, fun q => absurd rfl q.1⟩
    · rw [if_neg h2, if_neg h2]
      by_cases h3 : pf i = pf (i - 1)
      · rw [if_pos h3]
        exact ⟨fun q => absurd rfl q.2, fun q => absurd h3 q.2⟩
      · rw [if_neg h3]
        exact ⟨fun _ => ⟨by decide, h3⟩, fun _ => ⟨by omega, by decide⟩⟩
theorem okH0 {pf : Nat → Int32} : okF0 pf 0 ↔ ¬ wi (pf 0) 65 67 = 0 := by
  unfold okF0
  rw [if_pos (show (0 : Nat) < 2 from by decide), fH, if_pos (show nI 0 = 0 from rfl)]
  by_cases h1 : wi (pf 0) 65 67 = 0
  · refine ⟨fun q => absurd ?_ q.2, fun q => absurd h1 q⟩
    by_cases h97 : pf 0 = 97
    · rw [h97]; decide
    · by_cases h98 : pf 0 = 98
      · rw [h98]; decide
      · rw [cL_nwi h1 h97 h98]; decide
  · obtain ⟨k, k1, k2, e⟩ := wi_rng (a := 65) (b := 67) (by decide) (by decide) h1
    refine ⟨fun _ => h1, fun _ => ⟨by decide, ?_⟩⟩
    rw [cL_wi h1, e]
    rcases (show k = 65 ∨ k = 66 ∨ k = 67 by omega) with rfl | rfl | rfl <;> decide
theorem okH1 {pf : Nat → Int32} : okF0 pf 1 ↔ pf 1 = 61 := by
  unfold okF0
  rw [if_pos (show (1 : Nat) < 2 from by decide), fH, if_neg (show ¬ nI 1 = 0 from by decide)]
  by_cases h : pf 1 = 61
  · rw [if_pos h]; exact ⟨fun _ => h, fun _ => ⟨by decide, by decide⟩⟩
  · rw [if_neg h]; exact ⟨fun q => absurd rfl q.2, fun q => absurd q h⟩
theorem nd_65 {c : Int32} (h : ¬ wi c 65 67 = 0) : ∀ a, a < 5 → ¬ c = nI (48 + a) := fun a ha q => by
  obtain ⟨k, k1, k2, e⟩ := wi_rng (a := 65) (b := 67) (by decide) (by decide) h
  have := (nI_eq (by omega) (by omega)).mp (e.symm.trans q)
  omega
theorem nd_61 {c : Int32} (h : c = 61) : ∀ a, a < 5 → ¬ c = nI (48 + a) := fun a ha q => by
  have := (nI_eq (a := 61) (by omega) (by omega)).mp (h.symm.trans q)
  omega
/-- a whole text -/
def WH0 (pf : Nat → Int32) (z : Nat) : Prop := ¬ iW 2 z = 0 ∧ FF (okF0 pf) z z
def WH1 (pf : Nat → Int32) (z : Nat) : Prop := ¬ iW 0 z = 0 ∧ FF (okF1 pf) z z
theorem iW_i {h z : Nat} (h1 : h < z) (h2 : (z - h) % 3 = 0) : ¬ iW h z = 0 := by
  rw [iW, if_pos ⟨h1, h2⟩]; decide
/-- the nodes' bits against the names on the page -/
theorem bit_nm {pf : Nat → Int32} {w z a : Nat} (h : ∀ a, a < 5 → (w.testBit a = true ↔ ∃ j, j < z ∧ pf j = nI (48 + a))) (ha : a < 5) : w.testBit a = true ↔ ¬ nmB pf (nI (48 + a)) z = 0 := by
  rw [h a ha]
  constructor
  · rintro ⟨j, hj, e⟩
    rw [nmB_1 e z hj]; decide
  · intro q
    by_cases h9 : ∃ j, j < z ∧ pf j = nI (48 + a)
    · exact h9
    · exact absurd (nmB_0 z (fun j hj e => h9 ⟨j, hj, e⟩)) q
def tB (w k : Nat) : Int32 := if w.testBit k = true then 1 else 0
theorem shr_n {w k : Nat} (hw : w < 512) (hk : k < 9) : nI w >>> (nI k &&& 31) = nI (w / 2 ^ k) := by
  have hs : (nI k &&& 31).toBitVec.toNat = k := by
    rcases (show k = 0 ∨ k = 1 ∨ k = 2 ∨ k = 3 ∨ k = 4 ∨ k = 5 ∨ k = 6 ∨ k = 7 ∨ k = 8 by omega) with rfl | rfl | rfl | rfl | rfl | rfl | rfl | rfl | rfl <;> decide
  have : ∀ w, w < 512 → ∀ k, k < 9 → nI w >>> (nI k &&& 31) = nI (w / 2 ^ k) := by decide +kernel
  exact this w hw k hk
theorem and1_n (x : Nat) : nI x &&& 1 = nI (x % 2) := by
  apply Int32.toBitVec_inj.mp
  apply BitVec.eq_of_toNat_eq
  have e1 : (nI x &&& 1).toBitVec = (nI x).toBitVec &&& (1 : Int32).toBitVec := rfl
  have e2 : ∀ n, (nI n).toBitVec.toNat = n % 2 ^ 32 := fun n => rfl
  rw [e1, BitVec.toNat_and, e2, e2, show (1 : Int32).toBitVec.toNat = 1 from rfl, Nat.and_one_is_mod]
  omega
theorem tB_1 {w k : Nat} (h : nI (w / 2 ^ k % 2) = 1) : (1 : Int32) = tB w k := by
  have h2 := (nI_eq (b := 1) (by omega) (by decide)).mp h
  rw [tB, if_pos]
  rw [Nat.testBit_eq_decide_div_mod_eq, decide_eq_true_iff]
  exact h2
theorem tB_0 {w k : Nat} (h : ¬ nI (w / 2 ^ k % 2) = 1) : (0 : Int32) = tB w k := by
  rw [tB, if_neg]
  rw [Nat.testBit_eq_decide_div_mod_eq, decide_eq_true_iff]
  intro q
  exact h (by rw [q]; rfl)
theorem s9_ne {s : Nat} (h : ¬ nI s = 0) : ¬ s = 0 := fun q => h (by rw [q]; rfl)
theorem rem10 {x a : Nat} (hx : x < 1000) (ha : a < 10) : nI (10 * x + a) - nI (10 * x + a) / 10 * 10 = nI a := by
  have h := pk_rem (a := 10 * x + a) (d := 10) (by omega) (by decide) (by decide)
  rw [show (10 * x + a) % 10 = a by omega] at h
  exact h
theorem YN.b01 {r : Int32} {P : Prop} (h : YN r P) : r = 0 ∨ r = 1 := by
  rcases h with h | h
  · exact Or.inr h.1
  · exact Or.inl h.1
theorem YN_wi {x a b : Int32} {P : Prop} (h : P ↔ ¬ wi x a b = 0) : YN (wi x a b) P := by
  rcases wi_01 x a b with e | e
  · exact Or.inr ⟨e, fun q => (h.mp q) e⟩
  · refine Or.inl ⟨e, h.mpr ?_⟩
    rw [e]; decide
theorem rd_end {ok : Nat → Prop} {i z : Nat} (h : ∀ j, j < i → ok j) (hz : i = z) : FF ok z i := by
  subst hz
  exact ⟨Nat.le_refl _, h, Or.inl rfl⟩
theorem isw_no2 {L d : Nat} {pf : Nat → Int32} {z q s w : Nat} {nw : Int32} {ne : Nat → Int32} (hX : TX 2 L d pf z q s w nw ne) (h : ¬ iW 2 z = 0) (hn : 0 < q → s = 0 → False) : False := by
  obtain ⟨a, b⟩ := iW_y h
  have h1 := hX.1
  have h2 := hX.2.1
  exact hn (by omega) (by omega)
theorem isw_no0 {L d : Nat} {pf : Nat → Int32} {z q s w : Nat} {nw : Int32} {ne : Nat → Int32} (hX : TX 0 L d pf z q s w nw ne) (h : ¬ iW 0 z = 0) (hn : 0 < q → s = 0 → False) : False := by
  obtain ⟨a, b⟩ := iW_y h
  have h1 := hX.1
  have h2 := hX.2.1
  exact hn (by omega) (by omega)
theorem q_pos {q : Nat} (hq : q ≤ 5) (h : ¬ nI q ≤ 0) : 0 < q := by
  rcases Nat.eq_zero_or_pos q with e | e
  · subst e; exact absurd (by decide) h
  · exact e
theorem q_npos {q : Nat} (hq : q ≤ 5) (h : nI q ≤ 0) (h2 : 0 < q) : False := by
  have := leN (a := q) (b := 0) (by decide) (by omega) h
  omega
theorem isw_y0 {pf : Nat → Int32} {z q s w : Nat} {nw mn nd : Int32} {ne : Nat → Int32} (hF : FF (okF0 pf) z z) (hX : TX 2 3 4 pf z q s w nw ne) (e1 : mn = nI q) (e3 : nd = nI w) (h1 : ¬ nI q ≤ 0) (h2 : nI s = 0) : YN 1 (WH0 pf z) ∧ (¬ (1 : Int32) = 0 → ∃ q w, mn = nI q ∧ nd = nI w ∧ 0 < q ∧ z = 2 + 3 * q ∧ TX 2 3 4 pf z q 0 w nw ne) := by
  have hs := (nI_eq (b := 0) (by have := hX.2.1; omega) (by decide)).mp h2
  subst hs
  have hq := q_pos (by have := hX.2.2.1; omega) h1
  have hz : z = 2 + 3 * q := by have := hX.1; omega
  exact ⟨YN_y ⟨iW_i (by omega) (by omega), hF⟩, fun _ => ⟨q, w, e1, e3, hq, hz, hX⟩⟩
theorem isw_y1 {pf : Nat → Int32} {z q s w : Nat} {nw mn nd : Int32} {ne : Nat → Int32} (hF : FF (okF1 pf) z z) (hX : TX 0 5 5 pf z q s w nw ne) (e1 : mn = nI q) (e3 : nd = nI w) (h1 : ¬ nI q ≤ 0) (h2 : nI s = 0) : YN 1 (WH1 pf z) ∧ (¬ (1 : Int32) = 0 → ∃ q w, mn = nI q ∧ nd = nI w ∧ 0 < q ∧ z = 0 + 3 * q ∧ TX 0 5 5 pf z q 0 w nw ne) := by
  have hs := (nI_eq (b := 0) (by have := hX.2.1; omega) (by decide)).mp h2
  subst hs
  have hq := q_pos (by have := hX.2.2.1; omega) h1
  have hz : z = 0 + 3 * q := by have := hX.1; omega
  exact ⟨YN_y ⟨iW_i (by omega) (by omega), hF⟩, fun _ => ⟨q, w, e1, e3, hq, hz, hX⟩⟩
def lO (x : Int32) : Int32 := x / 100
def fO (x : Int32) : Int32 := x / 10 - x / 10 / 10 * 10
def tO (x : Int32) : Int32 := x - x / 10 * 10
theorem lO_n {k a b : Nat} (hk : k < 5) (ha : a < 10) (hb : b < 10) : lO (nI (100 * k + 10 * a + b)) = nI k := by
  have h := pk_div (a := 100 * k + 10 * a + b) (d := 100) (by omega) (by decide) (by decide)
  rw [show (100 * k + 10 * a + b) / 100 = k by omega] at h
  exact h
theorem fO_n {k a b : Nat} (hk : k < 5) (ha : a < 10) (hb : b < 10) : fO (nI (100 * k + 10 * a + b)) = nI a := by
  have h := pk_div (a := 100 * k + 10 * a + b) (d := 10) (by omega) (by decide) (by decide)
  have h2 := pk_rem (a := (100 * k + 10 * a + b) / 10) (d := 10) (by omega) (by decide) (by decide)
  rw [show (100 * k + 10 * a + b) / 10 % 10 = a by omega] at h2
  unfold fO
  have h3 : nI (100 * k + 10 * a + b) / 10 = nI ((100 * k + 10 * a + b) / 10) := h
  rw [h3]
  exact h2
theorem tO_n {k a b : Nat} (hk : k < 5) (ha : a < 10) (hb : b < 10) : tO (nI (100 * k + 10 * a + b)) = nI b := by
  have h2 := pk_rem (a := 100 * k + 10 * a + b) (d := 10) (by omega) (by decide) (by decide)
  rw [show (100 * k + 10 * a + b) % 10 = b by omega] at h2
  exact h2
theorem and3_b {w : Nat} (hw : w < 32) (h0 : w.testBit 0 = true) (h1 : w.testBit 1 = true) : nI w &&& 3 = 3 := by
  have : ∀ w, w < 32 → w.testBit 0 = true → w.testBit 1 = true → nI w &&& 3 = 3 := by decide +kernel
  exact this w hw h0 h1
theorem b_and3 {w : Nat} (hw : w < 32) (h : nI w &&& 3 = 3) : w.testBit 0 = true ∧ w.testBit 1 = true := by
  have : ∀ w, w < 32 → nI w &&& 3 = 3 → w.testBit 0 = true ∧ w.testBit 1 = true := by decide +kernel
  exact this w hw h
theorem tB_n {w k : Nat} (h : tB w k = 0) : ¬ w.testBit k = true := fun q => by
  rw [tB, if_pos q] at h
  exact absurd h (by decide)
theorem tB_y {w k : Nat} (h : ¬ tB w k = 0) : w.testBit k = true := by
  by_cases q : w.testBit k = true
  · exact q
  · rw [tB, if_neg q] at h
    exact absurd rfl h
theorem lt9e {r : Nat} (hr : r ≤ 9) (c : nI r = 9) : ¬ r < 9 := fun q => by
  have := (nI_eq (a := r) (b := 9) (by omega) (by decide)).mp c
  omega
theorem EX_EV {pf : Nat → Int32} {p d : Nat} {x : Int32} (h : EX pf p d x) : EV d x := by
  obtain ⟨k, a, b, h1, h2, h3, -, -, -, -, h4⟩ := h
  exact ⟨k, a, b, h1, h2, h3, h4⟩
theorem ro_iff {pf : Nat → Int32} {z q w : Nat} {nw : Int32} {ne : Nat → Int32} (hW : WH0 pf z) (hX : TX 2 3 4 pf z q 0 w nw ne) : RuleOK pf z ↔ (w.testBit 0 = true ∧ w.testBit 1 = true) ∧ (w.testBit 3 = true → w.testBit 2 = true) := by
  have hb := hX.2.2.2.2.2.2.2.2
  have b0 := bit_nm hb (a := 0) (by decide)
  have b1 := bit_nm hb (a := 1) (by decide)
  have b2 := bit_nm hb (a := 2) (by decide)
  have b3 := bit_nm hb (a := 3) (by decide)
  have b4 := bit_nm hb (a := 4) (by decide)
  have hw : w < 2 ^ 4 := hX.2.2.2.2.1
  have h4 : ¬ w.testBit 4 = true := by
    rw [Nat.testBit_lt_two_pow hw]; decide
  have n4 : nmB pf 52 z = 0 := by
    rcases nmB_01 pf 52 z with e | e
    · exact e
    · exact absurd (b4.mpr (by show ¬ nmB pf 52 z = 0; rw [e]; decide)) h4
  constructor
  · rintro ⟨-, -, h0, h1, g1, g2⟩
    refine ⟨⟨b0.mpr h0, b1.mpr h1⟩, fun q => b2.mpr ?_⟩
    rcases g1 with g | g
    · exact absurd g (b3.mp q)
    · exact g
  · rintro ⟨⟨h0, h1⟩, h3⟩
    refine ⟨hW.1, hW.2, b0.mp h0, b1.mp h1, ?_, Or.inl n4⟩
    by_cases q : nmB pf 51 z = 0
    · exact Or.inl q
    · exact Or.inr (b2.mp (h3 (b3.mpr q)))
theorem ifb {w a : Nat} {x : Int32} (h : w.testBit a = true ↔ ¬ x = 0) : (if x = 0 then 0 else 1 : Nat) = (w.testBit a).toNat := by
  by_cases q : x = 0
  · rw [if_pos q]
    cases hb : w.testBit a
    · rfl
    · exact absurd q (h.mp hb)
  · rw [if_neg q, h.mpr q]
    rfl
theorem nd_bits {pf : Nat → Int32} {w z : Nat} (hb : ∀ a, a < 5 → (w.testBit a = true ↔ ∃ j, j < z ∧ pf j = nI (48 + a))) : ndN pf z = 2 + (w.testBit 2).toNat + (w.testBit 3).toNat + (w.testBit 4).toNat := by
  have b2 := ifb (bit_nm hb (a := 2) (by decide))
  have b3 := ifb (bit_nm hb (a := 3) (by decide))
  have b4 := ifb (bit_nm hb (a := 4) (by decide))
  unfold ndN
  rw [← b2, ← b3, ← b4]
  rfl
theorem imp_or {a b : Bool} (h : a = true → b = true) : a = false ∨ b = true := by
  cases a
  · exact Or.inl rfl
  · exact Or.inr (h rfl)
theorem or_imp' {a b : Bool} (h : a = false ∨ b = true) : a = true → b = true := fun q => by
  rcases h with h | h
  · rw [h] at q; exact absurd q (by decide)
  · exact h
theorem ck_nd : ∀ w, w < 16 → ∀ k, k < 6 → ((w.testBit 0 = true ∧ w.testBit 1 = true) ∧ (w.testBit 3 = false ∨ w.testBit 2 = true) ∧ (k = 0 ∨ 2 ^ (k - 1) ≤ w) ∧ w < 2 ^ k) → 2 + (w.testBit 2).toNat + (w.testBit 3).toNat + (w.testBit 4).toNat = k := by decide +kernel
theorem ck_gr1 : ∀ w, w < 32 → ∀ k, k < 6 → (w ||| 3) = 2 ^ k - 1 → (w.testBit 3 = false ∨ w.testBit 2 = true) ∧ (w.testBit 4 = false ∨ w.testBit 3 = true) := by decide +kernel
theorem ck_gr2 : ∀ w, w < 32 → ∀ k, k < 6 → ((w.testBit 3 = false ∨ w.testBit 2 = true) ∧ (w.testBit 4 = false ∨ w.testBit 3 = true) ∧ (k = 0 ∨ 2 ^ (k - 1) ≤ (w ||| 3)) ∧ (w ||| 3) < 2 ^ k) → (w ||| 3) = 2 ^ k - 1 ∧ 2 + (w.testBit 2).toNat + (w.testBit 3).toNat + (w.testBit 4).toNat = k := by decide +kernel
theorem nd_ab {pf : Nat → Int32} {z q w k : Nat} {nw : Int32} {ne : Nat → Int32} (hX : TX 2 3 4 pf z q 0 w nw ne) (hR : RuleOK pf z) (hlo : k = 0 ∨ 2 ^ (k - 1) ≤ w) (hhi : w < 2 ^ k) (hk : k ≤ 5) : ndN pf z = k := by
  have hR2 := (ro_iff ⟨hR.1, hR.2.1⟩ hX).mp hR
  rw [nd_bits hX.2.2.2.2.2.2.2.2]
  have hw : w < 2 ^ 4 := hX.2.2.2.2.1
  exact ck_nd w hw k (by omega) ⟨hR2.1, imp_or hR2.2, hlo, hhi⟩
theorem or3x {w : Nat} (hw : w < 32) : ∃ w2, w2 < 32 ∧ 3 ≤ w2 ∧ w2 = w ||| 3 ∧ nI w ||| 3 = nI w2 := by
  have : ∀ w, w < 32 → ((w ||| 3) < 32 ∧ 3 ≤ (w ||| 3)) ∧ nI w ||| 3 = nI (w ||| 3) := by decide +kernel
  exact ⟨w ||| 3, (this w hw).1.1, (this w hw).1.2, rfl, (this w hw).2⟩
theorem ab_n0 {w k : Nat} (h : w < 2 ^ k) (hw : 3 ≤ w) (hk : k ≤ 5) : ¬ nI k = 0 := fun q => by
  have := (nI_eq (a := k) (b := 0) (by omega) (by decide)).mp q
  subst this
  omega
theorem gr_iff {pf : Nat → Int32} {z q w : Nat} {nw : Int32} {ne : Nat → Int32} (hW : WH1 pf z) (hX : TX 0 5 5 pf z q 0 w nw ne) : GraphOK pf z ↔ (w.testBit 3 = true → w.testBit 2 = true) ∧ (w.testBit 4 = true → w.testBit 3 = true) := by
  have hb := hX.2.2.2.2.2.2.2.2
  have b2 := bit_nm hb (a := 2) (by decide)
  have b3 := bit_nm hb (a := 3) (by decide)
  have b4 := bit_nm hb (a := 4) (by decide)
  constructor
  · rintro ⟨-, -, g1, g2⟩
    refine ⟨fun q => b2.mpr ?_, fun q => b3.mpr ?_⟩
    · rcases g1 with g | g
      · exact absurd g (b3.mp q)
      · exact g
    · rcases g2 with g | g
      · exact absurd g (b4.mp q)
      · exact g
  · rintro ⟨h3, h4⟩
    refine ⟨hW.1, hW.2, ?_, ?_⟩
    · by_cases q : nmB pf 51 z = 0
      · exact Or.inl q
      · exact Or.inr (b2.mp (h3 (b3.mpr q)))
    · by_cases q : nmB pf 52 z = 0
      · exact Or.inl q
      · exact Or.inr (b3.mp (h4 (b4.mpr q)))
theorem gr_okx {pf : Nat → Int32} {z q w w8 k : Nat} {nw : Int32} {ne : Nat → Int32} (hW : WH1 pf z) (hX : TX 0 5 5 pf z q 0 w nw ne) (hk : k ≤ 5) (e : w8 = w ||| 3) (c : nI w8 = nI (2 ^ k - 1)) : GraphOK pf z := by
  have hw : w < 2 ^ 5 := hX.2.2.2.2.1
  have hp : 2 ^ k ≤ 32 := pow_le5 hk
  have h8 : (w ||| 3) < 32 := Nat.or_lt_two_pow (n := 5) hw (by decide)
  have c2 := (nI_eq (by omega) (by omega)).mp c
  subst e
  have c3 := ck_gr1 w hw k (by omega) c2
  exact (gr_iff hW hX).mpr ⟨or_imp' c3.1, or_imp' c3.2⟩
theorem gr_eq {pf : Nat → Int32} {z q w w8 k : Nat} {nw : Int32} {ne : Nat → Int32} (hX : TX 0 5 5 pf z q 0 w nw ne) (hG : GraphOK pf z) (hk : k ≤ 5) (hlo : k = 0 ∨ 2 ^ (k - 1) ≤ w8) (hhi : w8 < 2 ^ k) (e : w8 = w ||| 3) : nI w8 = nI (2 ^ k - 1) := by
  have hw : w < 2 ^ 5 := hX.2.2.2.2.1
  have hG2 := (gr_iff ⟨hG.1, hG.2.1⟩ hX).mp hG
  subst e
  rw [(ck_gr2 w hw k (by omega) ⟨imp_or hG2.1, imp_or hG2.2, hlo, hhi⟩).1]
theorem gr_nd {pf : Nat → Int32} {z q w w8 k : Nat} {nw : Int32} {ne : Nat → Int32} (hX : TX 0 5 5 pf z q 0 w nw ne) (hG : GraphOK pf z) (hk : k ≤ 5) (hlo : k = 0 ∨ 2 ^ (k - 1) ≤ w8) (hhi : w8 < 2 ^ k) (e : w8 = w ||| 3) : ndN pf z = k := by
  have hw : w < 2 ^ 5 := hX.2.2.2.2.1
  have hG2 := (gr_iff ⟨hG.1, hG.2.1⟩ hX).mp hG
  rw [nd_bits hX.2.2.2.2.2.2.2.2]
  subst e
  exact (ck_gr2 w hw k (by omega) ⟨imp_or hG2.1, imp_or hG2.2, hlo, hhi⟩).2
/-- what the reference's rule() answers and leaves -/
def MRuP (pf : Nat → Int32) (z r : Nat) (ro re rn rg : Nat → Int32) (a : Int32) (z2 r2 : Nat) (ro2 re2 rn2 rg2 : Nat → Int32) : Prop :=
  (¬ RuleOK pf z ∧ a = -1003 ∧ z2 = z ∧ r2 = r ∧ ro2 = ro ∧ re2 = re ∧ rn2 = rn ∧ rg2 = rg) ∨ (RuleOK pf z ∧ ¬ r < 9 ∧ a = -1004 ∧ z2 = z ∧ r2 = r ∧ ro2 = ro ∧ re2 = re ∧ rn2 = rn ∧ rg2 = rg) ∨
  (RuleOK pf z ∧ r < 9 ∧ a = nI r ∧ z2 = 0 ∧ r2 = r + 1 ∧ ro2 = upd ro r (cL (pf 0)) ∧ re2 = upd re r (nI ((z - 2) / 3)) ∧ rn2 = upd rn r (nI (ndN pf z)) ∧ (∀ j, j < (z - 2) / 3 → EX pf (2 + 3 * j) 4 (rg2 (3 * r + j))) ∧ ∀ j, j < 3 * r → rg2 j = rg j)
def MGrP (pf : Nat → Int32) (z n v : Nat) (ea : Nat → Int32) (k1 k3 a : Int32) (z2 n2 v2 : Nat) (ea2 : Nat → Int32) (k1b k3b : Int32) : Prop :=
  (¬ GraphOK pf z ∧ a = -1003 ∧ z2 = z ∧ n2 = n ∧ v2 = v ∧ ea2 = ea ∧ k1b = k1 ∧ k3b = k3) ∨ (GraphOK pf z ∧ a = nI (z / 3) ∧ z2 = 0 ∧ n2 = z / 3 ∧ v2 = ndN pf z ∧ (∀ j, j < z / 3 → EX pf (0 + 3 * j) 5 (ea2 j)) ∧ k1b = 0 ∧ k3b = k3 + 1)
def rnow (ro re rn rg : Nat → Int32) (j w : Nat) : Int32 := if w = 0 then ro j else if w = 1 then re j else if w = 2 then rn j else if re j ≤ nI (w - 10) then -1 else rg (3 * j + w - 10)
theorem rn_0 {ro re rn rg : Nat → Int32} {j w : Nat} (h : nI w = 0) (hw : w < 1000) : ro j = rnow ro re rn rg j w := by
  rw [rnow, if_pos ((nI_eq (a := w) (b := 0) (by omega) (by decide)).mp h)]
theorem rn_1 {ro re rn rg : Nat → Int32} {j w : Nat} (h : nI w = 1) (hw : w < 1000) : re j = rnow ro re rn rg j w := by
  have := (nI_eq (a := w) (b := 1) (by omega) (by decide)).mp h
  rw [rnow, if_neg (by omega), if_pos this]
theorem rn_2 {ro re rn rg : Nat → Int32} {j w : Nat} (h : nI w = 2) (hw : w < 1000) : rn j = rnow ro re rn rg j w := by
  have := (nI_eq (a := w) (b := 2) (by omega) (by decide)).mp h
  rw [rnow, if_neg (by omega), if_neg (by omega), if_pos this]
theorem rn_a {ro re rn rg : Nat → Int32} {j w : Nat} (hw : 10 ≤ w) (h : ¬ re j ≤ nI (w - 10)) : rg (3 * j + w - 10) = rnow ro re rn rg j w := by
  rw [rnow, if_neg (by omega), if_neg (by omega), if_neg (by omega), if_neg h]
theorem rn_b {ro re rn rg : Nat → Int32} {j w : Nat} (hw : 10 ≤ w) (h : re j ≤ nI (w - 10)) : (-1 : Int32) = rnow ro re rn rg j w := by
  rw [rnow, if_neg (by omega), if_neg (by omega), if_neg (by omega), if_pos h]
def MOf (p0 p1 : Int32) (r : Nat) (ro re rn rg : Nat → Int32) (a : Int32) : Prop := (wi p0 0 (nI r - 1) = 0 ∧ a = -1001) ∨ ∃ j, j < r ∧ p0 = nI j ∧ ((wi p1 0 2 = 0 ∧ wi p1 10 12 = 0 ∧ a = -1002) ∨ ∃ w, (w < 3 ∨ (10 ≤ w ∧ w ≤ 12)) ∧ p1 = nI w ∧ a = rnow ro re rn rg j w)
end
section
/-! ways and colours as the reference reckons them -/
def hR (p k : Int32) : Int32 := if (p >>> (k &&& 31)) &&& 1 = 1 then 1 else 0
theorem hR_01 (p k : Int32) : hR p k = 0 ∨ hR p k = 1 := by
  unfold hR
  split
  · exact Or.inr rfl
  · exact Or.inl rfl
def md1 (s e : Int32) : Int32 := s ||| (if hR s (fO e) = 0 then 0 else (1 : Int32) <<< ((tO e) &&& 31))
def md2 (s e : Int32) : Int32 := s ||| (if hR s (tO e) = 0 then 0 else if lO e = 4 then (1 : Int32) <<< ((fO e) &&& 31) else 0)
def md (s e : Int32) : Int32 := md2 (md1 s e) e
theorem md1_a {s e : Int32} (h : hR s (fO e) = 0) : md1 s e = s ||| 0 := by rw [md1, if_pos h]
theorem md1_b {s e : Int32} (h : ¬ hR s (fO e) = 0) : md1 s e = s ||| ((1 : Int32) <<< ((tO e) &&& 31)) := by rw [md1, if_neg h]
theorem md2_a {s e : Int32} (h : hR s (tO e) = 0) : md2 s e = s ||| 0 := by rw [md2, if_pos h]
theorem md2_b {s e : Int32} (h : ¬ hR s (tO e) = 0) (h2 : ¬ lO e = 4) : md2 s e = s ||| 0 := by rw [md2, if_neg h, if_neg h2]
theorem md2_c {s e : Int32} (h : ¬ hR s (tO e) = 0) (h2 : lO e = 4) : md2 s e = s ||| ((1 : Int32) <<< ((fO e) &&& 31)) := by rw [md2, if_neg h, if_pos h2]
def mdN (ea : Nat → Int32) : Nat → Int32 → Int32
  | 0, s => s
  | i + 1, s => md (mdN ea i s) (ea i)
def mdR (ea : Nat → Int32) (n : Nat) : Nat → Int32 → Int32
  | 0, s => s
  | q + 1, s => mdN ea n (mdR ea n q s)
def mcP (p : Int32) (ea : Nat → Int32) (n : Nat) : Prop := ∀ i, i < n → lO (ea i) = 4 ∨ ¬ hR p (fO (ea i)) = hR p (tO (ea i))
theorem mcP_s {p : Int32} {ea : Nat → Int32} {i : Nat} (h : mcP p ea i) (h2 : lO (ea i) = 4 ∨ ¬ hR p (fO (ea i)) = hR p (tO (ea i))) : mcP p ea (i + 1) := fun j hj => by
  by_cases h9 : j = i
  · subst h9; exact h2
  · exact h j (by omega)
/-- which colourings there are among the first q -/
def MCq (ea : Nat → Int32) (n q : Nat) (r : Int32) : Prop := ∃ h, h < 4 ∧ r = nI (4 * h) ∧ (h.testBit 0 = true ↔ ∃ k, k < q ∧ mcP (nI k) ea n ∧ hR (nI k) 0 = hR (nI k) 1) ∧ (h.testBit 1 = true ↔ ∃ k, k < q ∧ mcP (nI k) ea n ∧ ¬ hR (nI k) 0 = hR (nI k) 1)
theorem MC_0 {ea : Nat → Int32} {n : Nat} : MCq ea n 0 0 := ⟨0, by decide, rfl, ⟨fun q => absurd q (by decide), fun ⟨k, hk, _⟩ => absurd hk (by omega)⟩, ⟨fun q => absurd q (by decide), fun ⟨k, hk, _⟩ => absurd hk (by omega)⟩⟩
theorem or_zero32 (r : Int32) : r ||| 0 = r := by
  apply Int32.toBitVec_inj.mp
  show r.toBitVec ||| (0 : Int32).toBitVec = r.toBitVec
  rw [show (0 : Int32).toBitVec = 0#32 from rfl, BitVec.or_zero]
theorem MC_n {ea : Nat → Int32} {n q : Nat} {r : Int32} (h : MCq ea n q r) (hn : ¬ mcP (nI q) ea n) : MCq ea n (q + 1) (r ||| 0) := by
  obtain ⟨k, h1, h2, h3, h4⟩ := h
  rw [or_zero32]
  exact ⟨k, h1, h2, h3.trans (ex_n (P := fun k => mcP (nI k) ea n ∧ hR (nI k) 0 = hR (nI k) 1) (fun w => hn w.1)).symm, h4.trans (ex_n (P := fun k => mcP (nI k) ea n ∧ ¬ hR (nI k) 0 = hR (nI k) 1) (fun w => hn w.1)).symm⟩
theorem or_n4 {h : Nat} (hh : h < 4) : ∃ k, k < 4 ∧ nI (4 * h) ||| 4 = nI (4 * k) ∧ k.testBit 0 = true ∧ (k.testBit 1 = h.testBit 1) := by
  have : ∀ h, h < 4 → (h ||| 1) < 4 ∧ nI (4 * h) ||| 4 = nI (4 * (h ||| 1)) ∧ (h ||| 1).testBit 0 = true ∧ ((h ||| 1).testBit 1 = h.testBit 1) := by decide +kernel
  exact ⟨h ||| 1, this h hh⟩
theorem or_n8 {h : Nat} (hh : h < 4) : ∃ k, k < 4 ∧ nI (4 * h) ||| 8 = nI (4 * k) ∧ k.testBit 1 = true ∧ (k.testBit 0 = h.testBit 0) := by
  have : ∀ h, h < 4 → (h ||| 2) < 4 ∧ nI (4 * h) ||| 8 = nI (4 * (h ||| 2)) ∧ (h ||| 2).testBit 1 = true ∧ ((h ||| 2).testBit 0 = h.testBit 0) := by decide +kernel
  exact ⟨h ||| 2, this h hh⟩
theorem MC_4 {ea : Nat → Int32} {n q : Nat} {r : Int32} (h : MCq ea n q r) (ha : mcP (nI q) ea n) (hc : hR (nI q) 0 = hR (nI q) 1) : MCq ea n (q + 1) (r ||| 4) := by
  obtain ⟨k, h1, rfl, h3, h4⟩ := h
  obtain ⟨j, j1, j2, j3, j4⟩ := or_n4 h1
  exact ⟨j, j1, j2, ⟨fun _ => ex_y (P := fun k => mcP (nI k) ea n ∧ hR (nI k) 0 = hR (nI k) 1) ⟨ha, hc⟩, fun _ => j3⟩, by rw [j4]; exact h4.trans (ex_n (P := fun k => mcP (nI k) ea n ∧ ¬ hR (nI k) 0 = hR (nI k) 1) (fun w => w.2 hc)).symm⟩
theorem MC_8 {ea : Nat → Int32} {n q : Nat} {r : Int32} (h : MCq ea n q r) (ha : mcP (nI q) ea n) (hc : ¬ hR (nI q) 0 = hR (nI q) 1) : MCq ea n (q + 1) (r ||| 8) := by
  obtain ⟨k, h1, rfl, h3, h4⟩ := h
  obtain ⟨j, j1, j2, j3, j4⟩ := or_n8 h1
  exact ⟨j, j1, j2, by rw [j4]; exact h3.trans (ex_n (P := fun k => mcP (nI k) ea n ∧ hR (nI k) 0 = hR (nI k) 1) (fun w => hc w.2)).symm, ⟨fun _ => ex_y (P := fun k => mcP (nI k) ea n ∧ ¬ hR (nI k) 0 = hR (nI k) 1) ⟨ha, hc⟩, fun _ => j3⟩⟩
def mlF (ea : Nat → Int32) (n v : Nat) : Int32 := (if hR (mdR ea n v ((1 : Int32) <<< (0 &&& 31))) 1 = 0 then 0 else 1) ||| (if hR (mdR ea n v ((1 : Int32) <<< (1 &&& 31))) 0 = 0 then 0 else 2)
theorem mlF_0 {ea : Nat → Int32} {n v : Nat} (h1 : hR (mdR ea n v ((1 : Int32) <<< (0 &&& 31))) 1 = 0) (h2 : hR (mdR ea n v ((1 : Int32) <<< (1 &&& 31))) 0 = 0) : mlF ea n v = 0 := by rw [mlF, if_pos h1, if_pos h2]; decide
theorem mlF_1 {ea : Nat → Int32} {n v : Nat} (h1 : ¬ hR (mdR ea n v ((1 : Int32) <<< (0 &&& 31))) 1 = 0) (h2 : hR (mdR ea n v ((1 : Int32) <<< (1 &&& 31))) 0 = 0) : mlF ea n v = 1 := by rw [mlF, if_neg h1, if_pos h2]; decide
theorem mlF_2 {ea : Nat → Int32} {n v : Nat} (h1 : hR (mdR ea n v ((1 : Int32) <<< (0 &&& 31))) 1 = 0) (h2 : ¬ hR (mdR ea n v ((1 : Int32) <<< (1 &&& 31))) 0 = 0) : mlF ea n v = 2 := by rw [mlF, if_pos h1, if_neg h2]; decide
theorem mlF_3 {ea : Nat → Int32} {n v : Nat} (h1 : ¬ hR (mdR ea n v ((1 : Int32) <<< (0 &&& 31))) 1 = 0) (h2 : ¬ hR (mdR ea n v ((1 : Int32) <<< (1 &&& 31))) 0 = 0) : mlF ea n v = 3 := by rw [mlF, if_neg h1, if_neg h2]; decide
def MKd (ea : Nat → Int32) (n v : Nat) (r : Int32) : Prop := ∃ c, MCq ea n (2 ^ v) c ∧ r = mlF ea n v ||| c
end
section
/-! the fewest steps from one edge to a set of edges: g is the graph (edges, nodes, letters, from, to), r the rules (how many, open letter, edges, nodes, letters, from, to) -/
abbrev GG := Nat × Nat × (Nat → Nat) × (Nat → Nat) × (Nat → Nat)
abbrev GR := Nat × (Nat → Nat) × (Nat → Nat) × (Nat → Nat) × (Nat → Nat → Nat) × (Nat → Nat → Nat) × (Nat → Nat → Nat)
def zE (g : GG) : Nat := g.1
def zN (g : GG) : Nat := g.2.1
def zL (g : GG) : Nat → Nat := g.2.2.1
def zF (g : GG) : Nat → Nat := g.2.2.2.1
def zT (g : GG) : Nat → Nat := g.2.2.2.2
def yM (r : GR) : Nat := r.1
def yO (r : GR) : Nat → Nat := r.2.1
def yS (r : GR) : Nat → Nat := r.2.2.1
def yW (r : GR) : Nat → Nat := r.2.2.2.1
def yL (r : GR) : Nat → Nat → Nat := r.2.2.2.2.1
def yF (r : GR) : Nat → Nat → Nat := r.2.2.2.2.2.1
def yT (r : GR) : Nat → Nat → Nat := r.2.2.2.2.2.2
/-- a node of a set, a node of the other edges -/
def zNd (g : GG) (S v : Nat) : Prop := ∃ i, i < zE g ∧ S.testBit i = true ∧ (zF g i = v ∨ zT g i = v)
def zOd (g : GG) (S v : Nat) : Prop := ∃ i, i < zE g ∧ S.testBit i = false ∧ (zF g i = v ∨ zT g i = v)
/-- the class's question of a part -/
def zP (g : GG) (S s t : Nat) : Prop := ¬ s = t ∧ zNd g S s ∧ zNd g S t ∧ ∀ v, zNd g S v → (zOd g S v ∨ v = 0 ∨ v = 1) → v = s ∨ v = t
/-- the set is this one edge -/
def zEd (g : GG) (S a s t : Nat) : Prop := ∃ i, i < zE g ∧ S = 2 ^ i ∧ zL g i = a ∧ zF g i = s ∧ zT g i = t
/-- a set dealt out to three slots -/
def zTh (S : Nat) (p : Nat → Nat) : Prop := p 0 + p 1 + p 2 = S ∧ (∀ b, S.testBit b = true ↔ ∃ i, i < 3 ∧ (p i).testBit b = true) ∧ ∀ i i2, i < 3 → i2 < 3 → ¬ i = i2 → ∀ b, (p i).testBit b = true → (p i2).testBit b = false
/-- inner nodes of a rule stand apart -/
def zSd (w N : Nat) (d : Nat → Nat) : Prop := ∀ k, 2 ≤ k → k < w → d k < N ∧ ∀ i, i < k → ¬ d k = d i
/-- a slot: its part costs n, by D -/
def zSl (g : GG) (r : GR) (D : Nat → Nat → Nat → Nat → Nat → Prop) (j i : Nat) (d : Nat → Nat) (p n : Nat) : Prop := (yS r j ≤ i ∧ p = 0 ∧ n = 0) ∨ (i < yS r j ∧ ¬ p = 0 ∧ ((yL r j i < 3 ∧ D (yL r j i) p (d (yF r j i)) (d (yT r j i)) n) ∨ (3 ≤ yL r j i ∧ n = 0 ∧ zEd g p (yL r j i) (d (yF r j i)) (d (yT r j i)))))
theorem zSl_mono {g : GG} {r : GR} {D D2 : Nat → Nat → Nat → Nat → Nat → Prop} (h : ∀ a p s t n, D a p s t n → D2 a p s t n) {j i : Nat} {d : Nat → Nat} {p n : Nat} (q : zSl g r D j i d p n) : zSl g r D2 j i d p n := by
  rcases q with q | ⟨q1, q2, q3⟩
  · exact Or.inl q
  · rcases q3 with ⟨a, b⟩ | q3
    · exact Or.inr ⟨q1, q2, Or.inl ⟨a, h _ _ _ _ _ b⟩⟩
    · exact Or.inr ⟨q1, q2, Or.inr q3⟩
/-- a rule, its nodes, its parts and what they cost -/
def zAp (g : GG) (r : GR) (D : Nat → Nat → Nat → Nat → Nat → Prop) (j : Nat) (d p c : Nat → Nat) (a S s t n : Nat) : Prop := j < yM r ∧ yO r j = a ∧ d 0 = s ∧ d 1 = t ∧ zSd (yW r j) (zN g) d ∧ zTh S p ∧ (∀ i, i < 3 → zSl g r D j i d (p i) (c i)) ∧ n = 1 + c 0 + c 1 + c 2
theorem zAp_mono {g : GG} {r : GR} {D D2 : Nat → Nat → Nat → Nat → Nat → Prop} (h : ∀ a p s t n, D a p s t n → D2 a p s t n) {j : Nat} {d p c : Nat → Nat} {a S s t n : Nat} (q : zAp g r D j d p c a S s t n) : zAp g r D2 j d p c a S s t n :=
  ⟨q.1, q.2.1, q.2.2.1, q.2.2.2.1, q.2.2.2.2.1, q.2.2.2.2.2.1, fun i hi => zSl_mono h (q.2.2.2.2.2.2.1 i hi), q.2.2.2.2.2.2.2⟩
/-- the reference's question of two parts -/
def zA1 (g : GG) (r : GR) (j : Nat) (d p : Nat → Nat) : Prop := ∀ i i2, i < 3 → i2 < 3 → ¬ i = i2 → ∀ v, zNd g (p i) v → zNd g (p i2) v → (v = d (yF r j i) ∨ v = d (yT r j i))
/-- the class: so many steps lead there -/
def zC (g : GG) (r : GR) : Nat → Nat → Nat → Nat → Nat → Nat → Prop
  | 0, _, _, _, _, _ => False
  | k + 1, a, S, s, t, n => zP g S s t ∧ ∃ j d p c, zAp g r (zC g r k) j d p c a S s t n
/-- the reference: so many steps lead there -/
def zR (g : GG) (r : GR) : Nat → Nat → Nat → Nat → Nat → Nat → Prop
  | 0, _, _, _, _, _ => False
  | k + 1, a, S, s, t, n => ¬ s = t ∧ ∃ j d p c, zAp g r (zR g r k) j d p c a S s t n ∧ zA1 g r j d p
theorem zC_s {g : GG} {r : GR} : ∀ {k a S s t n : Nat}, zC g r k a S s t n → zC g r (k + 1) a S s t n := by
  intro k
  induction k with
  | zero => intro a S s t n h; exact h.elim
  | succ k ih =>
    intro a S s t n h
    obtain ⟨h1, j, d, p, c, h2⟩ := h
    exact ⟨h1, j, d, p, c, zAp_mono (fun _ _ _ _ _ q => ih q) h2⟩
theorem zC_m {g : GG} {r : GR} {k a S s t n : Nat} (h : zC g r k a S s t n) : ∀ m, zC g r (k + m) a S s t n := by
  intro m
  induction m with
  | zero => exact h
  | succ m ih => exact zC_s ih
theorem zC_P {g : GG} {r : GR} {k a S s t n : Nat} (h : zC g r k a S s t n) : zP g S s t := by
  cases k with
  | zero => exact h.elim
  | succ k => exact h.1
theorem zR_s {g : GG} {r : GR} : ∀ {k a S s t n : Nat}, zR g r k a S s t n → zR g r (k + 1) a S s t n := by
  intro k
  induction k with
  | zero => intro a S s t n h; exact h.elim
  | succ k ih =>
    intro a S s t n h
    obtain ⟨h1, j, d, p, c, h2, h3⟩ := h
    exact ⟨h1, j, d, p, c, zAp_mono (fun _ _ _ _ _ q => ih q) h2, h3⟩
theorem zR_m {g : GG} {r : GR} {k a S s t n : Nat} (h : zR g r k a S s t n) : ∀ m, zR g r (k + m) a S s t n := by
  intro m
  induction m with
  | zero => exact h
  | succ m ih => exact zR_s ih
theorem zR_ne {g : GG} {r : GR} {k a S s t n : Nat} (h : zR g r k a S s t n) : ¬ s = t := by
  cases k with
  | zero => exact h.elim
  | succ k => exact h.1
theorem zNd_0 {g : GG} {v : Nat} (h : zNd g 0 v) : False := by
  obtain ⟨i, -, h2, -⟩ := h
  rw [Nat.zero_testBit] at h2
  exact absurd h2 (by decide)
theorem zNd_th {g : GG} {S : Nat} {p : Nat → Nat} (h : zTh S p) {i v : Nat} (hi : i < 3) (q : zNd g (p i) v) : zNd g S v := by
  obtain ⟨e, e1, e2, e3⟩ := q
  exact ⟨e, e1, (h.2.1 e).mpr ⟨i, hi, e2⟩, e3⟩
theorem zEd_Nd {g : GG} {S a s t v : Nat} (h : zEd g S a s t) (q : zNd g S v) : v = s ∨ v = t := by
  obtain ⟨i, h1, h2, h3, h4, h5⟩ := h
  obtain ⟨e, e1, e2, e3⟩ := q
  rw [h2, Nat.testBit_two_pow] at e2
  have e4 : i = e := of_decide_eq_true e2
  subst e4
  rcases e3 with e3 | e3
  · exact Or.inl (e3.symm.trans h4)
  · exact Or.inr (e3.symm.trans h5)
theorem zEd_ends {g : GG} {S a s t : Nat} (h : zEd g S a s t) : zNd g S s ∧ zNd g S t := by
  obtain ⟨i, h1, h2, h3, h4, h5⟩ := h
  have hb : S.testBit i = true := by rw [h2, Nat.testBit_two_pow]; exact decide_eq_true rfl
  exact ⟨⟨i, h1, hb, Or.inl h4⟩, ⟨i, h1, hb, Or.inr h5⟩⟩
/-- what the class counts, the reference counts -/
theorem zC_R {g : GG} {r : GR} : ∀ {k a S s t n : Nat}, zC g r k a S s t n → zR g r k a S s t n := by
  intro k
  induction k with
  | zero => intro a S s t n h; exact h.elim
  | succ k ih =>
    intro a S s t n h
    obtain ⟨h1, j, d, p, c, h2⟩ := h
    refine ⟨h1.1, j, d, p, c, zAp_mono (fun _ _ _ _ _ q => ih q) h2, ?_⟩
    obtain ⟨a1, a2, a3, a4, a5, a6, a7, a8⟩ := h2
    intro i i2 hi hi2 hne v q1 q2
    have ho : zOd g (p i) v := by
      obtain ⟨e, e1, e2, e3⟩ := q2
      exact ⟨e, e1, a6.2.2 i2 i hi2 hi (fun z => hne z.symm) e e2, e3⟩
    rcases a7 i hi with ⟨-, b2, -⟩ | ⟨b1, b2, ⟨b3, b4⟩ | ⟨b3, b4, b5⟩⟩
    · rw [b2] at q1; exact (zNd_0 q1).elim
    · exact (zC_P b4).2.2.2 v q1 (Or.inl ho)
    · exact zEd_Nd b5 q1
/-- rules as they are read -/
def yWF (r : GR) : Prop := ∀ j, j < yM r → yO r j < 3 ∧ 1 ≤ yS r j ∧ yS r j ≤ 3 ∧ (∀ i, i < yS r j → yL r j i < 5 ∧ yF r j i < yW r j ∧ yT r j i < yW r j) ∧ (∃ i, i < yS r j ∧ (yF r j i = 0 ∨ yT r j i = 0)) ∧ (∃ i, i < yS r j ∧ (yF r j i = 1 ∨ yT r j i = 1)) ∧ (yS r j = 1 → yW r j = 2)
theorem zR_ends {g : GG} {r : GR} (hW : yWF r) : ∀ {k a S s t n : Nat}, zR g r k a S s t n → zNd g S s ∧ zNd g S t := by
  intro k
  induction k with
  | zero => intro a S s t n h; exact h.elim
  | succ k ih =>
    intro a S s t n h
    obtain ⟨h1, j, d, p, c, ⟨a1, a2, a3, a4, a5, a6, a7, a8⟩, h3⟩ := h
    obtain ⟨w1, w2, w3, w4, ⟨i, i1, i2⟩, ⟨l, l1, l2⟩, -⟩ := hW j a1
    have hs : ∀ i, i < yS r j → zNd g (p i) (d (yF r j i)) ∧ zNd g (p i) (d (yT r j i)) := fun i hi => by
      rcases a7 i (by omega) with ⟨b1, -, -⟩ | ⟨b1, b2, ⟨b3, b4⟩ | ⟨b3, b4, b5⟩⟩
      · omega
      · exact ih b4
      · exact zEd_ends b5
    constructor
    · apply zNd_th a6 (i := i) (by omega)
      rcases i2 with e | e
      · have := (hs i i1).1; rw [e, a3] at this; exact this
      · have := (hs i i1).2; rw [e, a3] at this; exact this
    · apply zNd_th a6 (i := l) (by omega)
      rcases l2 with e | e
      · have := (hs l l1).1; rw [e, a4] at this; exact this
      · have := (hs l l1).2; rw [e, a4] at this; exact this
/-- and the other way round, for a part -/
theorem zR_C {g : GG} {r : GR} (hW : yWF r) : ∀ {k a S s t n : Nat}, zR g r k a S s t n → zP g S s t → zC g r k a S s t n := by
  intro k
  induction k with
  | zero => intro a S s t n h; exact h.elim
  | succ k ih =>
    intro a S s t n h hP
    obtain ⟨h1, j, d, p, c, ⟨a1, a2, a3, a4, a5, a6, a7, a8⟩, h3⟩ := h
    refine ⟨hP, j, d, p, c, a1, a2, a3, a4, a5, a6, ?_, a8⟩
    obtain ⟨w1, w2, w3, w4, ⟨i0, i1, i2⟩, ⟨l0, l1, l2⟩, -⟩ := hW j a1
    have hs : ∀ i, i < yS r j → zNd g (p i) (d (yF r j i)) ∧ zNd g (p i) (d (yT r j i)) := fun i hi => by
      rcases a7 i (by omega) with ⟨b1, -, -⟩ | ⟨b1, b2, ⟨b3, b4⟩ | ⟨b3, b4, b5⟩⟩
      · omega
      · exact zR_ends hW b4
      · exact zEd_ends b5
    -- a node of a part that is an end of the whole is an end of the part
    have hend : ∀ i, i < yS r j → ∀ v, zNd g (p i) v → (v = s ∨ v = t) → v = d (yF r j i) ∨ v = d (yT r j i) := fun i hi v q1 q2 => by
      have key : ∀ l, l < yS r j → (v = d (yF r j l) ∨ v = d (yT r j l)) → v = d (yF r j i) ∨ v = d (yT r j i) := fun l hl q3 => by
        by_cases e : i = l
        · rw [e]; exact q3
        · refine h3 i l (by omega) (by omega) e v q1 ?_
          rcases q3 with q3 | q3
          · rw [q3]; exact (hs l hl).1
          · rw [q3]; exact (hs l hl).2
      rcases q2 with q2 | q2
      · apply key i0 i1
        rcases i2 with e | e
        · left; rw [e, a3]; exact q2
        · right; rw [e, a3]; exact q2
      · apply key l0 l1
        rcases l2 with e | e
        · left; rw [e, a4]; exact q2
        · right; rw [e, a4]; exact q2
    intro i hi
    rcases a7 i hi with b | ⟨b1, b2, ⟨b3, b4⟩ | b3⟩
    · exact Or.inl b
    · refine Or.inr ⟨b1, b2, Or.inl ⟨b3, ih b4 ⟨zR_ne b4, (hs i b1).1, (hs i b1).2, ?_⟩⟩⟩
      intro v q1 q2
      rcases q2 with ⟨e, e1, e2, e3⟩ | q2
      · by_cases z : S.testBit e = true
        · obtain ⟨i2', x1, x2⟩ := (a6.2.1 e).mp z
          have hne : ¬ i = i2' := fun y => by rw [← y, e2] at x2; exact absurd x2 (by decide)
          exact h3 i i2' hi x1 hne v q1 ⟨e, e1, x2, e3⟩
        · have z2 : S.testBit e = false := by
            cases hz : S.testBit e with
            | true => exact absurd hz z
            | false => rfl
          exact hend i b1 v q1 (hP.2.2.2 v (zNd_th a6 hi q1) (Or.inl ⟨e, e1, z2, e3⟩))
      · exact hend i b1 v q1 (hP.2.2.2 v (zNd_th a6 hi q1) (Or.inr q2))
    · exact Or.inr ⟨b1, b2, Or.inr b3⟩
/-- the whole graph is a part -/
theorem zP_all {g : GG} {r : GR} (hW : yWF r) {k a S n : Nat} (hS : ∀ i, i < zE g → S.testBit i = true) (h : zR g r k a S 0 1 n) : zP g S 0 1 := by
  refine ⟨by decide, (zR_ends hW h).1, (zR_ends hW h).2, ?_⟩
  intro v _ q
  rcases q with ⟨e, e1, e2, -⟩ | q
  · rw [hS e e1] at e2; exact absurd e2 (by decide)
  · exact q
/-- the part is the other way round a part too -/
theorem zP_sym {g : GG} {S s t : Nat} (h : zP g S s t) : zP g S t s := ⟨fun e => h.1 e.symm, h.2.2.1, h.2.1, fun v q1 q2 => (h.2.2.2 v q1 q2).symm⟩
/-- a derivation ends with a rule whose parts are smaller, or with a rule of one open edge -/
def zBs (g : GG) (r : GR) (k a S s t n : Nat) : Prop := zP g S s t ∧ ∃ j d p c, zAp g r (fun a2 p2 s2 t2 n2 => p2 < S ∧ zC g r k a2 p2 s2 t2 n2) j d p c a S s t n
def zSg (r : GR) (j a a2 u v s t : Nat) : Prop := j < yM r ∧ yS r j = 1 ∧ yO r j = a ∧ yL r j 0 = a2 ∧ a2 < 3 ∧ ((yF r j 0 = 0 ∧ yT r j 0 = 1 ∧ u = s ∧ v = t) ∨ (yF r j 0 = 1 ∧ yT r j 0 = 0 ∧ u = t ∧ v = s))
theorem zC_cases {g : GG} {r : GR} (hW : yWF r) {k a S s t n : Nat} (h : zC g r (k + 1) a S s t n) : zBs g r k a S s t n ∨ ∃ j a2 u v n2, zSg r j a a2 u v s t ∧ zC g r k a2 S u v n2 ∧ n = 1 + n2 := by
  obtain ⟨hP, j, d, p, c, a1, a2, a3, a4, a5, a6, a7, a8⟩ := h
  obtain ⟨w1, w2, w3, w4, ⟨i0, i1, i2⟩, ⟨l0, l1, l2⟩, -⟩ := hW j a1
  have hsum := a6.1
  by_cases hz : yS r j = 1
  · have m1 : p 1 = 0 ∧ c 1 = 0 := by
      rcases a7 1 (by decide) with ⟨-, b2, b3⟩ | ⟨b1, -⟩
      · exact ⟨b2, b3⟩
      · omega
    have m2 : p 2 = 0 ∧ c 2 = 0 := by
      rcases a7 2 (by decide) with ⟨-, b2, b3⟩ | ⟨b1, -⟩
      · exact ⟨b2, b3⟩
      · omega
    have hp0 : p 0 = S := by omega
    rcases a7 0 (by decide) with ⟨b1, -, -⟩ | ⟨b1, b2, ⟨b3, b4⟩ | ⟨b3, b4, b5⟩⟩
    · omega
    · right
      have e0 : i0 = 0 := by omega
      have e1 : l0 = 0 := by omega
      rw [e0] at i2
      rw [e1] at l2
      rw [hp0] at b4
      rcases i2 with x | x
      · have y : yT r j 0 = 1 := by
          rcases l2 with y | y
          · omega
          · exact y
        rw [x, y, a3, a4] at b4
        exact ⟨j, _, s, t, c 0, ⟨a1, hz, a2, rfl, b3, Or.inl ⟨x, y, rfl, rfl⟩⟩, b4, by omega⟩
      · have y : yF r j 0 = 1 := by
          rcases l2 with y | y
          · exact y
          · omega
        rw [x, y, a3, a4] at b4
        exact ⟨j, _, t, s, c 0, ⟨a1, hz, a2, rfl, b3, Or.inr ⟨y, x, rfl, rfl⟩⟩, b4, by omega⟩
    · left
      refine ⟨hP, j, d, p, c, a1, a2, a3, a4, a5, a6, ?_, a8⟩
      intro i hi
      by_cases ei : i = 0
      · subst ei; exact Or.inr ⟨b1, b2, Or.inr ⟨b3, b4, b5⟩⟩
      · rcases a7 i hi with b | ⟨b6, -⟩
        · exact Or.inl b
        · omega
  · left
    refine ⟨hP, j, d, p, c, a1, a2, a3, a4, a5, a6, ?_, a8⟩
    have n0 : ¬ p 0 = 0 := by
      rcases a7 0 (by decide) with ⟨b1, -, -⟩ | ⟨-, b2, -⟩
      · omega
      · exact b2
    have n1 : ¬ p 1 = 0 := by
      rcases a7 1 (by decide) with ⟨b1, -, -⟩ | ⟨-, b2, -⟩
      · omega
      · exact b2
    intro i hi
    have hlt : p i < S := by
      rcases (show i = 0 ∨ i = 1 ∨ i = 2 by omega) with e | e | e <;> subst e <;> omega
    rcases a7 i hi with b | ⟨b1, b2, ⟨b3, b4⟩ | b3⟩
    · exact Or.inl b
    · exact Or.inr ⟨b1, b2, Or.inl ⟨b3, hlt, b4⟩⟩
    · exact Or.inr ⟨b1, b2, Or.inr b3⟩
/-- counting -/
noncomputable def zct (P : Nat → Prop) : Nat → Nat
  | 0 => 0
  | n + 1 => zct P n + @ite Nat (P n) (Classical.propDecidable _) 1 0
theorem zct_y {P : Nat → Prop} {n : Nat} (h : P n) : zct P (n + 1) = zct P n + 1 := by rw [zct, if_pos h]
theorem zct_n {P : Nat → Prop} {n : Nat} (h : ¬ P n) : zct P (n + 1) = zct P n := by rw [zct, if_neg h]; rfl
theorem zct_sub {P Q : Nat → Prop} (h : ∀ a, P a → Q a) : ∀ n, zct P n ≤ zct Q n := by
  intro n
  induction n with
  | zero => exact Nat.le_refl _
  | succ n ih =>
    by_cases q : Q n
    · rw [zct_y q]
      by_cases p : P n
      · rw [zct_y p]; omega
      · rw [zct_n p]; omega
    · rw [zct_n q, zct_n (fun p => q (h n p))]; exact ih
theorem zct_lt {P Q : Nat → Prop} (h : ∀ a, P a → Q a) {b : Nat} (hq : Q b) (hp : ¬ P b) : ∀ n, b < n → zct P n + 1 ≤ zct Q n := by
  intro n
  induction n with
  | zero => intro q; omega
  | succ n ih =>
    intro hb
    by_cases e : b = n
    · subst e
      rw [zct_y hq, zct_n hp]
      have := zct_sub h b
      omega
    · have := ih (by omega)
      by_cases q : Q n
      · rw [zct_y q]
        by_cases p : P n
        · rw [zct_y p]; omega
        · rw [zct_n p]; omega
      · rw [zct_n q, zct_n (fun p => q (h n p))]; exact this
theorem zct_le (P : Nat → Prop) : ∀ n, zct P n ≤ n := by
  intro n
  induction n with
  | zero => exact Nat.le_refl _
  | succ n ih =>
    by_cases p : P n
    · rw [zct_y p]; omega
    · rw [zct_n p]; omega
theorem zct_all {P : Nat → Prop} : ∀ n, (∀ a, a < n → P a) → zct P n = n := by
  intro n
  induction n with
  | zero => intro _; rfl
  | succ n ih => intro h; rw [zct_y (h n (by omega)), ih (fun a ha => h a (by omega))]
theorem zct_full {P : Nat → Prop} {n : Nat} (h : n ≤ zct P n) {a : Nat} (ha : a < n) : P a := by
  apply Classical.byContradiction
  intro q
  have := zct_lt (P := P) (Q := fun _ => True) (fun _ _ => trivial) (b := a) trivial q n ha
  have := zct_le (fun _ => True) n
  omega
/-- the six states of a set and two nodes -/
def zX (s t i : Nat) : Nat := if i < 3 then s else t
def zY (s t i : Nat) : Nat := if i < 3 then t else s
theorem zXY {s t a u v : Nat} (ha : a < 3) (h : (u = s ∧ v = t) ∨ (u = t ∧ v = s)) : ∃ i, i < 6 ∧ i % 3 = a ∧ zX s t i = u ∧ zY s t i = v := by
  rcases h with ⟨h1, h2⟩ | ⟨h1, h2⟩
  · exact ⟨a, by omega, by omega, by rw [zX, if_pos ha, h1], by rw [zY, if_pos ha, h2]⟩
  · exact ⟨a + 3, by omega, by omega, by rw [zX, if_neg (by omega), h1], by rw [zY, if_neg (by omega), h2]⟩
theorem zXY2 (s t i : Nat) : (zX s t i = s ∧ zY s t i = t) ∨ (zX s t i = t ∧ zY s t i = s) := by
  by_cases h : i < 3
  · exact Or.inl ⟨by rw [zX, if_pos h], by rw [zY, if_pos h]⟩
  · exact Or.inr ⟨by rw [zX, if_neg h], by rw [zY, if_neg h]⟩
/-- where anything leads there, few steps do -/
def zFe (g : GG) (r : GR) (b a S s t : Nat) : Prop := ∃ k n, n ≤ b ∧ zC g r k a S s t n
theorem zFe_le {g : GG} {r : GR} {b b2 a S s t : Nat} (hb : b ≤ b2) (h : zFe g r b a S s t) : zFe g r b2 a S s t := by
  obtain ⟨k, n, h1, h2⟩ := h
  exact ⟨k, n, by omega, h2⟩
/-- a rule put on small parts -/
theorem zFe_bs {g : GG} {r : GR} {S : Nat} (ih : ∀ p, p < S → ∀ k a s t n, zC g r k a p s t n → zFe g r (14 * p - 7) a p s t) {k a s t n : Nat} (hW : yWF r) (h : zBs g r k a S s t n) : zFe g r (14 * S - 13) a S s t := by
  obtain ⟨hP, j, d, p, c, a1, a2, a3, a4, a5, a6, a7, a8⟩ := h
  have hsum := a6.1
  have w2 := (hW j a1).2.1
  have hsl : ∀ i, i < 3 → ∃ k2 n2, zSl g r (zC g r k2) j i d (p i) n2 ∧ n2 ≤ 14 * p i - 7 := fun i hi => by
    rcases a7 i hi with ⟨b1, b2, b3⟩ | ⟨b1, b2, ⟨b3, b4, b5⟩ | ⟨b3, b4, b5⟩⟩
    · exact ⟨0, 0, Or.inl ⟨b1, b2, rfl⟩, by omega⟩
    · obtain ⟨k2, n2, e1, e2⟩ := ih _ b4 _ _ _ _ _ b5
      exact ⟨k2, n2, Or.inr ⟨b1, b2, Or.inl ⟨b3, e2⟩⟩, e1⟩
    · exact ⟨0, 0, Or.inr ⟨b1, b2, Or.inr ⟨b3, rfl, b5⟩⟩, by omega⟩
  obtain ⟨k0, n0, s0, l0⟩ := hsl 0 (by decide)
  obtain ⟨k1, n1, s1, l1⟩ := hsl 1 (by decide)
  obtain ⟨k2, n2, s2, l2⟩ := hsl 2 (by decide)
  -- slots are filled from the first on
  have hp0 : ¬ p 0 = 0 := by
    rcases s0 with ⟨b1, -, -⟩ | ⟨-, b2, -⟩
    · omega
    · exact b2
  have hone : yS r j = 1 → n0 = 0 := fun e => by
    rcases a7 1 (by decide) with ⟨-, b2, -⟩ | ⟨b1, -⟩
    · rcases a7 2 (by decide) with ⟨-, b3, -⟩ | ⟨b1, -⟩
      · rcases a7 0 (by decide) with ⟨b1, -, -⟩ | ⟨b1, b4, ⟨b5, b6, -⟩ | ⟨b5, b6, b7⟩⟩
        · omega
        · omega
        · rcases s0 with ⟨b8, -, -⟩ | ⟨-, -, ⟨b8, -⟩ | ⟨-, b8, -⟩⟩
          · omega
          · omega
          · exact b8
      · omega
    · omega
  have htwo : 2 ≤ yS r j → ¬ p 1 = 0 := fun e => by
    rcases a7 1 (by decide) with ⟨b1, -, -⟩ | ⟨-, b2, -⟩
    · omega
    · exact b2
  have hmiss1 : yS r j ≤ 1 → n1 = 0 ∧ n2 = 0 := fun e => by
    constructor
    · rcases s1 with ⟨-, -, b⟩ | ⟨b, -⟩
      · exact b
      · omega
    · rcases s2 with ⟨-, -, b⟩ | ⟨b, -⟩
      · exact b
      · omega
  refine ⟨k0 + k1 + k2 + 1, 1 + n0 + n1 + n2, ?_, hP, j, d, p, fun i => if i = 0 then n0 else if i = 1 then n1 else n2, a1, a2, a3, a4, a5, a6, ?_, rfl⟩
  · by_cases e : yS r j = 1
    · have := hone e
      have := hmiss1 (by omega)
      omega
    · have := htwo (by omega)
      omega
  · intro i hi
    rcases (show i = 0 ∨ i = 1 ∨ i = 2 by omega) with e | e | e
    · subst e
      exact zSl_mono (fun _ _ _ _ _ q => by rw [show k0 + k1 + k2 = k0 + (k1 + k2) by omega]; exact zC_m q _) s0
    · subst e
      exact zSl_mono (fun _ _ _ _ _ q => by rw [show k0 + k1 + k2 = k1 + (k0 + k2) by omega]; exact zC_m q _) s1
    · subst e
      exact zSl_mono (fun _ _ _ _ _ q => by rw [show k0 + k1 + k2 = k2 + (k0 + k1) by omega]; exact zC_m q _) s2
/-- one rule more, with one open edge -/
theorem zTh_1 (S : Nat) : zTh S (fun i => if i = 0 then S else 0) := by
  refine ⟨rfl, fun b => ⟨fun h => ⟨0, by decide, h⟩, ?_⟩, ?_⟩
  · rintro ⟨i, hi, h⟩
    by_cases e : i = 0
    · rw [e] at h; exact h
    · have h2 : (0 : Nat).testBit b = true := by
        have h3 : (if i = 0 then S else 0) = 0 := if_neg e
        rw [← h3]; exact h
      rw [Nat.zero_testBit] at h2
      exact absurd h2 (by decide)
  · intro i i2 hi hi2 hne b h
    by_cases e : i2 = 0
    · have h3 : (if i = 0 then S else 0) = 0 := if_neg (fun z => hne (z.trans e.symm))
      have h2 : (0 : Nat).testBit b = true := by rw [← h3]; exact h
      rw [Nat.zero_testBit] at h2
      exact absurd h2 (by decide)
    · show (if i2 = 0 then S else 0).testBit b = false
      rw [if_neg e, Nat.zero_testBit]
theorem zSg_ap {g : GG} {r : GR} (hW : yWF r) {D : Nat → Nat → Nat → Nat → Nat → Prop} {j a a2 u v S s t n : Nat} (hq : zSg r j a a2 u v s t) (hS : ¬ S = 0) (h : D a2 S u v n) : zAp g r D j (fun i => if i = 0 then s else t) (fun i => if i = 0 then S else 0) (fun i => if i = 0 then n else 0) a S s t (1 + n) := by
  obtain ⟨q1, q2, q3, q4, q5, q6⟩ := hq
  have hw2 := (hW j q1).2.2.2.2.2.2 q2
  refine ⟨q1, q3, rfl, rfl, fun k h1 h2 => by omega, zTh_1 S, ?_, rfl⟩
  intro i hi
  by_cases e : i = 0
  · subst e
    refine Or.inr ⟨by omega, hS, Or.inl ⟨by omega, ?_⟩⟩
    rcases q6 with ⟨x1, x2, x3, x4⟩ | ⟨x1, x2, x3, x4⟩
    · rw [x1, x2, q4, ← x3, ← x4]; exact h
    · rw [x1, x2, q4]
      show D a2 S t s n
      rw [← x3, ← x4]; exact h
  · exact Or.inl ⟨by omega, if_neg e, if_neg e⟩
theorem zNd_ne {g : GG} {S v : Nat} (h : zNd g S v) : ¬ S = 0 := fun e => by rw [e] at h; exact zNd_0 h
theorem zC_sg {g : GG} {r : GR} (hW : yWF r) {k j a a2 u v S s t n : Nat} (hq : zSg r j a a2 u v s t) (hP : zP g S s t) (h : zC g r k a2 S u v n) : zC g r (k + 1) a S s t (1 + n) := ⟨hP, j, _, _, _, zSg_ap hW hq (zNd_ne hP.2.1) h⟩
theorem zSg_pr {r : GR} {j a a2 u v s t x y : Nat} (hq : zSg r j a a2 u v s t) (h : (s = x ∧ t = y) ∨ (s = y ∧ t = x)) : (u = x ∧ v = y) ∨ (u = y ∧ v = x) := by
  rcases hq.2.2.2.2.2 with ⟨-, -, h1, h2⟩ | ⟨-, -, h1, h2⟩ <;> omega
/-- a longer chain passes by more states -/
theorem zFe_step {g : GG} {r : GR} (hW : yWF r) {S b x y : Nat} (hb : ∀ k a s t n, zBs g r k a S s t n → zFe g r b a S s t) : ∀ k a s t n, a < 3 → ((s = x ∧ t = y) ∨ (s = y ∧ t = x)) → zC g r k a S s t n → zFe g r b a S s t ∨ ∃ a2 u v, a2 < 3 ∧ ((u = x ∧ v = y) ∨ (u = y ∧ v = x)) ∧ ¬ zFe g r b a2 S u v ∧ zFe g r (b + 1) a2 S u v := by
  intro k
  induction k with
  | zero => intro a s t n _ _ h; exact h.elim
  | succ k ih =>
    intro a s t n ha hp h
    have hP := zC_P h
    rcases zC_cases hW h with q | ⟨j, a2, u, v, n2, q1, q2, q3⟩
    · exact Or.inl (hb _ _ _ _ _ q)
    · have hu := zSg_pr q1 hp
      rcases ih a2 u v n2 q1.2.2.2.2.1 hu q2 with w | w
      · by_cases z : zFe g r b a S s t
        · exact Or.inl z
        · obtain ⟨k3, n3, w1, w2⟩ := w
          exact Or.inr ⟨a, s, t, ha, hp, z, k3 + 1, 1 + n3, by omega, zC_sg hW q1 hP w2⟩
      · exact Or.inr w
theorem zFe_all {g : GG} {r : GR} (hW : yWF r) : ∀ S k a s t n, a < 3 → zC g r k a S s t n → zFe g r (14 * S - 7) a S s t := by
  intro S
  induction S using Nat.strongRecOn with
  | _ S ih =>
    intro k a s t n ha h
    have hS := zNd_ne (zC_P h).2.1
    have hb : ∀ k a s t n, zBs g r k a S s t n → zFe g r (14 * S - 13) a S s t := fun k a s t n q => zFe_bs (S := S) (fun p hp k2 a2 s2 t2 n2 q2 => ih p hp k2 a2 s2 t2 n2 (by
      cases k2 with
      | zero => exact q2.elim
      | succ k2 =>
        obtain ⟨-, j, d, p', c, q3⟩ := q2
        have := (hW j q3.1).1
        have := q3.2.1
        omega) q2) hW q
    have key : ∀ q, q ≤ 6 → (∀ k a2 u v n, a2 < 3 → ((u = s ∧ v = t) ∨ (u = t ∧ v = s)) → zC g r k a2 S u v n → zFe g r (14 * S - 13 + q) a2 S u v) ∨ q ≤ zct (fun i => zFe g r (14 * S - 13 + q) (i % 3) S (zX s t i) (zY s t i)) 6 := by
      intro q
      induction q with
      | zero => intro _; exact Or.inr (Nat.zero_le _)
      | succ q ihq =>
        intro hq
        by_cases z : ∀ k a2 u v n, a2 < 3 → ((u = s ∧ v = t) ∨ (u = t ∧ v = s)) → zC g r k a2 S u v n → zFe g r (14 * S - 13 + q) a2 S u v
        · exact Or.inl (fun k a2 u v n h1 h2 h3 => zFe_le (by omega) (z k a2 u v n h1 h2 h3))
        · rcases ihq (by omega) with w | w
          · exact absurd w z
          · have z2 : ∃ a2 u v, a2 < 3 ∧ ((u = s ∧ v = t) ∨ (u = t ∧ v = s)) ∧ ¬ zFe g r (14 * S - 13 + q) a2 S u v ∧ zFe g r (14 * S - 13 + q + 1) a2 S u v := by
              apply Classical.byContradiction
              intro no
              refine z (fun k a2 u v n h1 h2 h3 => ?_)
              rcases zFe_step hW (b := 14 * S - 13 + q) (x := s) (y := t) (fun k a s t n q => zFe_le (by omega) (hb k a s t n q)) k a2 u v n h1 h2 h3 with y | y
              · exact y
              · exact absurd y no
            obtain ⟨a2, u, v, x1, x2, x3, x4⟩ := z2
            obtain ⟨i, i1, i2, i3, i4⟩ := zXY x1 x2
            refine Or.inr (Nat.le_trans (Nat.succ_le_succ w) ?_)
            exact zct_lt (P := fun i => zFe g r (14 * S - 13 + q) (i % 3) S (zX s t i) (zY s t i)) (Q := fun i => zFe g r (14 * S - 13 + (q + 1)) (i % 3) S (zX s t i) (zY s t i)) (fun a h => zFe_le (by omega) h) (b := i) (by show zFe g r (14 * S - 13 + (q + 1)) (i % 3) S (zX s t i) (zY s t i); rw [i2, i3, i4]; exact x4) (by show ¬ zFe g r (14 * S - 13 + q) (i % 3) S (zX s t i) (zY s t i); rw [i2, i3, i4]; exact x3) 6 i1
    have e : 14 * S - 13 + 6 = 14 * S - 7 := by omega
    rcases key 6 (Nat.le_refl _) with q | q
    · rw [e] at q; exact q k a s t n ha (Or.inl ⟨rfl, rfl⟩) h
    · rw [e] at q
      have := zct_full q (a := a) (by omega)
      have w : zFe g r (14 * S - 7) (a % 3) S (zX s t a) (zY s t a) := this
      rw [show a % 3 = a by omega, zX, zY, if_pos ha, if_pos ha] at w
      exact w
/-- the class's rounds over one set: T is a table of letter, set, nodes -/
def zEx (g : GG) (r : GR) (T : Nat → Nat → Nat → Nat → Nat) (a S s t : Nat) : Prop := ∀ k n, zC g r k a S s t n → T a S s t ≤ n
def zBt (g : GG) (r : GR) (T : Nat → Nat → Nat → Nat → Nat) (S : Nat) : Prop := ∀ k a s t n, zBs g r k a S s t n → T a S s t ≤ n
def zS1 (g : GG) (r : GR) (T T2 : Nat → Nat → Nat → Nat → Nat) (S : Nat) : Prop := (∀ a s t, T2 a S s t ≤ T a S s t) ∧ ∀ j a a2 u v s t, zSg r j a a2 u v s t → zP g S s t → T2 a S s t ≤ 1 + T a2 S u v
theorem zRd {g : GG} {r : GR} (hW : yWF r) {T T2 : Nat → Nat → Nat → Nat → Nat} {S x y : Nat} (hB : zBt g r T2 S) (h1 : zS1 g r T T2 S) : ∀ m n a s t k, n ≤ m → a < 3 → ((s = x ∧ t = y) ∨ (s = y ∧ t = x)) → zC g r k a S s t n → n < T a S s t → ∃ a2 u v, a2 < 3 ∧ ((u = x ∧ v = y) ∨ (u = y ∧ v = x)) ∧ zEx g r T2 a2 S u v ∧ ¬ zEx g r T a2 S u v := by
  intro m
  induction m with
  | zero =>
    intro n a s t k hn ha hp h hl
    cases k with
    | zero => exact h.elim
    | succ k =>
      obtain ⟨-, j, d, p, c, q⟩ := h
      have := q.2.2.2.2.2.2.2
      omega
  | succ m ih =>
    intro n a s t k hn ha hp h hl
    by_cases z : ∃ n2 a2 s2 t2 k2, n2 < n ∧ a2 < 3 ∧ ((s2 = x ∧ t2 = y) ∨ (s2 = y ∧ t2 = x)) ∧ zC g r k2 a2 S s2 t2 n2 ∧ n2 < T a2 S s2 t2
    · obtain ⟨n2, a2, s2, t2, k2, z1, z2, z3, z4, z5⟩ := z
      exact ih n2 a2 s2 t2 k2 (by omega) z2 z3 z4 z5
    · have least : ∀ n2 a2 s2 t2 k2, n2 < n → a2 < 3 → ((s2 = x ∧ t2 = y) ∨ (s2 = y ∧ t2 = x)) → zC g r k2 a2 S s2 t2 n2 → T a2 S s2 t2 ≤ n2 := fun n2 a2 s2 t2 k2 z1 z2 z3 z4 => by
        rcases Nat.lt_or_ge n2 (T a2 S s2 t2) with w | w
        · exact absurd ⟨n2, a2, s2, t2, k2, z1, z2, z3, z4, w⟩ z
        · exact w
      have hT : T2 a S s t ≤ n := by
        cases k with
        | zero => exact h.elim
        | succ k =>
          have hP := zC_P h
          rcases zC_cases hW h with q | ⟨j, a2, u, v, n2, q1, q2, q3⟩
          · exact hB _ _ _ _ _ q
          · have := least n2 a2 u v k (by omega) q1.2.2.2.2.1 (zSg_pr q1 hp) q2
            have := h1.2 j a a2 u v s t q1 hP
            omega
      refine ⟨a, s, t, ha, hp, ?_, fun w => by have := w k n h; omega⟩
      intro k2 n2 h2
      rcases Nat.lt_or_ge n2 n with w | w
      · exact Nat.le_trans (h1.1 a s t) (least n2 a s t k2 w ha hp h2)
      · omega
/-- q rounds made at least q of the six states right -/
def zQ (g : GG) (r : GR) (T : Nat → Nat → Nat → Nat → Nat) (S q : Nat) : Prop := ∀ s t, q ≤ zct (fun i => zEx g r T (i % 3) S (zX s t i) (zY s t i)) 6
theorem zQ_0 {g : GG} {r : GR} {T : Nat → Nat → Nat → Nat → Nat} {S : Nat} : zQ g r T S 0 := fun _ _ => Nat.zero_le _
theorem zEx_le {g : GG} {r : GR} {T T2 : Nat → Nat → Nat → Nat → Nat} {S a s t : Nat} (h1 : zS1 g r T T2 S) (h : zEx g r T a S s t) : zEx g r T2 a S s t := fun k n q => Nat.le_trans (h1.1 a s t) (h k n q)
theorem zEx_no {g : GG} {r : GR} {T : Nat → Nat → Nat → Nat → Nat} {S a s t : Nat} (h : ¬ zEx g r T a S s t) : ∃ k n, zC g r k a S s t n ∧ n < T a S s t := by
  apply Classical.byContradiction
  intro q
  refine h (fun k n w => ?_)
  rcases Nat.lt_or_ge n (T a S s t) with z | z
  · exact absurd ⟨k, n, w, z⟩ q
  · exact z
theorem zQ_s {g : GG} {r : GR} (hW : yWF r) {T T2 : Nat → Nat → Nat → Nat → Nat} {S q : Nat} (hB : zBt g r T2 S) (h1 : zS1 g r T T2 S) (hq : q < 6) (h : zQ g r T S q) : zQ g r T2 S (q + 1) := by
  intro s t
  by_cases z : ∃ i, i < 6 ∧ ¬ zEx g r T (i % 3) S (zX s t i) (zY s t i)
  · obtain ⟨i, i1, i2⟩ := z
    obtain ⟨k, n, i3, i4⟩ := zEx_no i2
    obtain ⟨a2, u, v, x1, x2, x3, x4⟩ := zRd hW (x := s) (y := t) hB h1 n n (i % 3) _ _ k (Nat.le_refl _) (by omega) (zXY2 s t i) i3 i4
    obtain ⟨l, l1, l2, l3, l4⟩ := zXY x1 x2
    refine Nat.le_trans (Nat.succ_le_succ (h s t)) ?_
    exact zct_lt (P := fun i => zEx g r T (i % 3) S (zX s t i) (zY s t i)) (Q := fun i => zEx g r T2 (i % 3) S (zX s t i) (zY s t i)) (fun a w => zEx_le h1 w) (b := l) (by show zEx g r T2 (l % 3) S (zX s t l) (zY s t l); rw [l2, l3, l4]; exact x3) (by show ¬ zEx g r T (l % 3) S (zX s t l) (zY s t l); rw [l2, l3, l4]; exact x4) 6 l1
  · have hall : ∀ i, i < 6 → zEx g r T2 (i % 3) S (zX s t i) (zY s t i) := fun i hi => by
      apply zEx_le h1
      apply Classical.byContradiction
      intro w
      exact z ⟨i, hi, w⟩
    rw [zct_all 6 hall]
    omega
/-- six are enough, and so is one that changed nothing -/
theorem zQ_6 {g : GG} {r : GR} {T : Nat → Nat → Nat → Nat → Nat} {S a s t : Nat} (h : zQ g r T S 6) (ha : a < 3) : zEx g r T a S s t := by
  have w : zEx g r T (a % 3) S (zX s t a) (zY s t a) := zct_full (h s t) (a := a) (by omega)
  rw [show a % 3 = a by omega, zX, zY, if_pos ha, if_pos ha] at w
  exact w
theorem zQ_st {g : GG} {r : GR} (hW : yWF r) {T : Nat → Nat → Nat → Nat → Nat} {S a s t : Nat} (hB : zBt g r T S) (h1 : zS1 g r T T S) (ha : a < 3) : zEx g r T a S s t := by
  apply Classical.byContradiction
  intro q
  obtain ⟨k, n, h3, h4⟩ := zEx_no q
  obtain ⟨a2, u, v, x1, x2, x3, x4⟩ := zRd hW (x := s) (y := t) hB h1 n n a s t k (Nat.le_refl _) ha (Or.inl ⟨rfl, rfl⟩) h3 h4
  exact x4 x3
end
section
/-! masks of nodes and sets of edges, as numbers below 32 -/
theorem zm_or {m a b : Nat} (hm : m < 32) (ha : a < 5) (hb : b < 5) : nI m ||| (((1 : Int32) <<< (nI a &&& 31)) ||| ((1 : Int32) <<< (nI b &&& 31))) = nI (m ||| (2 ^ a ||| 2 ^ b)) ∧ (m ||| (2 ^ a ||| 2 ^ b)) < 32 := by
  have : ∀ m, m < 32 → ∀ a, a < 5 → ∀ b, b < 5 → nI m ||| (((1 : Int32) <<< (nI a &&& 31)) ||| ((1 : Int32) <<< (nI b &&& 31))) = nI (m ||| (2 ^ a ||| 2 ^ b)) ∧ (m ||| (2 ^ a ||| 2 ^ b)) < 32 := by decide +kernel
  exact this m hm a ha b hb
theorem zm_bit {S i : Nat} (hS : S < 32) (hi : i < 5) : ((nI S >>> (nI i &&& 31)) &&& 1 = 0 ↔ S.testBit i = false) ∧ (((nI S ^^^ (-1)) >>> (nI i &&& 31)) &&& 1 = 0 ↔ S.testBit i = true) := by
  have : ∀ S, S < 32 → ∀ i, i < 5 → ((nI S >>> (nI i &&& 31)) &&& 1 = 0 ↔ S.testBit i = false) ∧ (((nI S ^^^ (-1)) >>> (nI i &&& 31)) &&& 1 = 0 ↔ S.testBit i = true) := by decide +kernel
  exact this S hS i hi
/-- the nodes of the edges that b names, as a mask -/
def zMk (F T : Nat → Nat) (b : Nat → Bool) : Nat → Nat
  | 0 => 0
  | i + 1 => if b i = true then zMk F T b i ||| (2 ^ F i ||| 2 ^ T i) else zMk F T b i
theorem zMk_lt {F T : Nat → Nat} {b : Nat → Bool} : ∀ n, (∀ i, i < n → F i < 5 ∧ T i < 5) → zMk F T b n < 32 := by
  intro n
  induction n with
  | zero => intro _; exact (by decide : 0 < 32)
  | succ n ih =>
    intro h
    have h1 := ih (fun i hi => h i (by omega))
    rw [zMk]
    split
    · exact (zm_or h1 (h n (by omega)).1 (h n (by omega)).2).2
    · exact h1
theorem zMk_bit {F T : Nat → Nat} {b : Nat → Bool} (v : Nat) : ∀ n, (zMk F T b n).testBit v = true ↔ ∃ i, i < n ∧ b i = true ∧ (F i = v ∨ T i = v) := by
  intro n
  induction n with
  | zero =>
    rw [zMk, Nat.zero_testBit]
    exact ⟨fun q => absurd q (by decide), fun ⟨i, hi, _⟩ => absurd hi (by omega)⟩
  | succ n ih =>
    rw [zMk]
    by_cases hb : b n = true
    · rw [if_pos hb, Nat.testBit_or, Nat.testBit_or, Nat.testBit_two_pow, Nat.testBit_two_pow, Bool.or_eq_true, Bool.or_eq_true, decide_eq_true_iff, decide_eq_true_iff, ih]
      constructor
      · rintro (⟨i, h1, h2, h3⟩ | h)
        · exact ⟨i, by omega, h2, h3⟩
        · exact ⟨n, by omega, hb, h⟩
      · rintro ⟨i, h1, h2, h3⟩
        by_cases e : i = n
        · subst e; exact Or.inr h3
        · exact Or.inl ⟨i, by omega, h2, h3⟩
    · rw [if_neg hb, ih]
      constructor
      · rintro ⟨i, h1, h2, h3⟩
        exact ⟨i, by omega, h2, h3⟩
      · rintro ⟨i, h1, h2, h3⟩
        by_cases e : i = n
        · subst e; exact absurd h2 hb
        · exact ⟨i, by omega, h2, h3⟩
/-- a set within another -/
def SB (p S : Nat) : Prop := ∀ i, i < 5 → p.testBit i = true → S.testBit i = true
theorem zm_sub {S p : Nat} (hS : S < 32) (hp : p < 32) : (nI p &&& (nI S ^^^ (-1)) = 0 ↔ SB p S) ∧ (SB p S → nI S &&& (nI p ^^^ (-1)) = nI (S - p) ∧ p ≤ S ∧ ∀ i, i < 5 → ((S - p).testBit i = true ↔ S.testBit i = true ∧ p.testBit i = false)) := by
  have A : ∀ S, S < 32 → ∀ p, p < 32 → (nI p &&& (nI S ^^^ (-1)) = 0 ↔ (∀ i, i < 5 → p.testBit i = true → S.testBit i = true)) := by decide +kernel
  have B : ∀ S, S < 32 → ∀ p, p < 32 → (∀ i, i < 5 → p.testBit i = true → S.testBit i = true) → nI S &&& (nI p ^^^ (-1)) = nI (S - p) ∧ p ≤ S := by decide +kernel
  have C : ∀ S, S < 32 → ∀ p, p < 32 → (∀ i, i < 5 → p.testBit i = true → S.testBit i = true) → ∀ i, i < 5 → (S - p).testBit i = (S.testBit i && !p.testBit i) := by decide +kernel
  exact ⟨A S hS p hp, fun h => ⟨(B S hS p hp h).1, (B S hS p hp h).2, fun i hi => by rw [C S hS p hp h i hi]; cases S.testBit i <;> cases p.testBit i <;> simp⟩⟩
theorem np_pair {s t : Nat} (hs : s < 5) (ht : t < 5) : ((1 : Int32) <<< (nI s &&& 31)) ||| ((1 : Int32) <<< (nI t &&& 31)) = nI (2 ^ s ||| 2 ^ t) ∧ (2 ^ s ||| 2 ^ t) < 32 := by
  have : ∀ s, s < 5 → ∀ t, t < 5 → ((1 : Int32) <<< (nI s &&& 31)) ||| ((1 : Int32) <<< (nI t &&& 31)) = nI (2 ^ s ||| 2 ^ t) ∧ (2 ^ s ||| 2 ^ t) < 32 := by decide +kernel
  exact this s hs t ht
theorem np_and {x y : Nat} (hx : x < 32) (hy : y < 32) : nI x &&& nI y = nI (x &&& y) ∧ (x &&& y) < 32 := by
  have : ∀ x, x < 32 → ∀ y, y < 32 → nI x &&& nI y = nI (x &&& y) ∧ (x &&& y) < 32 := by decide +kernel
  exact this x hx y hy
theorem np_or3 {x : Nat} (hx : x < 32) : nI x ||| 3 = nI (x ||| 3) ∧ (x ||| 3) < 32 := by
  have : ∀ x, x < 32 → nI x ||| 3 = nI (x ||| 3) ∧ (x ||| 3) < 32 := by decide +kernel
  exact this x hx
theorem np_eq {x y : Nat} (hx : x < 32) (hy : y < 32) : nI x &&& nI y = nI y ↔ SB y x := by
  have : ∀ x, x < 32 → ∀ y, y < 32 → (nI x &&& nI y = nI y ↔ ∀ i, i < 5 → y.testBit i = true → x.testBit i = true) := by decide +kernel
  exact this x hx y hy
theorem np_3 {v : Nat} (hv : v < 5) : (3 : Nat).testBit v = true ↔ v = 0 ∨ v = 1 := by
  have : ∀ v, v < 5 → ((3 : Nat).testBit v = true ↔ v = 0 ∨ v = 1) := by decide
  exact this v hv
theorem tb_hi {x i : Nat} (hx : x < 32) (hi : 5 ≤ i) : x.testBit i = false := by
  apply Nat.testBit_lt_two_pow
  exact Nat.lt_of_lt_of_le hx (Nat.le_trans (by decide : 32 ≤ 2 ^ 5) (Nat.pow_le_pow_right (by decide) hi))
theorem tb_lt {x i : Nat} (hx : x < 32) (h : x.testBit i = true) : i < 5 := by
  rcases Nat.lt_or_ge i 5 with q | q
  · exact q
  · rw [tb_hi hx q] at h
    exact absurd h (by decide)
theorem tb_f {b : Bool} (h : ¬ b = true) : b = false := by
  cases b with
  | true => exact absurd rfl h
  | false => rfl
/-- how many -/
def zpc (S : Nat) : Nat := S % 2 + S / 2 % 2 + S / 4 % 2 + S / 8 % 2 + S / 16 % 2
theorem zpc_lt {S p : Nat} (hS : S < 32) (hp : p < 32) (h : SB p S) (hne : ¬ p = S) : zpc p < zpc S := by
  have : ∀ S, S < 32 → ∀ p, p < 32 → (∀ i, i < 5 → p.testBit i = true → S.testBit i = true) → ¬ p = S → zpc p < zpc S := by decide +kernel
  exact this S hS p hp h hne
theorem zpc_pos {S : Nat} (hS : S < 32) (h : ¬ S = 0) : 1 ≤ zpc S := by
  have : ∀ S, S < 32 → ¬ S = 0 → 1 ≤ zpc S := by decide +kernel
  exact this S hS h
theorem zpc_le {S n : Nat} (hn : n ≤ 5) (hS : S < 2 ^ n) : zpc S ≤ n := by
  have : ∀ n, n < 6 → ∀ S, S < 2 ^ n → zpc S ≤ n := by decide +kernel
  exact this n (by omega) S hS
theorem zpc_add {S p : Nat} (hS : S < 32) (hp : p < 32) (h : SB p S) : zpc p + zpc (S - p) = zpc S := by
  have : ∀ S, S < 32 → ∀ p, p < 32 → (∀ i, i < 5 → p.testBit i = true → S.testBit i = true) → zpc p + zpc (S - p) = zpc S := by decide +kernel
  exact this S hS p hp h
/-- the parts of a set that is dealt out -/
theorem zTh_sb {S : Nat} {p : Nat → Nat} (hS : S < 32) (h : zTh S p) : p 0 < 32 ∧ p 1 < 32 ∧ p 2 < 32 ∧ SB (p 0) S ∧ SB (p 1) (S - p 0) ∧ p 2 = S - p 0 - p 1 ∧ p 1 ≤ S - p 0 ∧ SB (p 1) S ∧ SB (p 2) S := by
  obtain ⟨h1, h2, h3⟩ := h
  have b0 : SB (p 0) S := fun i _ q => (h2 i).mpr ⟨0, by decide, q⟩
  have b1 : SB (p 1) S := fun i _ q => (h2 i).mpr ⟨1, by decide, q⟩
  have b2 : SB (p 2) S := fun i _ q => (h2 i).mpr ⟨2, by decide, q⟩
  refine ⟨by omega, by omega, by omega, b0, ?_, by omega, by omega, b1, b2⟩
  intro i hi q
  exact (((zm_sub hS (by omega : p 0 < 32)).2 b0).2.2 i hi).mpr ⟨b1 i hi q, h3 1 0 (by decide) (by decide) (by decide) i q⟩
def p3 (a b c : Nat) : Nat → Nat := fun i => if i = 0 then a else if i = 1 then b else c
theorem zTh_mk {S a b : Nat} (hS : S < 32) (ha : SB a S) (ha2 : a < 32) (hb : SB b (S - a)) (hb2 : b < 32) : zTh S (p3 a b (S - a - b)) ∧ b ≤ S - a ∧ a ≤ S := by
  obtain ⟨-, e2, e3⟩ := (zm_sub hS ha2).2 ha
  have hS2 : S - a < 32 := by omega
  obtain ⟨-, f2, f3⟩ := (zm_sub hS2 hb2).2 hb
  have hi5 : ∀ x : Nat, x < 32 → ∀ i, x.testBit i = true → i < 5 := fun x hx i q => tb_lt hx q
  have c3 : S - a - b < 32 := by omega
  refine ⟨⟨?_, ?_, ?_⟩, f2, e2⟩
  · show a + b + (S - a - b) = S
    omega
  · intro i
    constructor
    · intro q
      have hi := hi5 S hS i q
      by_cases qa : a.testBit i = true
      · exact ⟨0, by decide, qa⟩
      · have q2 := (e3 i hi).mpr ⟨q, tb_f qa⟩
        by_cases qb : b.testBit i = true
        · exact ⟨1, by decide, qb⟩
        · exact ⟨2, by decide, (f3 i hi).mpr ⟨q2, tb_f qb⟩⟩
    · rintro ⟨k, hk, q⟩
      rcases (show k = 0 ∨ k = 1 ∨ k = 2 by omega) with e | e | e
      · subst e; exact ha i (hi5 a ha2 i q) q
      · subst e
        have hi := hi5 b hb2 i q
        exact ((e3 i hi).mp (hb i hi q)).1
      · subst e
        have hi := hi5 (S - a - b) c3 i q
        exact ((e3 i hi).mp ((f3 i hi).mp q).1).1
  · have d01 : ∀ i, a.testBit i = true → b.testBit i = false := fun i q => by
      apply tb_f
      intro w
      have hi := hi5 a ha2 i q
      rw [((e3 i hi).mp (hb i hi w)).2] at q
      exact absurd q (by decide)
    have d02 : ∀ i, a.testBit i = true → (S - a - b).testBit i = false := fun i q => by
      apply tb_f
      intro w
      have hi := hi5 a ha2 i q
      rw [((e3 i hi).mp ((f3 i hi).mp w).1).2] at q
      exact absurd q (by decide)
    have d12 : ∀ i, b.testBit i = true → (S - a - b).testBit i = false := fun i q => by
      apply tb_f
      intro w
      have hi := hi5 b hb2 i q
      rw [((f3 i hi).mp w).2] at q
      exact absurd q (by decide)
    have sw : ∀ {x y : Nat}, (∀ i, x.testBit i = true → y.testBit i = false) → ∀ i, y.testBit i = true → x.testBit i = false := fun h i q => by
      apply tb_f
      intro w
      rw [h i w] at q
      exact absurd q (by decide)
    intro i j hi hj hne k q
    rcases (show i = 0 ∨ i = 1 ∨ i = 2 by omega) with e | e | e <;> rcases (show j = 0 ∨ j = 1 ∨ j = 2 by omega) with f | f | f <;> subst e <;> subst f
    · exact absurd rfl hne
    · exact d01 k q
    · exact d02 k q
    · exact sw d01 k q
    · exact absurd rfl hne
    · exact d12 k q
    · exact sw d02 k q
    · exact sw d12 k q
    · exact absurd rfl hne
theorem zpc_th {S : Nat} {p : Nat → Nat} (hS : S < 32) (h : zTh S p) : zpc (p 0) + zpc (p 1) + zpc (p 2) = zpc S := by
  obtain ⟨a1, a2, a3, a4, a5, a6, a7, -⟩ := zTh_sb hS h
  have e1 := zpc_add hS a1 a4
  have e2 := zpc_add (by omega : S - p 0 < 32) a2 a5
  rw [a6]
  omega
end
section
/-! tables of the fewest steps, as numbers: what both sides need -/
def tn (x : Int32) : Nat := x.toInt.toNat
theorem tn_nI {n : Nat} (h : n < 2147483648) : tn (nI n) = n := by
  unfold tn
  rw [nI_toInt h]
  omega
/-- the least of those that P has, B if there is none below it -/
def zLs (B : Nat) (P : Nat → Prop) (q : Nat) : Prop := q ≤ B ∧ (q < B → P q) ∧ ∀ n, P n → q ≤ n
theorem zLs_no {B : Nat} {P : Nat → Prop} (h : ∀ n, ¬ P n) : zLs B P B := ⟨Nat.le_refl _, fun q => absurd q (Nat.lt_irrefl _), fun n q => absurd q (h n)⟩
theorem zLs_0 {B : Nat} {P : Nat → Prop} (h : P 0) : zLs B P 0 := ⟨Nat.zero_le _, fun _ => h, fun _ _ => Nat.zero_le _⟩
def TD (B : Nat) (T : Nat → Nat → Nat → Nat → Nat) (a p s t n : Nat) : Prop := (a < 3 ∧ p < 32 ∧ s < 5 ∧ t < 5) ∧ n = T a p s t ∧ n < B
/-- an edge of a rule, its letter and ends told: its part costs n -/
def zSv (g : GG) (D : Nat → Nat → Nat → Nat → Nat → Prop) (a p s t n : Nat) : Prop := (a < 3 ∧ D a p s t n) ∨ (3 ≤ a ∧ n = 0 ∧ zEd g p a s t)
theorem zSl_sv {g : GG} {r : GR} {D : Nat → Nat → Nat → Nat → Nat → Prop} {j i : Nat} {d : Nat → Nat} {p n : Nat} (h : i < yS r j) : zSl g r D j i d p n ↔ ¬ p = 0 ∧ zSv g D (yL r j i) p (d (yF r j i)) (d (yT r j i)) n := by
  constructor
  · rintro (⟨a, -, -⟩ | ⟨-, b, c⟩)
    · omega
    · exact ⟨b, c⟩
  · rintro ⟨a, b⟩
    exact Or.inr ⟨h, a, b⟩
theorem zSl_no {g : GG} {r : GR} {D : Nat → Nat → Nat → Nat → Nat → Prop} {j i : Nat} {d : Nat → Nat} {p n : Nat} (h : ¬ i < yS r j) : zSl g r D j i d p n ↔ p = 0 ∧ n = 0 := by
  constructor
  · rintro (⟨-, b, c⟩ | ⟨a, -⟩)
    · exact ⟨b, c⟩
    · exact absurd a h
  · rintro ⟨a, b⟩
    exact Or.inl ⟨by omega, a, b⟩
theorem zEd_ne {g : GG} {a s t : Nat} : ¬ zEd g 0 a s t := by
  rintro ⟨i, -, h, -⟩
  have := Nat.two_pow_pos i
  omega
/-- a set dealt out to three slots, the cost of each told by Z -/
def zSp (Z : Nat → Nat → Nat → Prop) (S n : Nat) : Prop := ∃ p c : Nat → Nat, zTh S p ∧ (∀ i, i < 3 → Z i (p i) (c i)) ∧ n = c 0 + c 1 + c 2
/-- by a rule whose ends are told -/
def zBy (g : GG) (r : GR) (D : Nat → Nat → Nat → Nat → Nat → Prop) (j s t S n : Nat) : Prop := ∃ d, d 0 = s ∧ d 1 = t ∧ zSd (yW r j) (zN g) d ∧ zSp (fun i => zSl g r D j i d) S n
theorem zAp_by {g : GG} {r : GR} {D : Nat → Nat → Nat → Nat → Nat → Prop} {j : Nat} {d p c : Nat → Nat} {a S s t n : Nat} (h : zAp g r D j d p c a S s t n) : zBy g r D j s t S (c 0 + c 1 + c 2) ∧ n = 1 + (c 0 + c 1 + c 2) :=
  ⟨⟨d, h.2.2.1, h.2.2.2.1, h.2.2.2.2.1, p, c, h.2.2.2.2.2.1, h.2.2.2.2.2.2.1, rfl⟩, by have := h.2.2.2.2.2.2.2; omega⟩
theorem zBy_ap {g : GG} {r : GR} {D : Nat → Nat → Nat → Nat → Nat → Prop} {j S s t n : Nat} (hj : j < yM r) (h : zBy g r D j s t S n) : ∃ d p c, zAp g r D j d p c (yO r j) S s t (1 + n) := by
  obtain ⟨d, h1, h2, h3, p, c, h4, h5, h6⟩ := h
  exact ⟨d, p, c, hj, rfl, h1, h2, h3, h4, h5, by omega⟩
/-- slots by nodes that agree where they are used -/
theorem zSl_d {g : GG} {r : GR} {D : Nat → Nat → Nat → Nat → Nat → Prop} {j i : Nat} {d d2 : Nat → Nat} {p n : Nat} (hw : i < yS r j → yF r j i < yW r j ∧ yT r j i < yW r j) (hd : ∀ k, k < yW r j → d k = d2 k) (h : zSl g r D j i d p n) : zSl g r D j i d2 p n := by
  by_cases q : i < yS r j
  · rw [zSl_sv q] at h ⊢
    rw [← hd _ (hw q).1, ← hd _ (hw q).2]
    exact h
  · rw [zSl_no q] at h ⊢
    exact h
/-- smaller costs by a smaller table -/
theorem zSl_le {g : GG} {r : GR} {D D2 : Nat → Nat → Nat → Nat → Nat → Prop} {j i : Nat} {d : Nat → Nat} {p n : Nat} (hD : ∀ a s t m, a < 3 → D a p s t m → ∃ m2, m2 ≤ m ∧ D2 a p s t m2) (h : zSl g r D j i d p n) : ∃ n2, n2 ≤ n ∧ zSl g r D2 j i d p n2 := by
  rcases h with h | ⟨h1, h2, ⟨h3, h4⟩ | h3⟩
  · exact ⟨n, Nat.le_refl _, Or.inl h⟩
  · obtain ⟨m2, w1, w2⟩ := hD _ _ _ _ h3 h4
    exact ⟨m2, w1, Or.inr ⟨h1, h2, Or.inl ⟨h3, w2⟩⟩⟩
  · exact ⟨n, Nat.le_refl _, Or.inr ⟨h1, h2, Or.inr h3⟩⟩
theorem mn_ok {a b : Nat} (ha : a < 2147483648) (hb : b < 2147483648) : (if nI b < nI a then nI b else nI a) = nI (min a b) := by
  by_cases h : b < a
  · rw [if_pos (nI_lt h ha), Nat.min_eq_right (by omega)]
  · rw [if_neg (fun q => h (ltN ha hb q)), Nat.min_eq_left (by omega)]
theorem nI_sym {a b : Nat} (ha : a < 2147483648) (hb : b < 2147483648) (h : ¬ nI a = nI b) : ¬ a = b := fun q => h (by rw [q])
theorem tn_eq {x y : Int32} {a b : Nat} (hx : x = nI a) (hy : y = nI b) (ha : a < 2147483648) (hb : b < 2147483648) : x = y ↔ tn x = tn y := by
  rw [hx, hy, tn_nI ha, tn_nI hb, nI_eq ha hb]
/-- rows that hold numbers below 5 -/
theorem SDn_tn {n k : Nat} {s : Nat → Int32} (h : SDn n s) (hk : k < n) : s k = nI (tn (s k)) ∧ tn (s k) < 5 := by
  obtain ⟨w, hw, e⟩ := h k hk
  rw [e, tn_nI (by omega)]
  exact ⟨rfl, hw⟩
/-- the graph's rows hold numbers -/
def gC (n v : Nat) (g1 g2 g3 : Nat → Int32) : GG := (n, v, fun j => tn (g1 j), fun j => tn (g2 j), fun j => tn (g3 j))
def GI (n v : Nat) (g1 g2 g3 : Nat → Int32) : Prop := ∀ j, j < n → ∃ q a b, q < 5 ∧ a < v ∧ b < v ∧ g1 j = nI q ∧ g2 j = nI a ∧ g3 j = nI b
theorem GI_at {n v j : Nat} {g1 g2 g3 : Nat → Int32} (h : GI n v g1 g2 g3) (hv : v ≤ 5) (hj : j < n) : g1 j = nI (tn (g1 j)) ∧ g2 j = nI (tn (g2 j)) ∧ g3 j = nI (tn (g3 j)) ∧ tn (g1 j) < 5 ∧ tn (g2 j) < v ∧ tn (g3 j) < v := by
  obtain ⟨q, a, b, h1, h2, h3, e1, e2, e3⟩ := h j hj
  rw [e1, e2, e3, tn_nI (by omega), tn_nI (by omega), tn_nI (by omega)]
  exact ⟨rfl, rfl, rfl, h1, h2, h3⟩
theorem zNd_v {n v S x : Nat} {g1 g2 g3 : Nat → Int32} (h : GI n v g1 g2 g3) (hv : v ≤ 5) (q : zNd (gC n v g1 g2 g3) S x) : x < v := by
  obtain ⟨i, hi, -, e⟩ := q
  obtain ⟨-, -, -, -, a, b⟩ := GI_at h hv hi
  rcases e with e | e
  · have e : tn (g2 i) = x := e
    omega
  · have e : tn (g3 i) = x := e
    omega
/-- the masks of the nodes -/
def NDm (g2 g3 : Nat → Int32) (b : Nat → Bool) (n : Nat) : Nat := zMk (fun k => tn (g2 k)) (fun k => tn (g3 k)) b n
def bY (S : Nat) : Nat → Bool := fun i => S.testBit i
def bN (S : Nat) : Nat → Bool := fun i => !S.testBit i
theorem NDm_lt {n v : Nat} {g1 g2 g3 : Nat → Int32} {b : Nat → Bool} (h : GI n v g1 g2 g3) (hv : v ≤ 5) {i : Nat} (hi : i ≤ n) : NDm g2 g3 b i < 32 :=
  zMk_lt i (fun k hk => by
    obtain ⟨-, -, -, -, a, c⟩ := GI_at h hv (show k < n by omega)
    exact ⟨Nat.lt_of_lt_of_le a hv, Nat.lt_of_lt_of_le c hv⟩)
theorem NDm_y {n v S x : Nat} {g1 g2 g3 : Nat → Int32} : (NDm g2 g3 (bY S) n).testBit x = true ↔ zNd (gC n v g1 g2 g3) S x := zMk_bit x n
theorem NDm_n {n v S x : Nat} {g1 g2 g3 : Nat → Int32} : (NDm g2 g3 (bN S) n).testBit x = true ↔ zOd (gC n v g1 g2 g3) S x := by
  refine (zMk_bit x n).trans ?_
  constructor
  · rintro ⟨i, h1, h2, h3⟩
    have h2 : (!S.testBit i) = true := h2
    exact ⟨i, h1, by cases hb : S.testBit i with | true => rw [hb] at h2; exact absurd h2 (by decide) | false => rfl, h3⟩
  · rintro ⟨i, h1, h2, h3⟩
    exact ⟨i, h1, by show (!S.testBit i) = true; rw [h2]; rfl, h3⟩
theorem bY_ok {S : Nat} (hS : S < 32) : ∀ i, i < 5 → ((nI S >>> (nI i &&& 31)) &&& 1 = 0 ↔ bY S i = false) := fun i hi => (zm_bit hS hi).1
theorem bN_ok {S : Nat} (hS : S < 32) : ∀ i, i < 5 → (((nI S ^^^ (-1)) >>> (nI i &&& 31)) &&& 1 = 0 ↔ bN S i = false) := fun i hi => by
  rw [(zm_bit hS hi).2]
  show S.testBit i = true ↔ (!S.testBit i) = false
  cases S.testBit i <;> decide
theorem nd_nn {g2 g3 : Nat → Int32} {bb : Nat → Bool} {i : Nat} {p1 fo : Int32} (hb : (p1 >>> (nI i &&& 31)) &&& 1 = 0 ↔ bb i = false) (c : (p1 >>> (nI i &&& 31)) &&& 1 = 0) (h : fo = nI (NDm g2 g3 bb i)) : fo = nI (NDm g2 g3 bb (i + 1)) := by
  have e : NDm g2 g3 bb (i + 1) = NDm g2 g3 bb i := by
    show zMk _ _ bb (i + 1) = _
    rw [zMk, if_neg (by rw [hb.mp c]; decide)]
    rfl
  rw [e]
  exact h
theorem nd_yy {n v : Nat} {g1 g2 g3 : Nat → Int32} {bb : Nat → Bool} {i : Nat} {p1 fo : Int32} (hG : GI n v g1 g2 g3) (hv : v ≤ 5) (hi : i < n) (hb : (p1 >>> (nI i &&& 31)) &&& 1 = 0 ↔ bb i = false) (c : ¬ (p1 >>> (nI i &&& 31)) &&& 1 = 0) (h : fo = nI (NDm g2 g3 bb i)) : fo ||| (((1 : Int32) <<< (g2 i &&& 31)) ||| ((1 : Int32) <<< (g3 i &&& 31))) = nI (NDm g2 g3 bb (i + 1)) := by
  have hy : bb i = true := by
    cases e : bb i with
    | true => rfl
    | false => exact absurd (hb.mpr e) c
  have e : NDm g2 g3 bb (i + 1) = NDm g2 g3 bb i ||| (2 ^ tn (g2 i) ||| 2 ^ tn (g3 i)) := by
    show zMk _ _ bb (i + 1) = _
    rw [zMk, if_pos hy]
    rfl
  obtain ⟨-, e2, e3, -, l2, l3⟩ := GI_at hG hv hi
  rw [e, h]
  have w := (zm_or (NDm_lt (b := bb) hG hv (Nat.le_of_lt hi)) (Nat.lt_of_lt_of_le l2 hv) (Nat.lt_of_lt_of_le l3 hv)).1
  rw [← e2, ← e3] at w
  exact w
theorem tb_pair {s t v : Nat} : (2 ^ s ||| 2 ^ t).testBit v = true ↔ v = s ∨ v = t := by
  rw [Nat.testBit_or, Nat.testBit_two_pow, Nat.testBit_two_pow, Bool.or_eq_true, decide_eq_true_iff, decide_eq_true_iff]
  constructor
  · rintro (h | h)
    · exact Or.inl h.symm
    · exact Or.inr h.symm
  · rintro (h | h)
    · exact Or.inl h.symm
    · exact Or.inr h.symm
theorem tb_and {x y v : Nat} : (x &&& y).testBit v = true ↔ x.testBit v = true ∧ y.testBit v = true := by
  rw [Nat.testBit_and, Bool.and_eq_true]
theorem tb_or {x y v : Nat} : (x ||| y).testBit v = true ↔ x.testBit v = true ∨ y.testBit v = true := by
  rw [Nat.testBit_or, Bool.or_eq_true]
theorem ip_iff {n v b s t : Nat} {g1 g2 g3 : Nat → Int32} (hG : GI n v g1 g2 g3) (hv : v ≤ 5) (hs : s < 5) (ht : t < 5) : zP (gC n v g1 g2 g3) b s t ↔ ¬ nI s = nI t ∧ nI (NDm g2 g3 (bY b) n) &&& nI (2 ^ s ||| 2 ^ t) = nI (2 ^ s ||| 2 ^ t) ∧ (nI (NDm g2 g3 (bY b) n) &&& (nI (NDm g2 g3 (bN b) n) ||| 3)) &&& (nI (2 ^ s ||| 2 ^ t) ^^^ (-1)) = 0 := by
  have hI := NDm_lt (b := bY b) hG hv (Nat.le_refl n)
  have hO := NDm_lt (b := bN b) hG hv (Nat.le_refl n)
  have hP := (np_pair hs ht).2
  have e3 := np_or3 hO
  have eX := np_and hI e3.2
  rw [np_eq hI hP, e3.1, eX.1, (zm_sub hP eX.2).1, nI_eq (by omega) (by omega)]
  constructor
  · rintro ⟨h1, h2, h3, h4⟩
    refine ⟨h1, fun i hi q => ?_, fun i hi q => ?_⟩
    · rw [NDm_y (v := v) (g1 := g1)]
      rcases tb_pair.mp q with e | e <;> rw [e]
      · exact h2
      · exact h3
    · rw [tb_and, tb_or, NDm_y (v := v) (g1 := g1), NDm_n (v := v) (g1 := g1), np_3 hi] at q
      exact tb_pair.mpr (h4 i q.1 q.2)
  · rintro ⟨h1, h2, h3⟩
    refine ⟨h1, NDm_y.mp (h2 s hs (tb_pair.mpr (Or.inl rfl))), NDm_y.mp (h2 t ht (tb_pair.mpr (Or.inr rfl))), fun x q1 q2 => ?_⟩
    have hx : x < 5 := Nat.lt_of_lt_of_le (zNd_v hG hv q1) hv
    refine tb_pair.mp (h3 x hx ?_)
    rw [tb_and, tb_or, NDm_y (v := v) (g1 := g1), NDm_n (v := v) (g1 := g1), np_3 hx]
    exact ⟨q1, q2⟩
/-- the set is one edge -/
theorem pow_inj {i j : Nat} (h : 2 ^ i = 2 ^ j) : i = j := by
  rcases Nat.lt_trichotomy i j with q | q | q
  · have := Nat.pow_lt_pow_right (a := 2) (by decide) q
    omega
  · exact q
  · have := Nat.pow_lt_pow_right (a := 2) (by decide) q
    omega
theorem ie_sh {S i : Nat} (hS : S < 32) (hi : i ≤ 9) : nI S = (1 : Int32) <<< (nI i &&& 31) ↔ S = 2 ^ i := by
  have := pow_le9 hi
  rw [shl1 hi, nI_eq (by omega) (by omega)]
theorem ie_no {n v S a s t : Nat} {g1 g2 g3 : Nat → Int32} (h : ∀ j, j < n → ¬ S = 2 ^ j) : ¬ zEd (gC n v g1 g2 g3) S a s t := by
  rintro ⟨i, hi, e, -⟩
  exact h i hi e
theorem ie_iff {n v S a s t i : Nat} {g1 g2 g3 : Nat → Int32} (hG : GI n v g1 g2 g3) (hv : v ≤ 5) (ha : a < 100) (hs : s < 100) (ht : t < 100) (hi : i < n) (hS : S = 2 ^ i) : zEd (gC n v g1 g2 g3) S a s t ↔ g1 i = nI a ∧ g2 i = nI s ∧ g3 i = nI t := by
  obtain ⟨e1, e2, e3, l1, l2, l3⟩ := GI_at hG hv hi
  constructor
  · rintro ⟨j, hj, e, q1, q2, q3⟩
    have := pow_inj (hS.symm.trans e)
    subst this
    have q1 : tn (g1 i) = a := q1
    have q2 : tn (g2 i) = s := q2
    have q3 : tn (g3 i) = t := q3
    rw [← q1, ← q2, ← q3]
    exact ⟨e1, e2, e3⟩
  · rintro ⟨q1, q2, q3⟩
    refine ⟨i, hi, hS, ?_, ?_, ?_⟩
    · show tn (g1 i) = a
      rw [q1, tn_nI (by omega)]
    · show tn (g2 i) = s
      rw [q2, tn_nI (by omega)]
    · show tn (g3 i) = t
      rw [q3, tn_nI (by omega)]
end
section
/-! the class's search -/
abbrev zF9 : Nat := 536870912
def tbl (f : Nat → Int32) (a S s t : Nat) : Nat := tn (f ((((((a * 32) + S) * 5) + s) * 5) + t))
def TBI (f : Nat → Int32) : Prop := ∀ k, k < 2400 → ∃ q, q ≤ zF9 ∧ f k = nI q
theorem TBI_at {f : Nat → Int32} {k : Nat} (h : TBI f) (hk : k < 2400) : f k = nI (tn (f k)) ∧ tn (f k) ≤ zF9 := by
  obtain ⟨q, hq, e⟩ := h k hk
  have : q < 2147483648 := Nat.lt_of_le_of_lt hq (by decide)
  rw [e, tn_nI this]
  exact ⟨rfl, hq⟩
/-- the rule at hand, as its rows tell it -/
def RJ (gr : GR) (j : Nat) (en ev : Int32) (x2 x3 x4 : Nat → Int32) : Prop := en = nI (yS gr j) ∧ ev = nI (yW gr j) ∧ 1 ≤ yS gr j ∧ yS gr j ≤ 3 ∧ 2 ≤ yW gr j ∧ yW gr j ≤ 4 ∧ (∀ i, i < 3 → x4 i = nI (if i < yS gr j then yL gr j i else 5)) ∧ ∀ i, i < yS gr j → yL gr j i < 5 ∧ yF gr j i < yW gr j ∧ yT gr j i < yW gr j ∧ x2 i = nI (yF gr j i) ∧ x3 i = nI (yT gr j i)
theorem RJ_5 {gr : GR} {j : Nat} {en ev : Int32} {x2 x3 x4 : Nat → Int32} (h : RJ gr j en ev x2 x3 x4) {i : Nat} (hi : i < 3) : x4 i = 5 ↔ ¬ i < yS gr j := by
  obtain ⟨-, -, h1, h3, -, -, h7, h8⟩ := h
  rw [h7 i hi]
  by_cases q : i < yS gr j
  · have := (h8 i q).1
    rw [if_pos q, show (5 : Int32) = nI 5 from rfl, nI_eq (by omega) (by decide)]
    omega
  · rw [if_neg q]
    exact ⟨fun _ => q, fun _ => rfl⟩
theorem RJ_l {gr : GR} {j : Nat} {en ev : Int32} {x2 x3 x4 : Nat → Int32} (h : RJ gr j en ev x2 x3 x4) {i : Nat} (hi : i < 3) (c : ¬ x4 i = 5) : i < yS gr j ∧ x4 i = nI (yL gr j i) ∧ yL gr j i < 5 ∧ yF gr j i < 4 ∧ yT gr j i < 4 ∧ x2 i = nI (yF gr j i) ∧ x3 i = nI (yT gr j i) := by
  have hl : i < yS gr j := by
    apply Classical.byContradiction
    intro q
    exact c ((RJ_5 h hi).mpr q)
  obtain ⟨-, -, h1, h3, h4, h5, h7, h8⟩ := h
  have e := h7 i hi
  rw [if_pos hl] at e
  obtain ⟨a1, a2, a3, a4, a5⟩ := h8 i hl
  exact ⟨hl, e, a1, by omega, by omega, a4, a5⟩
theorem opn_k {k : Nat} (hk : k < 100) : opn (nI k) = 0 ↔ 3 ≤ k := by
  unfold opn
  rw [if_neg (nI_pos (by omega))]
  by_cases q : 3 ≤ nI k
  · rw [if_pos q]
    exact ⟨fun _ => leN (a := 3) (by omega) (by decide) q, fun _ => rfl⟩
  · rw [if_neg q]
    exact ⟨fun w => absurd w (by decide), fun w => absurd (nI_le (a := 3) w (by omega)) q⟩
theorem sl_a {g : GG} {gr : GR} {D : Nat → Nat → Nat → Nat → Nat → Prop} {j i : Nat} {d : Nat → Nat} (h : ¬ i < yS gr j) : zLs zF9 (zSl g gr D j i d 0) 0 := zLs_0 ((zSl_no h).mpr ⟨rfl, rfl⟩)
theorem sl_b {g : GG} {gr : GR} {D : Nat → Nat → Nat → Nat → Nat → Prop} {j i p : Nat} {d : Nat → Nat} (h : ¬ i < yS gr j) (hp : ¬ p = 0) : zLs zF9 (zSl g gr D j i d p) zF9 := zLs_no (fun n q => hp ((zSl_no h).mp q).1)
theorem sl_c {g : GG} {gr : GR} {D : Nat → Nat → Nat → Nat → Nat → Prop} {j i : Nat} {d : Nat → Nat} (h : i < yS gr j) : zLs zF9 (zSl g gr D j i d 0) zF9 := zLs_no (fun n q => ((zSl_sv h).mp q).1 rfl)
theorem sl_d {g : GG} {gr : GR} {f : Nat → Int32} {j i p : Nat} {d : Nat → Nat} (h : i < yS gr j) (hp : ¬ p = 0) (hp2 : p < 32) (hs : d (yF gr j i) < 5) (ht : d (yT gr j i) < 5) (hl : yL gr j i < 3) (hk : tbl f (yL gr j i) p (d (yF gr j i)) (d (yT gr j i)) ≤ zF9) : zLs zF9 (zSl g gr (TD zF9 (tbl f)) j i d p) (tbl f (yL gr j i) p (d (yF gr j i)) (d (yT gr j i))) :=
  ⟨hk, fun q => (zSl_sv h).mpr ⟨hp, Or.inl ⟨hl, ⟨hl, hp2, hs, ht⟩, rfl, q⟩⟩, fun n q => by
    rcases ((zSl_sv h).mp q).2 with ⟨-, -, w, -⟩ | ⟨w, -⟩
    · exact Nat.le_of_eq w.symm
    · omega⟩
theorem sl_e {g : GG} {gr : GR} {D : Nat → Nat → Nat → Nat → Nat → Prop} {j i p : Nat} {d : Nat → Nat} (h : i < yS gr j) (hp : ¬ p = 0) (hl : 3 ≤ yL gr j i) (he : zEd g p (yL gr j i) (d (yF gr j i)) (d (yT gr j i))) : zLs zF9 (zSl g gr D j i d p) 0 := zLs_0 ((zSl_sv h).mpr ⟨hp, Or.inr ⟨hl, rfl, he⟩⟩)
theorem sl_f {g : GG} {gr : GR} {D : Nat → Nat → Nat → Nat → Nat → Prop} {j i p : Nat} {d : Nat → Nat} (h : i < yS gr j) (hl : 3 ≤ yL gr j i) (he : ¬ zEd g p (yL gr j i) (d (yF gr j i)) (d (yT gr j i))) : zLs zF9 (zSl g gr D j i d p) zF9 := zLs_no (fun n q => by
  rcases ((zSl_sv h).mp q).2 with ⟨w, -⟩ | ⟨-, -, w⟩
  · omega
  · exact he w)
/-- all ways of dealing out with the first part below on, and with on and the second below tw -/
def zSpI (Z : Nat → Nat → Nat → Prop) (S on l : Nat) : Prop := l ≤ zF9 ∧ (l < zF9 → zSp Z S l) ∧ ∀ p c : Nat → Nat, zTh S p → (∀ i, i < 3 → Z i (p i) (c i)) → p 0 < on → l ≤ c 0 + c 1 + c 2
def zSpJ (Z : Nat → Nat → Nat → Prop) (S on tw l : Nat) : Prop := l ≤ zF9 ∧ (l < zF9 → zSp Z S l) ∧ ∀ p c : Nat → Nat, zTh S p → (∀ i, i < 3 → Z i (p i) (c i)) → (p 0 < on ∨ (p 0 = on ∧ p 1 < tw)) → l ≤ c 0 + c 1 + c 2
theorem zSpI_0 {Z : Nat → Nat → Nat → Prop} {S : Nat} (h0 : ∀ n, ¬ Z 0 0 n) : zSpI Z S 1 zF9 := ⟨Nat.le_refl _, fun q => absurd q (Nat.lt_irrefl _), fun p c _ h2 h3 => by
  have e : p 0 = 0 := by omega
  have w := h2 0 (by decide)
  rw [e] at w
  exact absurd w (h0 _)⟩
theorem zSpI_k {Z : Nat → Nat → Nat → Prop} {S on l : Nat} (hS : S < 32) (hn : ¬ SB on S) (h : zSpI Z S on l) : zSpI Z S (on + 1) l := ⟨h.1, h.2.1, fun p c h1 h2 h3 => by
  rcases (show p 0 < on ∨ p 0 = on by omega) with q | q
  · exact h.2.2 p c h1 h2 q
  · have := (zTh_sb hS h1).2.2.2.1
    rw [q] at this
    exact absurd this hn⟩
theorem zSpI_g {Z : Nat → Nat → Nat → Prop} {S on l f : Nat} (hf : zLs zF9 (Z 0 on) f) (hl : l ≤ f) (h : zSpI Z S on l) : zSpI Z S (on + 1) l := ⟨h.1, h.2.1, fun p c h1 h2 h3 => by
  rcases (show p 0 < on ∨ p 0 = on by omega) with q | q
  · exact h.2.2 p c h1 h2 q
  · have w := h2 0 (by decide)
    rw [q] at w
    have := hf.2.2 _ w
    omega⟩
theorem zSpJ_0 {Z : Nat → Nat → Nat → Prop} {S on l : Nat} (h : zSpI Z S on l) : zSpJ Z S on 0 l := ⟨h.1, h.2.1, fun p c h1 h2 h3 => h.2.2 p c h1 h2 (by omega)⟩
theorem zSpJ_k {Z : Nat → Nat → Nat → Prop} {S on tw l : Nat} (hS : S < 32) (hn : ¬ SB tw (S - on)) (h : zSpJ Z S on tw l) : zSpJ Z S on (tw + 1) l := ⟨h.1, h.2.1, fun p c h1 h2 h3 => by
  rcases (show (p 0 < on ∨ (p 0 = on ∧ p 1 < tw)) ∨ (p 0 = on ∧ p 1 = tw) by omega) with q | ⟨q1, q2⟩
  · exact h.2.2 p c h1 h2 q
  · have := (zTh_sb hS h1).2.2.2.2.1
    rw [q1, q2] at this
    exact absurd this hn⟩
theorem zSpJ_s {Z : Nat → Nat → Nat → Prop} {S on tw l f x y : Nat} (hS : S < 32) (ho : SB on S) (ho2 : on < 32) (ht : SB tw (S - on)) (ht2 : tw < 32) (hf : zLs zF9 (Z 0 on) f) (hx : zLs zF9 (Z 1 tw) x) (hy : zLs zF9 (Z 2 (S - on - tw)) y) (h : zSpJ Z S on tw l) : zSpJ Z S on (tw + 1) (min l (f + (x + y))) := by
  have hl := h.1
  refine ⟨Nat.le_trans (Nat.min_le_left _ _) hl, fun q => ?_, fun p c h1 h2 h3 => ?_⟩
  · by_cases w : l ≤ f + (x + y)
    · rw [Nat.min_eq_left w] at q ⊢
      exact h.2.1 q
    · rw [Nat.min_eq_right (by omega)]
      refine ⟨p3 on tw (S - on - tw), p3 f x y, (zTh_mk hS ho ho2 ht ht2).1, fun i hi => ?_, by show f + (x + y) = f + x + y; omega⟩
      rcases (show i = 0 ∨ i = 1 ∨ i = 2 by omega) with e | e | e
      · subst e; exact hf.2.1 (by omega)
      · subst e; exact hx.2.1 (by omega)
      · subst e; exact hy.2.1 (by omega)
  · rcases (show (p 0 < on ∨ (p 0 = on ∧ p 1 < tw)) ∨ (p 0 = on ∧ p 1 = tw) by omega) with q | ⟨q1, q2⟩
    · exact Nat.le_trans (Nat.min_le_left _ _) (h.2.2 p c h1 h2 q)
    · refine Nat.le_trans (Nat.min_le_right _ _) ?_
      have q3 := (zTh_sb hS h1).2.2.2.2.2.1
      have w0 := h2 0 (by decide)
      have w1 := h2 1 (by decide)
      have w2 := h2 2 (by decide)
      rw [q3, q1, q2] at w2
      rw [q1] at w0
      rw [q2] at w1
      have := hf.2.2 _ w0
      have := hx.2.2 _ w1
      have := hy.2.2 _ w2
      omega
theorem zSpJ_e {Z : Nat → Nat → Nat → Prop} {S on tw l : Nat} (hS : S < 32) (ht : S - on < tw) (h : zSpJ Z S on tw l) : zSpI Z S (on + 1) l := ⟨h.1, h.2.1, fun p c h1 h2 h3 => by
  have q := (zTh_sb hS h1).2.2.2.2.2.2.1
  refine h.2.2 p c h1 h2 ?_
  rcases (show p 0 < on ∨ p 0 = on by omega) with w | w
  · exact Or.inl w
  · exact Or.inr ⟨w, by rw [w] at q; omega⟩⟩
theorem zSpI_e {Z : Nat → Nat → Nat → Prop} {S on l : Nat} (ho : S < on) (h : zSpI Z S on l) : zLs zF9 (zSp Z S) l := ⟨h.1, h.2.1, fun n q => by
  obtain ⟨p, c, h1, h2, h3⟩ := q
  have := h1.1
  have := h.2.2 p c h1 h2 (by omega)
  omega⟩
/-- the inner nodes in every way -/
def dky (d : Nat → Nat) (w k : Nat) : Nat := if k < w then d k else 0
def zByI (g : GG) (r : GR) (D : Nat → Nat → Nat → Nat → Nat → Prop) (j s t S i l : Nat) : Prop := l ≤ zF9 ∧ (l < zF9 → zBy g r D j s t S l) ∧ ∀ d n, d 0 = s → d 1 = t → zSd (yW r j) (zN g) d → dky d (yW r j) 2 < i → zSp (fun i => zSl g r D j i d) S n → l ≤ n
def zByJ (g : GG) (r : GR) (D : Nat → Nat → Nat → Nat → Nat → Prop) (j s t S i k l : Nat) : Prop := l ≤ zF9 ∧ (l < zF9 → zBy g r D j s t S l) ∧ ∀ d n, d 0 = s → d 1 = t → zSd (yW r j) (zN g) d → (dky d (yW r j) 2 < i ∨ (dky d (yW r j) 2 = i ∧ dky d (yW r j) 3 < k)) → zSp (fun i => zSl g r D j i d) S n → l ≤ n
theorem zByI_0 {g : GG} {r : GR} {D : Nat → Nat → Nat → Nat → Nat → Prop} {j s t S : Nat} : zByI g r D j s t S 0 zF9 := ⟨Nat.le_refl _, fun q => absurd q (Nat.lt_irrefl _), fun d n _ _ _ q => absurd q (Nat.not_lt_zero _)⟩
theorem zByJ_0 {g : GG} {r : GR} {D : Nat → Nat → Nat → Nat → Nat → Prop} {j s t S i l : Nat} (h : zByI g r D j s t S i l) : zByJ g r D j s t S i 0 l := ⟨h.1, h.2.1, fun d n h1 h2 h3 h4 h5 => h.2.2 d n h1 h2 h3 (by omega) h5⟩
theorem dky_lt {w v k x : Nat} {d : Nat → Nat} (hk : 2 ≤ k) (h : zSd w v d) (hx : (k < w ∧ x = v) ∨ (w ≤ k ∧ x = 1)) : dky d w k < x := by
  unfold dky
  rcases hx with ⟨h1, h2⟩ | ⟨h1, h2⟩
  · rw [if_pos h1, h2]
    exact (h k hk h1).1
  · rw [if_neg (by omega), h2]
    decide
theorem zByJ_e {g : GG} {r : GR} {D : Nat → Nat → Nat → Nat → Nat → Prop} {j s t S i k l x : Nat} (hx : (3 < yW r j ∧ x = zN g) ∨ (yW r j ≤ 3 ∧ x = 1)) (hk : k = x) (h : zByJ g r D j s t S i k l) : zByI g r D j s t S (i + 1) l := ⟨h.1, h.2.1, fun d n h1 h2 h3 h4 h5 => h.2.2 d n h1 h2 h3 (by
  have := dky_lt (k := 3) (by decide) h3 hx
  omega) h5⟩
theorem zByI_e {g : GG} {r : GR} {D : Nat → Nat → Nat → Nat → Nat → Prop} {j s t S i l x : Nat} (hx : (2 < yW r j ∧ x = zN g) ∨ (yW r j ≤ 2 ∧ x = 1)) (hi : i = x) (h : zByI g r D j s t S i l) : zLs zF9 (zBy g r D j s t S) l := ⟨h.1, h.2.1, fun n q => by
  obtain ⟨d, h1, h2, h3, h4⟩ := q
  exact h.2.2 d n h1 h2 h3 (by rw [hi]; exact dky_lt (k := 2) (by decide) h3 hx) h4⟩
/-- what standsApart asks -/
def sAp (w : Nat) (sd : Nat → Int32) : Prop := (nI w < 3 ∨ (¬ sd 2 = sd 0 ∧ ¬ sd 2 = sd 1)) ∧ (nI w < 4 ∨ (¬ sd 3 = sd 0 ∧ ¬ sd 3 = sd 1 ∧ ¬ sd 3 = sd 2))
theorem sAp_d {w v s t i k x y : Nat} {sd : Nat → Int32} (hw : w ≤ 4) (hw2 : 2 ≤ w) (hv : v ≤ 5) (hs : s < 5) (ht : t < 5) (e0 : sd 0 = nI s) (e1 : sd 1 = nI t) (e2 : sd 2 = nI i) (e3 : sd 3 = nI k) (hi : i < x) (hk : k < y) (hx : (2 < w ∧ x = v) ∨ (w ≤ 2 ∧ x = 1)) (hy : (3 < w ∧ y = v) ∨ (w ≤ 3 ∧ y = 1)) : sAp w sd ↔ zSd w v (fun k => tn (sd k)) := by
  unfold sAp
  rw [e0, e1, e2, e3, show (3 : Int32) = nI 3 from rfl, show (4 : Int32) = nI 4 from rfl, nI_ltI (by omega) (by decide), nI_ltI (by omega) (by decide), nI_eq (by omega) (by omega), nI_eq (by omega) (by omega), nI_eq (by omega) (by omega), nI_eq (by omega) (by omega), nI_eq (by omega) (by omega)]
  have t0 : tn (sd 0) = s := by rw [e0, tn_nI (by omega)]
  have t1 : tn (sd 1) = t := by rw [e1, tn_nI (by omega)]
  have t2 : tn (sd 2) = i := by rw [e2, tn_nI (by omega)]
  have t3 : tn (sd 3) = k := by rw [e3, tn_nI (by omega)]
  constructor
  · rintro ⟨h2, h3⟩ m hm1 hm2
    rcases (show m = 2 ∨ m = 3 by omega) with e | e
    · subst e
      show tn (sd 2) < v ∧ ∀ z, z < 2 → ¬ tn (sd 2) = tn (sd z)
      rw [t2]
      refine ⟨by omega, fun z hz => ?_⟩
      rcases (show z = 0 ∨ z = 1 by omega) with e | e <;> subst e
      · rw [t0]; omega
      · rw [t1]; omega
    · subst e
      show tn (sd 3) < v ∧ ∀ z, z < 3 → ¬ tn (sd 3) = tn (sd z)
      rw [t3]
      refine ⟨by omega, fun z hz => ?_⟩
      rcases (show z = 0 ∨ z = 1 ∨ z = 2 by omega) with e | e | e <;> subst e
      · rw [t0]; omega
      · rw [t1]; omega
      · rw [t2]; omega
  · intro h
    constructor
    · by_cases q : w < 3
      · exact Or.inl q
      · have h2 := (h 2 (by decide) (by omega)).2
        have a0 : ¬ tn (sd 2) = tn (sd 0) := h2 0 (by decide)
        have a1 : ¬ tn (sd 2) = tn (sd 1) := h2 1 (by decide)
        rw [t2, t0] at a0
        rw [t2, t1] at a1
        exact Or.inr ⟨a0, a1⟩
    · by_cases q : w < 4
      · exact Or.inl q
      · have h3 := (h 3 (by decide) (by omega)).2
        have a0 : ¬ tn (sd 3) = tn (sd 0) := h3 0 (by decide)
        have a1 : ¬ tn (sd 3) = tn (sd 1) := h3 1 (by decide)
        have a2 : ¬ tn (sd 3) = tn (sd 2) := h3 2 (by decide)
        rw [t3, t0] at a0
        rw [t3, t1] at a1
        rw [t3, t2] at a2
        exact Or.inr ⟨a0, a1, a2⟩
/-- nodes d of which the stand at hand is the picture -/
theorem dky_eq {w s t i k : Nat} {sd : Nat → Int32} {d : Nat → Nat} (hw : w ≤ 4) (t0 : tn (sd 0) = s) (t1 : tn (sd 1) = t) (t2 : tn (sd 2) = i) (t3 : tn (sd 3) = k) (h0 : d 0 = s) (h1 : d 1 = t) (h2 : dky d w 2 = i) (h3 : dky d w 3 = k) : ∀ m, m < w → tn (sd m) = d m := fun m hm => by
  unfold dky at h2 h3
  rcases (show m = 0 ∨ m = 1 ∨ m = 2 ∨ m = 3 by omega) with e | e | e | e <;> subst e
  · rw [t0, h0]
  · rw [t1, h1]
  · rw [if_pos hm] at h2; rw [t2, h2]
  · rw [if_pos hm] at h3; rw [t3, h3]
theorem zSp_d {g : GG} {r : GR} {D : Nat → Nat → Nat → Nat → Nat → Prop} {j S n : Nat} {d d2 : Nat → Nat} (hw : ∀ i, i < yS r j → yF r j i < yW r j ∧ yT r j i < yW r j) (hd : ∀ k, k < yW r j → d k = d2 k) (h : zSp (fun i => zSl g r D j i d) S n) : zSp (fun i => zSl g r D j i d2) S n := by
  obtain ⟨p, c, h1, h2, h3⟩ := h
  exact ⟨p, c, h1, fun i hi => zSl_d (hw i) hd (h2 i hi), h3⟩
theorem zSd_d {w v : Nat} {d d2 : Nat → Nat} (hd : ∀ k, k < w → d k = d2 k) (h : zSd w v d) : zSd w v d2 := fun k h1 h2 => by
  obtain ⟨a, b⟩ := h k h1 h2
  rw [← hd k h2]
  exact ⟨a, fun i hi => by rw [← hd i (by omega)]; exact b i hi⟩
theorem zByJ_y {g : GG} {r : GR} {D : Nat → Nat → Nat → Nat → Nat → Prop} {j s t S i k l q : Nat} {sd : Nat → Int32} (hw4 : yW r j ≤ 4) (hw : ∀ i, i < yS r j → yF r j i < yW r j ∧ yT r j i < yW r j) (t0 : tn (sd 0) = s) (t1 : tn (sd 1) = t) (t2 : tn (sd 2) = i) (t3 : tn (sd 3) = k) (hA : zSd (yW r j) (zN g) (fun k => tn (sd k))) (hq : zLs zF9 (zSp (fun i => zSl g r D j i (fun k => tn (sd k))) S) q) (h : zByJ g r D j s t S i k l) : zByJ g r D j s t S i (k + 1) (min l q) := by
  refine ⟨Nat.le_trans (Nat.min_le_left _ _) h.1, fun w => ?_, fun d n h1 h2 h3 h4 h5 => ?_⟩
  · by_cases z : l ≤ q
    · rw [Nat.min_eq_left z] at w ⊢
      exact h.2.1 w
    · rw [Nat.min_eq_right (by omega)] at w ⊢
      exact ⟨_, t0, t1, hA, hq.2.1 w⟩
  · rcases (show (dky d (yW r j) 2 < i ∨ (dky d (yW r j) 2 = i ∧ dky d (yW r j) 3 < k)) ∨ (dky d (yW r j) 2 = i ∧ dky d (yW r j) 3 = k) by omega) with z | ⟨z1, z2⟩
    · exact Nat.le_trans (Nat.min_le_left _ _) (h.2.2 d n h1 h2 h3 z h5)
    · refine Nat.le_trans (Nat.min_le_right _ _) (hq.2.2 n (zSp_d hw (fun m hm => ?_) h5))
      exact (dky_eq hw4 t0 t1 t2 t3 h1 h2 z1 z2 m hm).symm
theorem zByJ_n {g : GG} {r : GR} {D : Nat → Nat → Nat → Nat → Nat → Prop} {j s t S i k l : Nat} {sd : Nat → Int32} (hw4 : yW r j ≤ 4) (t0 : tn (sd 0) = s) (t1 : tn (sd 1) = t) (t2 : tn (sd 2) = i) (t3 : tn (sd 3) = k) (hA : ¬ zSd (yW r j) (zN g) (fun k => tn (sd k))) (h : zByJ g r D j s t S i k l) : zByJ g r D j s t S i (k + 1) l := by
  refine ⟨h.1, h.2.1, fun d n h1 h2 h3 h4 h5 => ?_⟩
  rcases (show (dky d (yW r j) 2 < i ∨ (dky d (yW r j) 2 = i ∧ dky d (yW r j) 3 < k)) ∨ (dky d (yW r j) 2 = i ∧ dky d (yW r j) 3 = k) by omega) with z | ⟨z1, z2⟩
  · exact h.2.2 d n h1 h2 h3 z h5
  · exact absurd (zSd_d (fun m hm => (dky_eq hw4 t0 t1 t2 t3 h1 h2 z1 z2 m hm).symm) h3) hA
/-- what the table says is so -/
def zSo (g : GG) (r : GR) (T : Nat → Nat → Nat → Nat → Nat) : Prop := ∀ a S s t, a < 3 → S < 32 → s < 5 → t < 5 → T a S s t < zF9 → ∃ k, zC g r k a S s t (T a S s t)
/-- one call of improve, as far as it is -/
def IMI (g : GG) (r : GR) (f0 f : Nat → Int32) (b m so ta i : Nat) : Prop := TBI f ∧ (∀ k, tn (f k) ≤ tn (f0 k)) ∧ (∀ a S s t, a < 3 → S < 32 → s < 5 → t < 5 → ¬ S = b → tbl f a S s t = tbl f0 a S s t) ∧ zSo g r (tbl f) ∧ ∀ j d p c a s t n, zP g b s t → yS r j ≤ m → zAp g r (TD zF9 (tbl f0)) j d p c a b s t n → (s < so ∨ (s = so ∧ (t < ta ∨ (t = ta ∧ j < i)))) → tbl f a b s t ≤ n
theorem IMI_0 {g : GG} {r : GR} {f : Nat → Int32} {b m : Nat} (h1 : TBI f) (h2 : zSo g r (tbl f)) : IMI g r f f b m 0 0 0 := ⟨h1, fun _ => Nat.le_refl _, fun _ _ _ _ _ _ _ _ _ => rfl, h2, fun j d p c a s t n _ _ _ q => by omega⟩
theorem zC_3 {g : GG} {r : GR} {D : Nat → Nat → Nat → Nat → Nat → Prop} {j S : Nat} {d p c : Nat → Nat} {a s t n : Nat} (hP : zP g S s t) (h : zAp g r D j d p c a S s t n) (hD : ∀ i a s t m, i < 3 → D a (p i) s t m → ∃ k, zC g r k a (p i) s t m) : ∃ k, zC g r k a S s t n := by
  have hs : ∀ i, i < 3 → ∃ k, zSl g r (zC g r k) j i d (p i) (c i) := fun i hi => by
    rcases h.2.2.2.2.2.2.1 i hi with w | ⟨w1, w2, ⟨w3, w4⟩ | w3⟩
    · exact ⟨0, Or.inl w⟩
    · obtain ⟨k, hk⟩ := hD i _ _ _ _ hi w4
      exact ⟨k, Or.inr ⟨w1, w2, Or.inl ⟨w3, hk⟩⟩⟩
    · exact ⟨0, Or.inr ⟨w1, w2, Or.inr w3⟩⟩
  obtain ⟨k0, e0⟩ := hs 0 (by decide)
  obtain ⟨k1, e1⟩ := hs 1 (by decide)
  obtain ⟨k2, e2⟩ := hs 2 (by decide)
  refine ⟨k0 + k1 + k2 + 1, hP, j, d, p, c, h.1, h.2.1, h.2.2.1, h.2.2.2.1, h.2.2.2.2.1, h.2.2.2.2.2.1, fun i hi => ?_, h.2.2.2.2.2.2.2⟩
  rcases (show i = 0 ∨ i = 1 ∨ i = 2 by omega) with e | e | e
  · subst e
    exact zSl_mono (fun _ _ _ _ _ q => by rw [show k0 + k1 + k2 = k0 + (k1 + k2) by omega]; exact zC_m q _) e0
  · subst e
    exact zSl_mono (fun _ _ _ _ _ q => by rw [show k0 + k1 + k2 = k1 + (k0 + k2) by omega]; exact zC_m q _) e1
  · subst e
    exact zSl_mono (fun _ _ _ _ _ q => by rw [show k0 + k1 + k2 = k2 + (k0 + k1) by omega]; exact zC_m q _) e2
/-- a smaller table, smaller costs -/
theorem zAp_le {g : GG} {r : GR} {D D2 : Nat → Nat → Nat → Nat → Nat → Prop} {j S : Nat} {d p c : Nat → Nat} {a s t n : Nat} (h : zAp g r D j d p c a S s t n) (hD : ∀ i a s t m, i < 3 → a < 3 → D a (p i) s t m → ∃ m2, m2 ≤ m ∧ D2 a (p i) s t m2) : ∃ c2 n2, n2 ≤ n ∧ zAp g r D2 j d p c2 a S s t n2 := by
  have hs : ∀ i, i < 3 → ∃ n2, n2 ≤ c i ∧ zSl g r D2 j i d (p i) n2 := fun i hi => zSl_le (fun a s t m ha q => hD i a s t m hi ha q) (h.2.2.2.2.2.2.1 i hi)
  obtain ⟨n0, a0, b0⟩ := hs 0 (by decide)
  obtain ⟨n1, a1, b1⟩ := hs 1 (by decide)
  obtain ⟨n2, a2, b2⟩ := hs 2 (by decide)
  refine ⟨p3 n0 n1 n2, 1 + n0 + n1 + n2, by have := h.2.2.2.2.2.2.2; omega, h.1, h.2.1, h.2.2.1, h.2.2.2.1, h.2.2.2.2.1, h.2.2.2.2.2.1, fun i hi => ?_, rfl⟩
  rcases (show i = 0 ∨ i = 1 ∨ i = 2 by omega) with e | e | e <;> subst e
  · exact b0
  · exact b1
  · exact b2
theorem TD_le {f f0 : Nat → Int32} (h : ∀ k, tn (f k) ≤ tn (f0 k)) {a p s t m : Nat} (q : TD zF9 (tbl f0) a p s t m) : ∃ m2, m2 ≤ m ∧ TD zF9 (tbl f) a p s t m2 := by
  obtain ⟨q0, q1, q2⟩ := q
  have w : tbl f a p s t ≤ tbl f0 a p s t := h _
  exact ⟨tbl f a p s t, by omega, q0, rfl, by omega⟩
theorem IMI_n {g : GG} {r : GR} {f0 f : Nat → Int32} {b m so ta i q : Nat} (hq : zLs zF9 (zBy g r (TD zF9 (tbl f)) i so ta b) q) (c : tbl f (yO r i) b so ta ≤ 1 + q) (h : IMI g r f0 f b m so ta i) : IMI g r f0 f b m so ta (i + 1) := by
  obtain ⟨h1, h2, h3, h4, h5⟩ := h
  refine ⟨h1, h2, h3, h4, fun j d p c' a s t n w1 w2 w3 w4 => ?_⟩
  rcases (show (s < so ∨ (s = so ∧ (t < ta ∨ (t = ta ∧ j < i)))) ∨ (s = so ∧ t = ta ∧ j = i) by omega) with z | ⟨z1, z2, z3⟩
  · exact h5 j d p c' a s t n w1 w2 w3 z
  · subst z1 z2 z3
    obtain ⟨c2, n2, e1, e2⟩ := zAp_le w3 (fun i a s t m _ _ q => TD_le h2 q)
    obtain ⟨e3, e4⟩ := zAp_by e2
    have := hq.2.2 _ e3
    rw [← w3.2.1]
    omega
theorem tb_ix {a S s t a2 S2 s2 t2 : Nat} (h1 : s < 5) (h2 : t < 5) (h3 : s2 < 5) (h4 : t2 < 5) (hS : S < 32) (hS2 : S2 < 32) (e : (((((a * 32) + S) * 5) + s) * 5) + t = (((((a2 * 32) + S2) * 5) + s2) * 5) + t2) : a = a2 ∧ S = S2 ∧ s = s2 ∧ t = t2 := by omega
theorem IMI_y {g : GG} {r : GR} {f0 f : Nat → Int32} {b m so ta i q : Nat} (hi : i < yM r) (ho : yO r i < 3) (hb : b < 32) (hso : so < 5) (hta : ta < 5) (hP : zP g b so ta) (hq : zLs zF9 (zBy g r (TD zF9 (tbl f)) i so ta b) q) (c : 1 + q < tbl f (yO r i) b so ta) (h : IMI g r f0 f b m so ta i) : IMI g r f0 (upd f ((((((yO r i * 32) + b) * 5) + so) * 5) + ta) (nI (1 + q))) b m so ta (i + 1) := by
  obtain ⟨h1, h2, h3, h4, h5⟩ := h
  have hF : tbl f (yO r i) b so ta ≤ zF9 := (TBI_at h1 (by omega)).2
  have hF9 : zF9 = 536870912 := rfl
  have hfall : ∀ k, tn (upd f ((((((yO r i * 32) + b) * 5) + so) * 5) + ta) (nI (1 + q)) k) ≤ tn (f k) := fun k => by
    by_cases e : k = (((((yO r i * 32) + b) * 5) + so) * 5) + ta
    · subst e
      rw [pk_us, tn_nI (by omega)]
      exact Nat.le_of_lt c
    · rw [pk_un e]
      exact Nat.le_refl _
  have hkeep : ∀ a S s t, S < 32 → s < 5 → t < 5 → ¬ (a = yO r i ∧ S = b ∧ s = so ∧ t = ta) → tbl (upd f ((((((yO r i * 32) + b) * 5) + so) * 5) + ta) (nI (1 + q))) a S s t = tbl f a S s t := fun a S s t w1 w2 w3 w4 => by
    unfold tbl
    rw [pk_un (fun e => w4 (tb_ix w2 w3 hso hta w1 hb e))]
  have hnew : tbl (upd f ((((((yO r i * 32) + b) * 5) + so) * 5) + ta) (nI (1 + q))) (yO r i) b so ta = 1 + q := by
    unfold tbl
    rw [pk_us, tn_nI (by omega)]
  refine ⟨fun k hk => ?_, fun k => Nat.le_trans (hfall k) (h2 k), fun a S s t w1 w2 w3 w4 w5 => ?_, fun a S s t w1 w2 w3 w4 w5 => ?_, fun j d p c' a s t n w1 w2 w3 w4 => ?_⟩
  · by_cases e : k = (((((yO r i * 32) + b) * 5) + so) * 5) + ta
    · subst e
      exact ⟨1 + q, by omega, pk_us⟩
    · rw [pk_un e]
      exact h1 k hk
  · rw [hkeep a S s t w2 w3 w4 (fun e => w5 e.2.1)]
    exact h3 a S s t w1 w2 w3 w4 w5
  · by_cases e : a = yO r i ∧ S = b ∧ s = so ∧ t = ta
    · obtain ⟨e1, e2, e3, e4⟩ := e
      subst e1 e2 e3 e4
      rw [hnew]
      obtain ⟨d, p, c', e5⟩ := zBy_ap hi (hq.2.1 (by omega))
      refine zC_3 hP e5 (fun i2 a2 s2 t2 m2 hi2 w => ?_)
      obtain ⟨⟨w6, w7, w8, w9⟩, w10, w11⟩ := w
      rw [w10] at w11 ⊢
      exact h4 a2 (p i2) s2 t2 w6 w7 w8 w9 w11
    · rw [hkeep a S s t w2 w3 w4 e] at w5 ⊢
      exact h4 a S s t w1 w2 w3 w4 w5
  · have hle : tbl (upd f ((((((yO r i * 32) + b) * 5) + so) * 5) + ta) (nI (1 + q))) a b s t ≤ tbl f a b s t := hfall _
    rcases (show (s < so ∨ (s = so ∧ (t < ta ∨ (t = ta ∧ j < i)))) ∨ (s = so ∧ t = ta ∧ j = i) by omega) with z | ⟨z1, z2, z3⟩
    · exact Nat.le_trans hle (h5 j d p c' a s t n w1 w2 w3 z)
    · subst z1 z2 z3
      obtain ⟨c2, n2, e1, e2⟩ := zAp_le w3 (fun i a s t m _ _ q => TD_le h2 q)
      obtain ⟨e3, e4⟩ := zAp_by e2
      have := hq.2.2 _ e3
      rw [← w3.2.1, hnew]
      omega
theorem IMI_k {g : GG} {r : GR} {f0 f : Nat → Int32} {b m so ta i : Nat} (c : ¬ yS r i ≤ m) (h : IMI g r f0 f b m so ta i) : IMI g r f0 f b m so ta (i + 1) := by
  obtain ⟨h1, h2, h3, h4, h5⟩ := h
  refine ⟨h1, h2, h3, h4, fun j d p c' a s t n w1 w2 w3 w4 => ?_⟩
  rcases (show (s < so ∨ (s = so ∧ (t < ta ∨ (t = ta ∧ j < i)))) ∨ (s = so ∧ t = ta ∧ j = i) by omega) with z | ⟨z1, z2, z3⟩
  · exact h5 j d p c' a s t n w1 w2 w3 z
  · subst z3
    exact absurd w2 c
theorem IMI_t {g : GG} {r : GR} {f0 f : Nat → Int32} {b m so ta i : Nat} (hi : yM r ≤ i) (h : IMI g r f0 f b m so ta i) : IMI g r f0 f b m so (ta + 1) 0 := by
  obtain ⟨h1, h2, h3, h4, h5⟩ := h
  refine ⟨h1, h2, h3, h4, fun j d p c' a s t n w1 w2 w3 w4 => h5 j d p c' a s t n w1 w2 w3 ?_⟩
  have := w3.1
  omega
theorem IMI_u {g : GG} {r : GR} {f0 f : Nat → Int32} {b m so ta : Nat} (hP : ¬ zP g b so ta) (h : IMI g r f0 f b m so ta 0) : IMI g r f0 f b m so (ta + 1) 0 := by
  obtain ⟨h1, h2, h3, h4, h5⟩ := h
  refine ⟨h1, h2, h3, h4, fun j d p c' a s t n w1 w2 w3 w4 => ?_⟩
  rcases (show (s < so ∨ (s = so ∧ (t < ta ∨ (t = ta ∧ j < 0)))) ∨ (s = so ∧ t = ta) by omega) with z | ⟨z1, z2⟩
  · exact h5 j d p c' a s t n w1 w2 w3 z
  · subst z1 z2
    exact absurd w1 hP
theorem IMI_s {n9 v : Nat} {g1 g2 g3 : Nat → Int32} {r : GR} {f0 f : Nat → Int32} {b m so ta : Nat} (hG : GI n9 v g1 g2 g3) (hv : v ≤ 5) (ht : v ≤ ta) (h : IMI (gC n9 v g1 g2 g3) r f0 f b m so ta 0) : IMI (gC n9 v g1 g2 g3) r f0 f b m (so + 1) 0 0 := by
  obtain ⟨h1, h2, h3, h4, h5⟩ := h
  refine ⟨h1, h2, h3, h4, fun j d p c' a s t n w1 w2 w3 w4 => h5 j d p c' a s t n w1 w2 w3 ?_⟩
  have := zNd_v hG hv w1.2.2.1
  omega
/-- what a whole call of improve leaves -/
def IME (g : GG) (r : GR) (f0 f : Nat → Int32) (b m : Nat) : Prop := TBI f ∧ (∀ k, tn (f k) ≤ tn (f0 k)) ∧ (∀ a S s t, a < 3 → S < 32 → s < 5 → t < 5 → ¬ S = b → tbl f a S s t = tbl f0 a S s t) ∧ zSo g r (tbl f) ∧ ∀ j d p c a s t n, zP g b s t → yS r j ≤ m → zAp g r (TD zF9 (tbl f0)) j d p c a b s t n → tbl f a b s t ≤ n
theorem IMI_e {n9 v : Nat} {g1 g2 g3 : Nat → Int32} {r : GR} {f0 f : Nat → Int32} {b m so : Nat} (hG : GI n9 v g1 g2 g3) (hv : v ≤ 5) (ht : v ≤ so) (h : IMI (gC n9 v g1 g2 g3) r f0 f b m so 0 0) : IME (gC n9 v g1 g2 g3) r f0 f b m := by
  obtain ⟨h1, h2, h3, h4, h5⟩ := h
  refine ⟨h1, h2, h3, h4, fun j d p c' a s t n w1 w2 w3 => h5 j d p c' a s t n w1 w2 w3 ?_⟩
  have := zNd_v hG hv w1.2.1
  omega
theorem IME_1 {n9 v : Nat} {g1 g2 g3 : Nat → Int32} {r : GR} {f0 f : Nat → Int32} {b m : Nat} (hG : GI n9 v g1 g2 g3) (hv : v ≤ 5) (hW : yWF r) (hb : b < 32) (hm : 1 ≤ m) (h : IME (gC n9 v g1 g2 g3) r f0 f b m) : zS1 (gC n9 v g1 g2 g3) r (tbl f0) (tbl f) b := by
  obtain ⟨h1, h2, h3, h4, h5⟩ := h
  refine ⟨fun a s t => h2 _, fun j a a2 u w s t q1 q2 => ?_⟩
  have hs := zNd_v hG hv q2.2.1
  have ht := zNd_v hG hv q2.2.2.1
  have huw : u < 5 ∧ w < 5 := by rcases q1.2.2.2.2.2 with ⟨-, -, e1, e2⟩ | ⟨-, -, e1, e2⟩ <;> omega
  have ha : a < 3 := by rw [← q1.2.2.1]; exact (hW j q1.1).1
  by_cases z : tbl f0 a2 b u w < zF9
  · exact h5 j _ _ _ a s t _ q2 (by rw [q1.2.1]; exact hm) (zSg_ap (D := TD zF9 (tbl f0)) hW q1 (zNd_ne q2.2.1) ⟨⟨q1.2.2.2.2.1, hb, huw.1, huw.2⟩, rfl, z⟩)
  · have : tbl f a b s t ≤ zF9 := (TBI_at h1 (by omega)).2
    omega
theorem IME_B {n9 v : Nat} {g1 g2 g3 : Nat → Int32} {r : GR} {f0 f : Nat → Int32} {b : Nat} (hG : GI n9 v g1 g2 g3) (hv : v ≤ 5) (hW : yWF r) (hb : b < 32) (hE : ∀ S, S < b → ∀ a s t, a < 3 → zEx (gC n9 v g1 g2 g3) r (tbl f0) a S s t) (h : IME (gC n9 v g1 g2 g3) r f0 f b (zpc b)) : zBt (gC n9 v g1 g2 g3) r (tbl f) b := by
  obtain ⟨h1, h2, h3, h4, h5⟩ := h
  intro k a s t n q
  obtain ⟨hP, j, d, p, c, q⟩ := q
  have hj := hW j q.1
  have hs := zNd_v hG hv hP.2.1
  have ht := zNd_v hG hv hP.2.2.1
  have ha : a < 3 := by rw [← q.2.1]; exact hj.1
  have hT : tbl f a b s t ≤ zF9 := (TBI_at h1 (by omega)).2
  have hsl : ∀ i, i < 3 → (∃ n2, n2 ≤ c i ∧ zSl (gC n9 v g1 g2 g3) r (TD zF9 (tbl f0)) j i d (p i) n2) ∨ zF9 ≤ c i := fun i hi => by
    rcases q.2.2.2.2.2.2.1 i hi with w | ⟨w1, w2, ⟨w3, w4, w5⟩ | w3⟩
    · exact Or.inl ⟨c i, Nat.le_refl _, Or.inl w⟩
    · have e := hE (p i) w4 _ _ _ w3 _ _ w5
      have eP := zC_P w5
      have e1 := zNd_v hG hv eP.2.1
      have e2 := zNd_v hG hv eP.2.2.1
      by_cases z : tbl f0 (yL r j i) (p i) (d (yF r j i)) (d (yT r j i)) < zF9
      · exact Or.inl ⟨_, e, Or.inr ⟨w1, w2, Or.inl ⟨w3, ⟨w3, by omega, by omega, by omega⟩, rfl, z⟩⟩⟩
      · exact Or.inr (by omega)
    · exact Or.inl ⟨c i, Nat.le_refl _, Or.inr ⟨w1, w2, Or.inr w3⟩⟩
  have hn := q.2.2.2.2.2.2.2
  rcases hsl 0 (by decide) with ⟨n0, a0, b0⟩ | z
  · rcases hsl 1 (by decide) with ⟨n1, a1, b1⟩ | z
    · rcases hsl 2 (by decide) with ⟨n2, a2, b2⟩ | z
      · have hA : zAp (gC n9 v g1 g2 g3) r (TD zF9 (tbl f0)) j d p (p3 n0 n1 n2) a b s t (1 + n0 + n1 + n2) := ⟨q.1, q.2.1, q.2.2.1, q.2.2.2.1, q.2.2.2.2.1, q.2.2.2.2.2.1, fun i hi => by
          rcases (show i = 0 ∨ i = 1 ∨ i = 2 by omega) with e | e | e <;> subst e
          · exact b0
          · exact b1
          · exact b2, rfl⟩
        have hpc := zpc_th hb q.2.2.2.2.2.1
        obtain ⟨t1, t2, t3, -⟩ := zTh_sb hb q.2.2.2.2.2.1
        have hne : ∀ i, i < 3 → i < yS r j → 1 ≤ zpc (p i) := fun i hi w => by
          rcases q.2.2.2.2.2.2.1 i hi with ⟨z, -⟩ | ⟨-, z, -⟩
          · omega
          · exact zpc_pos (by rcases (show i = 0 ∨ i = 1 ∨ i = 2 by omega) with e | e | e <;> subst e <;> assumption) z
        have hsz : yS r j ≤ zpc b := by
          have := hj.2.2.1
          have := hj.2.1
          have z0 := hne 0 (by decide) (by omega)
          by_cases y1 : 1 < yS r j
          · have z1 := hne 1 (by decide) y1
            by_cases y2 : 2 < yS r j
            · have z2 := hne 2 (by decide) y2
              omega
            · omega
          · omega
        have := h5 j d p _ a s t _ hP hsz hA
        omega
      · omega
    · omega
  · omega
/-- the sets below se are right -/
def FNI (g : GG) (r : GR) (f : Nat → Int32) (se : Nat) : Prop := TBI f ∧ zSo g r (tbl f) ∧ ∀ S, S < se → ∀ a s t, a < 3 → zEx g r (tbl f) a S s t
theorem tbl_far {a S s t : Nat} : tbl (fun _ => 536870912) a S s t = zF9 := tn_nI (n := 536870912) (by decide)
theorem zEx_0 {g : GG} {r : GR} {T : Nat → Nat → Nat → Nat → Nat} {a s t : Nat} : zEx g r T a 0 s t := fun k n h => absurd (zC_P h).2.1 (fun q => zNd_0 q)
theorem FNI_1 {g : GG} {r : GR} : FNI g r (fun _ => 536870912) 1 := ⟨fun k _ => ⟨536870912, Nat.le_refl _, rfl⟩, fun a S s t _ _ _ _ q => by rw [tbl_far] at q; exact absurd q (Nat.lt_irrefl _), fun S hS a s t _ => by
  have e : S = 0 := by omega
  subst e
  exact zEx_0⟩
theorem IME_E {n9 v : Nat} {g1 g2 g3 : Nat → Int32} {r : GR} {f0 f : Nat → Int32} {b m : Nat} (hG : GI n9 v g1 g2 g3) (hv : v ≤ 5) (hb : b < 32) (h : IME (gC n9 v g1 g2 g3) r f0 f b m) (hE : ∀ S, S < b → ∀ a s t, a < 3 → zEx (gC n9 v g1 g2 g3) r (tbl f0) a S s t) : ∀ S, S < b → ∀ a s t, a < 3 → zEx (gC n9 v g1 g2 g3) r (tbl f) a S s t := fun S hS a s t ha k n q => by
  have hP := zC_P q
  have hs := zNd_v hG hv hP.2.1
  have ht := zNd_v hG hv hP.2.2.1
  rw [h.2.2.1 a S s t ha (by omega) (by omega) (by omega) (by omega)]
  exact hE S hS a s t ha k n q
/-- rd rounds over a set -/
def FRD (g : GG) (r : GR) (f : Nat → Int32) (b rd : Nat) (bt : Int32) : Prop := FNI g r f b ∧ zBt g r (tbl f) b ∧ zQ g r (tbl f) b rd ∧ (bt = 0 → zS1 g r (tbl f) (tbl f) b)
theorem FRD_1 {n9 v : Nat} {g1 g2 g3 : Nat → Int32} {r : GR} {f0 f : Nat → Int32} {b : Nat} {bt : Int32} (hG : GI n9 v g1 g2 g3) (hv : v ≤ 5) (hW : yWF r) (hb : b < 32) (hb1 : 1 ≤ b) (h0 : FNI (gC n9 v g1 g2 g3) r f0 b) (h : IME (gC n9 v g1 g2 g3) r f0 f b (zpc b)) (hbt : bt = 0 → f = f0) : FRD (gC n9 v g1 g2 g3) r f b 1 bt := by
  have hpc := zpc_pos hb (by omega)
  have hB := IME_B hG hv hW hb h0.2.2 h
  have h1 := IME_1 hG hv hW hb hpc h
  refine ⟨⟨h.1, h.2.2.2.1, IME_E hG hv hb h h0.2.2⟩, hB, zQ_s hW hB h1 (by decide) zQ_0, fun c => ?_⟩
  have e := hbt c
  rw [← e] at h1
  exact h1
theorem FRD_s {n9 v : Nat} {g1 g2 g3 : Nat → Int32} {r : GR} {f0 f : Nat → Int32} {b rd : Nat} {bt bu : Int32} (hG : GI n9 v g1 g2 g3) (hv : v ≤ 5) (hW : yWF r) (hb : b < 32) (hrd : rd < 6) (h0 : FRD (gC n9 v g1 g2 g3) r f0 b rd bu) (h : IME (gC n9 v g1 g2 g3) r f0 f b 1) (hbt : bt = 0 → f = f0) : FRD (gC n9 v g1 g2 g3) r f b (rd + 1) bt := by
  have h1 := IME_1 hG hv hW hb (Nat.le_refl 1) h
  have hB : zBt (gC n9 v g1 g2 g3) r (tbl f) b := fun k a s t n q => Nat.le_trans (h.2.1 _) (h0.2.1 k a s t n q)
  refine ⟨⟨h.1, h.2.2.2.1, IME_E hG hv hb h h0.1.2.2⟩, hB, zQ_s hW hB h1 hrd h0.2.2.1, fun c => ?_⟩
  have e := hbt c
  rw [← e] at h1
  exact h1
theorem FRD_0 {g : GG} {r : GR} {f : Nat → Int32} {b rd : Nat} {bt : Int32} (hW : yWF r) (h : FRD g r f b rd bt) (c : bt = 0) : FNI g r f (b + 1) := ⟨h.1.1, h.1.2.1, fun S hS a s t ha => by
  rcases (show S < b ∨ S = b by omega) with q | q
  · exact h.1.2.2 S q a s t ha
  · subst q
    exact zQ_st hW h.2.1 (h.2.2.2 c) ha⟩
theorem FRD_6 {g : GG} {r : GR} {f : Nat → Int32} {b rd : Nat} {bt : Int32} (hr : rd = 6) (h : FRD g r f b rd bt) : FNI g r f (b + 1) := ⟨h.1.1, h.1.2.1, fun S hS a s t ha => by
  rcases (show S < b ∨ S = b by omega) with q | q
  · exact h.1.2.2 S q a s t ha
  · subst q
    subst hr
    exact zQ_6 h.2.2.1 ha⟩
/-- the book's rules, as numbers -/
def rC (ρ : Nat → RT) (r : Nat) : GR := (r, fun j => tn (ρ j).2.1.1, fun j => tn (ρ j).2.1.2.1, fun j => tn (ρ j).2.1.2.2, fun j i => tn ((ρ j).2.2.1 i), fun j i => tn ((ρ j).2.2.2.1 i), fun j i => tn ((ρ j).2.2.2.2.1 i))
/-- a rule as it is read -/
def RQ (t : RT) : Prop := ∃ o e w, o < 3 ∧ 1 ≤ e ∧ e ≤ 3 ∧ 2 ≤ w ∧ w ≤ 4 ∧ t.2.1.1 = nI o ∧ t.2.1.2.1 = nI e ∧ t.2.1.2.2 = nI w ∧ (∀ i, i < e → ∃ q a b, q < 5 ∧ a < w ∧ b < w ∧ t.2.2.1 i = nI q ∧ t.2.2.2.1 i = nI a ∧ t.2.2.2.2.1 i = nI b) ∧ (∀ i, i < 3 → t.2.2.2.2.2.1 i = if i < e then t.2.2.1 i else 5) ∧ (∃ i, i < e ∧ (t.2.2.2.1 i = 0 ∨ t.2.2.2.2.1 i = 0)) ∧ (∃ i, i < e ∧ (t.2.2.2.1 i = 1 ∨ t.2.2.2.2.1 i = 1)) ∧ (e = 1 → w = 2)
def RRQ (ρ : Nat → RT) (r : Nat) : Prop := ∀ j, j < r → RQ (ρ j)
theorem rC_wf {ρ : Nat → RT} {r : Nat} (h : RRQ ρ r) : yWF (rC ρ r) := fun j hj => by
  obtain ⟨o, e, w, a1, a2, a3, a4, a5, e1, e2, e3, b1, b2, ⟨i0, i1, i2⟩, ⟨l0, l1, l2⟩, b5⟩ := h j hj
  have E1 : yO (rC ρ r) j = o := by show tn (ρ j).2.1.1 = o; rw [e1, tn_nI (by omega)]
  have E2 : yS (rC ρ r) j = e := by show tn (ρ j).2.1.2.1 = e; rw [e2, tn_nI (by omega)]
  have E3 : yW (rC ρ r) j = w := by show tn (ρ j).2.1.2.2 = w; rw [e3, tn_nI (by omega)]
  rw [E1, E2, E3]
  refine ⟨a1, a2, a3, fun i hi => ?_, ⟨i0, i1, ?_⟩, ⟨l0, l1, ?_⟩, b5⟩
  · obtain ⟨q, a, b, c1, c2, c3, d1, d2, d3⟩ := b1 i hi
    have D1 : yL (rC ρ r) j i = q := by show tn ((ρ j).2.2.1 i) = q; rw [d1, tn_nI (by omega)]
    have D2 : yF (rC ρ r) j i = a := by show tn ((ρ j).2.2.2.1 i) = a; rw [d2, tn_nI (by omega)]
    have D3 : yT (rC ρ r) j i = b := by show tn ((ρ j).2.2.2.2.1 i) = b; rw [d3, tn_nI (by omega)]
    rw [D1, D2, D3]
    exact ⟨c1, c2, c3⟩
  · show tn ((ρ j).2.2.2.1 i0) = 0 ∨ tn ((ρ j).2.2.2.2.1 i0) = 0
    rcases i2 with q | q
    · left; rw [q]; decide
    · right; rw [q]; decide
  · show tn ((ρ j).2.2.2.1 l0) = 1 ∨ tn ((ρ j).2.2.2.2.1 l0) = 1
    rcases l2 with q | q
    · left; rw [q]; decide
    · right; rw [q]; decide
theorem rC_rj {ρ : Nat → RT} {r j : Nat} (h : RRQ ρ r) (hj : j < r) : RJ (rC ρ r) j (ρ j).2.1.2.1 (ρ j).2.1.2.2 (ρ j).2.2.2.1 (ρ j).2.2.2.2.1 (ρ j).2.2.2.2.2.1 ∧ (ρ j).2.1.1 = nI (yO (rC ρ r) j) ∧ yO (rC ρ r) j < 3 := by
  obtain ⟨o, e, w, a1, a2, a3, a4, a5, e1, e2, e3, b1, b2, -, -, -⟩ := h j hj
  have E1 : yO (rC ρ r) j = o := by show tn (ρ j).2.1.1 = o; rw [e1, tn_nI (by omega)]
  have E2 : yS (rC ρ r) j = e := by show tn (ρ j).2.1.2.1 = e; rw [e2, tn_nI (by omega)]
  have E3 : yW (rC ρ r) j = w := by show tn (ρ j).2.1.2.2 = w; rw [e3, tn_nI (by omega)]
  unfold RJ
  rw [E1, E2, E3]
  refine ⟨⟨e2, e3, a2, a3, a4, a5, fun i hi => ?_, fun i hi => ?_⟩, e1, a1⟩
  · rw [b2 i hi]
    by_cases q : i < e
    · rw [if_pos q, if_pos q]
      obtain ⟨q, a, b, c1, c2, c3, d1, d2, d3⟩ := b1 i q
      show (ρ j).2.2.1 i = nI (tn ((ρ j).2.2.1 i))
      rw [d1, tn_nI (by omega)]
    · rw [if_neg q, if_neg q]
      rfl
  · obtain ⟨q, a, b, c1, c2, c3, d1, d2, d3⟩ := b1 i hi
    have D1 : yL (rC ρ r) j i = q := by show tn ((ρ j).2.2.1 i) = q; rw [d1, tn_nI (by omega)]
    have D2 : yF (rC ρ r) j i = a := by show tn ((ρ j).2.2.2.1 i) = a; rw [d2, tn_nI (by omega)]
    have D3 : yT (rC ρ r) j i = b := by show tn ((ρ j).2.2.2.2.1 i) = b; rw [d3, tn_nI (by omega)]
    rw [D1, D2, D3]
    exact ⟨c1, c2, c3, d2, d3⟩
/-- the search is done for this graph and these rules -/
def OFin (n v : Nat) (g1 g2 g3 : Nat → Int32) (ρ : Nat → RT) (r : Nat) (f : Nat → Int32) : Prop := n ≤ 5 ∧ v ≤ 5 ∧ FNI (gC n v g1 g2 g3) (rC ρ r) f (2 ^ n)
/-- what fewest() answers -/
def FeC (p : Int32) (n v : Nat) (g1 g2 g3 : Nat → Int32) (ρ : Nat → RT) (r : Nat) (a : Int32) : Prop := (opn p = 0 ∧ a = -1001) ∨ (¬ opn p = 0 ∧ (isD g1 n = 0 ∨ 5 < n ∨ 5 < v) ∧ a = -1003) ∨ ∃ k f, k < 3 ∧ p = nI k ∧ ¬ isD g1 n = 0 ∧ OFin n v g1 g2 g3 ρ r f ∧ a = if tbl f k (2 ^ n - 1) 0 1 < zF9 then nI (tbl f k (2 ^ n - 1) 0 1) else -1
theorem st4 {w v i k x y : Nat} {sd sr : Nat → Int32} (hw4 : w ≤ 4) (hw2 : 2 ≤ w) (hv : v ≤ 5) (hs0 : tn (sd 0) < 5) (hs1 : tn (sd 1) < 5) (es0 : sd 0 = nI (tn (sd 0))) (es1 : sd 1 = nI (tn (sd 1))) (h0 : sr 0 = sd 0) (h1 : sr 1 = sd 1) (h2 : sr 2 = nI i) (hi : i < x) (hk : k < y) (hx : (2 < w ∧ x = v) ∨ (w ≤ 2 ∧ x = 1)) (hy : (3 < w ∧ y = v) ∨ (w ≤ 3 ∧ y = 1)) : tn (upd sr 3 (nI k) 0) = tn (sd 0) ∧ tn (upd sr 3 (nI k) 1) = tn (sd 1) ∧ tn (upd sr 3 (nI k) 2) = i ∧ tn (upd sr 3 (nI k) 3) = k ∧ (sAp w (upd sr 3 (nI k)) ↔ zSd w v (fun k_9 => tn (upd sr 3 (nI k) k_9))) := by
  have e0 : upd sr 3 (nI k) 0 = nI (tn (sd 0)) := by rw [pk_un (by decide), h0]; exact es0
  have e1 : upd sr 3 (nI k) 1 = nI (tn (sd 1)) := by rw [pk_un (by decide), h1]; exact es1
  have e2 : upd sr 3 (nI k) 2 = nI i := by rw [pk_un (by decide), h2]
  have e3 : upd sr 3 (nI k) 3 = nI k := pk_us
  refine ⟨by rw [e0, tn_nI (by omega)], by rw [e1, tn_nI (by omega)], by rw [e2, tn_nI (by omega)], by rw [e3, tn_nI (by omega)], ?_⟩
  exact sAp_d hw4 hw2 hv hs0 hs1 e0 e1 e2 e3 hi hk hx hy
theorem IMI_low {g : GG} {r : GR} {f0 f s2 : Nat → Int32} {x : Int32} {b m so ta i q : Nat} (hi : i < yM r) (ho : yO r i < 3) (hb : b < 32) (hso : so < 5) (hta : ta < 5) (hP : zP g b so ta) (hq : zLs zF9 (zBy g r (TD zF9 (tbl f)) i so ta b) q) (hl : (x = 0 ∧ s2 = f ∧ ¬ nI (1 + q) < f ((((((yO r i * 32) + b) * 5) + so) * 5) + ta)) ∨ (x = 1 ∧ s2 = upd f ((((((yO r i * 32) + b) * 5) + so) * 5) + ta) (nI (1 + q)) ∧ nI (1 + q) < f ((((((yO r i * 32) + b) * 5) + so) * 5) + ta))) (h : IMI g r f0 f b m so ta i) : IMI g r f0 s2 b m so ta (i + 1) := by
  have hT := TBI_at h.1 (k := (((((yO r i * 32) + b) * 5) + so) * 5) + ta) (by omega)
  have hF9 : zF9 = 536870912 := rfl
  have h9 := hq.1
  have h8 := hT.2
  have e : tbl f (yO r i) b so ta = tn (f ((((((yO r i * 32) + b) * 5) + so) * 5) + ta)) := rfl
  rcases hl with ⟨-, e2, c⟩ | ⟨-, e2, c⟩
  · rw [e2]
    rw [hT.1] at c
    exact IMI_n hq (nltN (by omega) (by omega) c) h
  · rw [e2]
    rw [hT.1] at c
    exact IMI_y hi ho hb hso hta hP hq (ltN (by omega) (by omega) c) h
theorem low_01 {x : Int32} {P Q R S : Prop} (h : (x = 0 ∧ P ∧ Q) ∨ (x = 1 ∧ R ∧ S)) : x = 0 ∨ x = 1 := by
  rcases h with h | h
  · exact Or.inl h.1
  · exact Or.inr h.1
theorem low_C {x y : Int32} {f f0 s2 : Nat → Int32} {Q R S : Prop} (hy : y = 0 ∨ y = 1) (hC : y = 0 → f = f0) (h : (x = 0 ∧ s2 = f ∧ Q) ∨ (x = 1 ∧ R ∧ S)) : y ||| x = 0 → s2 = f0 := fun c => by
  rcases h with ⟨h1, h2, -⟩ | ⟨h1, -⟩
  · rw [h2]
    rcases hy with e | e
    · exact hC e
    · rw [e, h1] at c
      exact absurd c (by decide)
  · rcases hy with e | e <;> rw [e, h1] at c <;> exact absurd c (by decide)
end
section
theorem lt9r {r : Nat} (hr : r ≤ 9) (c : ¬ nI r = 9) : r < 9 := by
  rcases Nat.lt_or_ge r 9 with q | q
  · exact q
  · have : r = 9 := by omega
    subst this
    exact absurd rfl c
theorem and3_ge {w : Nat} (hw : w < 32) (c : nI w &&& 3 = 3) : 3 ≤ w := by
  have : ∀ w, w < 32 → nI w &&& 3 = 3 → 3 ≤ w := by decide +kernel
  exact this w hw c
theorem or3 {w : Nat} (hw : w < 32) : ∃ w2, w2 < 32 ∧ 3 ≤ w2 ∧ nI w ||| 3 = nI w2 := by
  have : ∀ w, w < 32 → ((w ||| 3) < 32 ∧ 3 ≤ (w ||| 3)) ∧ nI w ||| 3 = nI (w ||| 3) := by decide +kernel
  exact ⟨w ||| 3, (this w hw).1.1, (this w hw).1.2, (this w hw).2⟩
theorem ab_2 {w k : Nat} (h : w < 2 ^ k) (hw : 3 ≤ w) : 2 ≤ k := by
  rcases (show k = 0 ∨ k = 1 ∨ 2 ≤ k by omega) with rfl | rfl | q
  · omega
  · omega
  · exact q
theorem ab_4 {w k : Nat} (h : k = 0 ∨ 2 ^ (k - 1) ≤ w) (hw : w < 2 ^ 4) (h5 : k ≤ 5) : k ≤ 4 := by
  rcases (show k ≤ 4 ∨ k = 5 by omega) with q | rfl
  · exact q
  · rcases h with h | h
    · omega
    · omega
theorem MRI_add {ro re rn rg g2 : Nat → Int32} {r o q w : Nat} (h : MRI ro re rn rg r) (ho : o < 3) (hq1 : 1 ≤ q) (hq3 : q ≤ 3) (hw2 : 2 ≤ w) (hw4 : w ≤ 4) (h1 : ∀ j, j < q → EV 4 (g2 (3 * r + j))) (h2 : ∀ j, j < 3 * r → g2 j = rg j) : MRI (upd ro r (nI o)) (upd re r (nI q)) (upd rn r (nI w)) g2 (r + 1) := fun j hj => by
  by_cases h9 : j = r
  · subst h9
    rw [pk_us, pk_us, pk_us]
    exact ⟨⟨o, ho, rfl⟩, q, hq1, hq3, rfl, ⟨w, hw2, hw4, rfl⟩, h1⟩
  · rw [pk_un h9, pk_un h9, pk_un h9]
    obtain ⟨a, e, b1, b2, b3, b4, b5⟩ := h j (by omega)
    exact ⟨a, e, b1, b2, b3, b4, fun k hk => by rw [h2 _ (by omega)]; exact b5 k hk⟩
def SHf (f g : Nat → Int32) (k i : Nat) : Prop := ∀ j, j < 9 → g j = if k ≤ j ∧ j < i then f (j + 1) else f j
theorem SHf_0 {f : Nat → Int32} {k : Nat} : SHf f f k k := fun j _ => by rw [if_neg (by omega)]
theorem SHf_s {f g : Nat → Int32} {k i : Nat} (hk : k ≤ i) (hi : i + 1 < 9) (h : SHf f g k i) : SHf f (upd g i (g (i + 1))) k (i + 1) := fun j hj => by
  by_cases h9 : j = i
  · subst h9
    rw [pk_us, h (j + 1) hi, if_neg (by omega), if_pos (by omega)]
  · rw [pk_un h9, h j hj]
    by_cases h8 : k ≤ j ∧ j < i
    · rw [if_pos h8, if_pos (by omega)]
    · rw [if_neg h8, if_neg (by omega)]
def SH3 (f g : Nat → Int32) (k i : Nat) : Prop := ∀ j, j < 27 → g j = if 3 * k ≤ j ∧ j < 3 * i then f (j + 3) else f j
theorem SH3_0 {f : Nat → Int32} {k : Nat} : SH3 f f k k := fun j _ => by rw [if_neg (by omega)]
theorem SH3_u {f g : Nat → Int32} {a b : Nat} (ha : a ≤ b) (hb : b + 3 < 27) (h : ∀ j, j < 27 → g j = if a ≤ j ∧ j < b then f (j + 3) else f j) : ∀ j, j < 27 → upd g b (g (b + 3)) j = if a ≤ j ∧ j < b + 1 then f (j + 3) else f j := fun j hj => by
  by_cases h9 : j = b
  · subst h9
    rw [pk_us, h (j + 3) hb, if_neg (by omega), if_pos (by omega)]
  · rw [pk_un h9, h j hj]
    by_cases h8 : a ≤ j ∧ j < b
    · rw [if_pos h8, if_pos (by omega)]
    · rw [if_neg h8, if_neg (by omega)]
theorem SH3_s {f g : Nat → Int32} {k i : Nat} (hk : k ≤ i) (hi : i + 1 < 9) (h : SH3 f g k i) : SH3 f (upd (upd (upd g (3 * i + 0) (g (3 * i + 3 + 0))) (3 * i + 1) (upd g (3 * i + 0) (g (3 * i + 3 + 0)) (3 * i + 3 + 1))) (3 * i + 2) (upd (upd g (3 * i + 0) (g (3 * i + 3 + 0))) (3 * i + 1) (upd g (3 * i + 0) (g (3 * i + 3 + 0)) (3 * i + 3 + 1)) (3 * i + 3 + 2))) k (i + 1) := by
  have h1 := SH3_u (a := 3 * k) (b := 3 * i) (by omega) (by omega) h
  have h2 := SH3_u (a := 3 * k) (b := 3 * i + 1) (by omega) (by omega) h1
  have h3 := SH3_u (a := 3 * k) (b := 3 * i + 1 + 1) (by omega) (by omega) h2
  intro j hj
  have e := h3 j hj
  rw [show 3 * (i + 1) = 3 * i + 1 + 1 + 1 by omega]
  exact e
theorem MRI_drop {ro re rn rg a b c g : Nat → Int32} {r k : Nat} (h : MRI ro re rn rg r) (hr : r ≤ 9) (hk : k < r) (h1 : SHf ro a k (r - 1)) (h2 : SHf re b k (r - 1)) (h3 : SHf rn c k (r - 1)) (h4 : SH3 rg g k (r - 1)) : MRI a b c g (r - 1) := fun j hj => by
  rw [h1 j (by omega), h2 j (by omega), h3 j (by omega)]
  by_cases h8 : k ≤ j ∧ j < r - 1
  · rw [if_pos h8, if_pos h8, if_pos h8]
    obtain ⟨x, e, b1, b2, b3, b4, b5⟩ := h (j + 1) (by omega)
    refine ⟨x, e, b1, b2, b3, b4, fun q hq => ?_⟩
    rw [h4 _ (by omega), if_pos (by omega), show 3 * j + q + 3 = 3 * (j + 1) + q by omega]
    exact b5 q hq
  · rw [if_neg h8, if_neg h8, if_neg h8]
    obtain ⟨x, e, b1, b2, b3, b4, b5⟩ := h j (by omega)
    refine ⟨x, e, b1, b2, b3, b4, fun q hq => ?_⟩
    rw [h4 _ (by omega), if_neg (by omega)]
    exact b5 q hq
theorem sw_2 (x : Int32) : x = 0 ∨ x = 1 ∨ x = 2 ∨ (x.toInt < 0 ∨ 2 < x.toInt) := by
  simp only [← Int32.toInt_inj]
  have h0 : (0 : Int32).toInt = 0 := by decide
  have h1 : (1 : Int32).toInt = 1 := by decide
  have h2 : (2 : Int32).toInt = 2 := by decide
  omega
theorem sw2_ge {w : Nat} (hw : w < 3 ∨ (10 ≤ w ∧ w ≤ 12)) (c : (nI w).toInt < 0 ∨ 2 < (nI w).toInt) : 10 ≤ w := by
  rw [nI_toInt (by omega)] at c
  omega
end
section
def MDrP (p : Int32) (r : Nat) (ro re rn rg : Nat → Int32) (a : Int32) (r2 : Nat) (ro2 re2 rn2 rg2 : Nat → Int32) : Prop :=
  (wi p 0 (nI r - 1) = 0 ∧ a = -1001 ∧ r2 = r ∧ ro2 = ro ∧ re2 = re ∧ rn2 = rn ∧ rg2 = rg) ∨ ∃ k, k < r ∧ p = nI k ∧ a = nI (r - 1) ∧ r2 = r - 1 ∧ SHf ro ro2 k (r - 1) ∧ SHf re re2 k (r - 1) ∧ SHf rn rn2 k (r - 1) ∧ SH3 rg rg2 k (r - 1)
def nF (v : Nat) (p w : Int32) : Int32 := if p = 0 then fO w else if p = 1 then tO w else (nI v + p) - 2
def mop (x : Nat → Int32) : Nat → Int32
  | 0 => 0
  | i + 1 => if 3 ≤ lO (x i) then mop x i + 0 else mop x i + 1
theorem mop_b {x : Nat → Int32} {i : Nat} (h : 3 ≤ lO (x i)) : mop x (i + 1) = mop x i + 0 := by rw [mop, if_pos h]
theorem mop_a {x : Nat → Int32} {i : Nat} (h : ¬ 3 ≤ lO (x i)) : mop x (i + 1) = mop x i + 1 := by rw [mop, if_neg h]
def nwM (v : Nat) (w : Int32) (x : Int32) : Int32 := ((100 * (lO x)) + (10 * (nF v (fO x) w))) + (nF v (tO x) w)
/-- what the reference's step() answers and leaves -/
def MStP (p0 p1 : Int32) (r n v : Nat) (ea ro re rn rg : Nat → Int32) (k1 k2 a : Int32) (n2 v2 : Nat) (ea2 : Nat → Int32) (k1b k2b : Int32) : Prop :=
  ((wi p0 0 (nI n - 1) = 0 ∨ wi p1 0 (nI r - 1) = 0) ∧ a = -1001 ∧ n2 = n ∧ v2 = v ∧ ea2 = ea ∧ k1b = k1 ∧ k2b = k2) ∨
  ∃ j k, j < n ∧ k < r ∧ p0 = nI j ∧ p1 = nI k ∧ ((¬ lO (ea j) = ro k ∧ a = -1003 ∧ n2 = n ∧ v2 = v ∧ ea2 = ea ∧ k1b = k1 ∧ k2b = k2) ∨
    (lO (ea j) = ro k ∧ ∃ e w, 1 ≤ e ∧ e ≤ 3 ∧ w ≤ 4 ∧ re k = nI e ∧ rn k = nI w ∧ (((12 < n + (e - 1) ∨ 9 < v + w - 2) ∧ a = -1004 ∧ n2 = n ∧ v2 = v ∧ ea2 = ea ∧ k1b = k1 ∧ k2b = k2) ∨
      (n + (e - 1) ≤ 12 ∧ v + w - 2 ≤ 9 ∧ a = nI (n + (e - 1)) ∧ n2 = n + (e - 1) ∧ v2 = v + (w - 2) ∧ k1b = k1 + 1 ∧ k2b = k2 + 1 ∧ RPL ea (fun t => nwM v (ea j) (rg (3 * k + t))) ea2 j e n))))
def mDn (x : Nat → Int32) (n : Nat) : Int32 := if nI n ≤ 0 then 0 else if mop x n = 0 then 1 else 0
def KdM (ea : Nat → Int32) (n v : Nat) (r : Int32) : Prop := (mDn ea n = 0 ∧ r = -1003) ∨ (¬ mDn ea n = 0 ∧ MKd ea n v r)
end
section
/-! the reference's lights: numbers from 0 to 2^60, whose sum falls -/
def LR (la : Nat → Int64) : Prop := ∀ k, k < 80 → 0 ≤ (la k).toInt ∧ (la k).toInt ≤ 1152921504606846976
def Msum (la : Nat → Int64) : Nat → Nat
  | 0 => 0
  | n + 1 => Msum la n + (la n).toInt.toNat
theorem Msum_out {la : Nat → Int64} {k : Nat} {x : Int64} : ∀ n, n ≤ k → Msum (vp_updL la k x) n = Msum la n := by
  intro n
  induction n with
  | zero => intro _; rfl
  | succ n ih => intro h; rw [Msum, Msum, ih (by omega), pk_uLn (by omega)]
theorem Msum_in {la : Nat → Int64} {k : Nat} {x : Int64} (hx : x.toInt.toNat < (la k).toInt.toNat) : ∀ n, k < n → Msum (vp_updL la k x) n < Msum la n := by
  intro n
  induction n with
  | zero => intro h; omega
  | succ n ih =>
    intro h
    rw [Msum, Msum]
    by_cases h9 : k = n
    · subst h9
      rw [Msum_out k (Nat.le_refl k), pk_uLs]
      omega
    · rw [pk_uLn (by omega)]
      have := ih (by omega)
      omega
def Mla (la : Nat → Int64) : Nat := Msum la 48
/-- what a step of the lights does: nothing, or one number falls -/
def LD (la la2 : Nat → Int64) (r : Int32) : Prop := LR la2 ∧ ((r = 0 ∧ Mla la2 ≤ Mla la) ∨ (r = 1 ∧ Mla la2 < Mla la))
theorem LD.le {la la2 : Nat → Int64} {r : Int32} (h : LD la la2 r) : Mla la2 ≤ Mla la := by
  rcases h.2 with q | q <;> omega
theorem upd_self {la : Nat → Int64} {k : Nat} : vp_updL la k (la k) = la := by
  funext j
  by_cases h : j = k
  · subst h; exact pk_uLs
  · exact pk_uLn h
theorem LD_no {la : Nat → Int64} (h : LR la) : LD la la 0 := ⟨h, Or.inl ⟨rfl, Nat.le_refl _⟩⟩
theorem LD_yes {la : Nat → Int64} {k : Nat} {x : Int64} (h : LR la) (hk : k < 48) (h0 : 0 ≤ x.toInt) (c : ¬ 0 ≤ lg_cmp x (la k)) : LD la (vp_updL la k x) 1 := by
  have hlt : x.toInt < (la k).toInt := by
    rw [lg_cmp_ge] at c
    simp only [Int64.le_iff_toInt_le] at c
    omega
  refine ⟨fun j hj => ?_, Or.inr ⟨rfl, Msum_in (by omega) 48 hk⟩⟩
  by_cases h9 : j = k
  · subst h9
    rw [pk_uLs]
    have := (h j hj).2
    exact ⟨h0, by omega⟩
  · rw [pk_uLn h9]; exact h j hj
def B12 (b : Int32) : Prop := b = 0 ∨ b = 4 ∨ b = 8 ∨ b = 12
theorem B12_0 {b : Int32} (h : B12 b) : B12 (b ||| 0) := by rcases h with rfl | rfl | rfl | rfl <;> first | exact Or.inl (by decide) | exact Or.inr (Or.inl (by decide)) | exact Or.inr (Or.inr (Or.inl (by decide))) | exact Or.inr (Or.inr (Or.inr (by decide)))
theorem B12_4 {b : Int32} (h : B12 b) : B12 (b ||| 4) := by rcases h with rfl | rfl | rfl | rfl <;> first | exact Or.inl (by decide) | exact Or.inr (Or.inl (by decide)) | exact Or.inr (Or.inr (Or.inl (by decide))) | exact Or.inr (Or.inr (Or.inr (by decide)))
theorem B12_8 {b : Int32} (h : B12 b) : B12 (b ||| 8) := by rcases h with rfl | rfl | rfl | rfl <;> first | exact Or.inl (by decide) | exact Or.inr (Or.inl (by decide)) | exact Or.inr (Or.inr (Or.inl (by decide))) | exact Or.inr (Or.inr (Or.inr (by decide)))
theorem or12 {b : Int32} {c : Nat} (hc : c < 4) (h : B12 b) : ∃ k, k < 16 ∧ nI c ||| b = nI k := by
  rcases (show c = 0 ∨ c = 1 ∨ c = 2 ∨ c = 3 by omega) with rfl | rfl | rfl | rfl <;> rcases h with rfl | rfl | rfl | rfl
  · exact ⟨0, by decide, by decide⟩
  · exact ⟨4, by decide, by decide⟩
  · exact ⟨8, by decide, by decide⟩
  · exact ⟨12, by decide, by decide⟩
  · exact ⟨1, by decide, by decide⟩
  · exact ⟨5, by decide, by decide⟩
  · exact ⟨9, by decide, by decide⟩
  · exact ⟨13, by decide, by decide⟩
  · exact ⟨2, by decide, by decide⟩
  · exact ⟨6, by decide, by decide⟩
  · exact ⟨10, by decide, by decide⟩
  · exact ⟨14, by decide, by decide⟩
  · exact ⟨3, by decide, by decide⟩
  · exact ⟨7, by decide, by decide⟩
  · exact ⟨11, by decide, by decide⟩
  · exact ⟨15, by decide, by decide⟩
end
section
theorem pow16 {i : Nat} (h : i ≤ 3) : 16 ^ i ≤ 4096 := Nat.le_trans (Nat.pow_le_pow_right (by decide) h) (by decide)
theorem and15 (x : Int32) : ∃ k, k < 16 ∧ x &&& 15 = nI k := by
  have h : (x &&& 15).toBitVec = x.toBitVec &&& (15 : Int32).toBitVec := rfl
  refine ⟨(x &&& 15).toBitVec.toNat, ?_, ?_⟩
  · rw [h, BitVec.toNat_and]
    exact Nat.lt_of_le_of_lt Nat.and_le_right (by decide)
  · apply Int32.toBitVec_inj.mp
    show (x &&& 15).toBitVec = BitVec.ofNat 32 (x &&& 15).toBitVec.toNat
    rw [BitVec.ofNat_toNat, BitVec.setWidth_eq]
def NB (x : Int64) (k : Nat) : Prop := 0 ≤ x.toInt ∧ x.toInt ≤ 1 + (k : Int) * 1152921504606846976
theorem NB_s {x y : Int64} {k : Nat} (h : NB x k) (hk : k < 3) (hy : 0 ≤ y.toInt ∧ y.toInt ≤ 1152921504606846976) : NB (x + y) (k + 1) := by
  obtain ⟨h1, h2⟩ := h
  obtain ⟨h3, h4⟩ := hy
  have e : (x + y).toInt = x.toInt + y.toInt := by
    rw [Int64.toInt_add]
    exact Int.bmod_eq_of_le (by omega) (by omega)
  unfold NB
  rw [e]
  omega
theorem NB_0 : NB 1 0 := by
  unfold NB
  rw [show (1 : Int64).toInt = 1 from by decide]
  omega
theorem LD_1 {a b c : Nat → Int64} {g r : Int32} (h1 : LD a b g) (h2 : LD b c r) (hr : ¬ r = 0) : LD a c 1 := by
  refine ⟨h2.1, Or.inr ⟨rfl, ?_⟩⟩
  have := h1.le
  rcases h2.2 with q | q
  · exact absurd q.1 hr
  · omega
theorem LD_2 {a b c : Nat → Int64} {g r : Int32} (h1 : LD a b g) (h2 : LD b c r) (hg : ¬ g = 0) : LD a c 1 := by
  refine ⟨h2.1, Or.inr ⟨rfl, ?_⟩⟩
  have := h2.le
  rcases h1.2 with q | q
  · exact absurd q.1 hg
  · omega
theorem LD_3 {a b c : Nat → Int64} {g r : Int32} (h1 : LD a b g) (h2 : LD b c r) : LD a c 0 := by
  refine ⟨h2.1, Or.inl ⟨rfl, ?_⟩⟩
  have := h2.le
  have := h1.le
  omega
theorem LD.nar {a b : Nat → Int64} {g : Int32} (h : LD a b g) : narrow .boolean (.int g) = .int g := by
  rcases h.2 with q | q
  · exact nar_01 (Or.inl q.1)
  · exact nar_01 (Or.inr q.1)
theorem LD.fall {a b : Nat → Int64} {g : Int32} {n : Nat} (h : LD a b g) (hn : Mla a < n + 1) : ¬ g = 0 → Mla b < n := fun c => by
  rcases h.2 with q | q
  · exact absurd q.1 c
  · omega
def LRn (la : Nat → Int64) (n : Nat) : Prop := ∀ k, k < n → 0 ≤ (la k).toInt ∧ (la k).toInt ≤ 1152921504606846976
theorem LRn_s {la : Nat → Int64} {n : Nat} {x : Int64} (h : LRn la n) (hx : 0 ≤ x.toInt ∧ x.toInt ≤ 1152921504606846976) : LRn (vp_updL la n x) (n + 1) := fun k hk => by
  by_cases h9 : k = n
  · subst h9; rw [pk_uLs]; exact hx
  · rw [pk_uLn h9]; exact h k (by omega)
end
section
/-! the reference's search: numbers up to a million -/
def FWI (fw : Nat → Int32) : Prop := ∀ k, k < 2400 → ∃ q, q ≤ 1000000 ∧ fw k = nI q
theorem and_le {x : Nat} (hx : x < 2147483648) (y : Int32) : ∃ k, k ≤ x ∧ nI x &&& y = nI k := by
  have h : (nI x &&& y).toBitVec = (nI x).toBitVec &&& y.toBitVec := rfl
  refine ⟨(nI x &&& y).toBitVec.toNat, ?_, ?_⟩
  · rw [h, BitVec.toNat_and]
    refine Nat.le_trans Nat.and_le_left ?_
    have : (nI x).toBitVec.toNat = x % 2 ^ 32 := rfl
    rw [this]
    omega
  · apply Int32.toBitVec_inj.mp
    show (nI x &&& y).toBitVec = BitVec.ofNat 32 (nI x &&& y).toBitVec.toNat
    rw [BitVec.ofNat_toNat, BitVec.setWidth_eq]
def Fsum (f : Nat → Int32) : Nat → Nat
  | 0 => 0
  | n + 1 => Fsum f n + (f n).toInt.toNat
theorem Fsum_out {f : Nat → Int32} {k : Nat} {x : Int32} : ∀ n, n ≤ k → Fsum (upd f k x) n = Fsum f n := by
  intro n
  induction n with
  | zero => intro _; rfl
  | succ n ih => intro h; rw [Fsum, Fsum, ih (by omega), pk_un (by omega)]
theorem Fsum_in {f : Nat → Int32} {k : Nat} {x : Int32} (hx : x.toInt.toNat < (f k).toInt.toNat) : ∀ n, k < n → Fsum (upd f k x) n < Fsum f n := by
  intro n
  induction n with
  | zero => intro h; omega
  | succ n ih =>
    intro h
    rw [Fsum, Fsum]
    by_cases h9 : k = n
    · subst h9
      rw [Fsum_out k (Nat.le_refl k), pk_us]
      omega
    · rw [pk_un (by omega)]
      have := ih (by omega)
      omega
def Ffw (f : Nat → Int32) : Nat := Fsum f 2400
def FD (f f2 : Nat → Int32) (r : Int32) : Prop := FWI f2 ∧ ((r = 0 ∧ Ffw f2 ≤ Ffw f) ∨ (r = 1 ∧ Ffw f2 < Ffw f))
theorem FD.le {a b : Nat → Int32} {r : Int32} (h : FD a b r) : Ffw b ≤ Ffw a := by
  rcases h.2 with q | q <;> omega
theorem updi_self {f : Nat → Int32} {k : Nat} : upd f k (f k) = f := by
  funext j
  by_cases h : j = k
  · subst h; exact pk_us
  · exact pk_un h
theorem FD_no {f : Nat → Int32} (h : FWI f) : FD f f 0 := ⟨h, Or.inl ⟨rfl, Nat.le_refl _⟩⟩
theorem FWI_s {f : Nat → Int32} {k q : Nat} (h : FWI f) (hq : q ≤ 1000000) : FWI (upd f k (nI q)) := fun j hj => by
  by_cases h9 : j = k
  · subst h9; exact ⟨q, hq, pk_us⟩
  · rw [pk_un h9]; exact h j hj
theorem FD_yes {f : Nat → Int32} {k q : Nat} (h : FWI f) (hk : k < 2400) (hq : q ≤ 1000001) (c : ¬ f k ≤ nI q) : FD f (upd f k (nI q)) 1 := by
  obtain ⟨w, hw, e⟩ := h k hk
  rw [e] at c
  have hlt := nleN (a := w) (b := q) (by omega) (by omega) c
  exact ⟨FWI_s h (by omega), Or.inr ⟨rfl, Fsum_in (by rw [e, nI_toInt (by omega), nI_toInt (by omega)]; omega) 2400 hk⟩⟩
theorem FD_1 {a b c : Nat → Int32} {g : Int32} (h1 : FD a b g) (h2 : FD b c 1) : FD a c 1 := by
  refine ⟨h2.1, Or.inr ⟨rfl, ?_⟩⟩
  have := h1.le
  rcases h2.2 with q | q
  · exact absurd q.1 (by decide)
  · omega
theorem FD_0 {a b : Nat → Int32} {g : Int32} (h1 : FD a b g) : FD a b 0 := ⟨h1.1, Or.inl ⟨rfl, h1.le⟩⟩
theorem FD_2 {a b c : Nat → Int32} {g r : Int32} (h1 : FD a b g) (h2 : FD b c r) (hg : ¬ g = 0) : FD a c 1 := by
  refine ⟨h2.1, Or.inr ⟨rfl, ?_⟩⟩
  have := h2.le
  rcases h1.2 with q | q
  · exact absurd q.1 hg
  · omega
theorem FD_3 {a b c : Nat → Int32} {g r : Int32} (h1 : FD a b g) (h2 : FD b c r) : FD a c 0 := by
  refine ⟨h2.1, Or.inl ⟨rfl, ?_⟩⟩
  have := h2.le
  have := h1.le
  omega
theorem FD_r {a b c : Nat → Int32} {g r : Int32} (h1 : FD a b g) (h2 : FD b c r) (hr : ¬ r = 0) : FD a c 1 := by
  refine ⟨h2.1, Or.inr ⟨rfl, ?_⟩⟩
  have := h1.le
  rcases h2.2 with q | q
  · exact absurd q.1 hr
  · omega
theorem FD.nar {a b : Nat → Int32} {g : Int32} (h : FD a b g) : narrow .boolean (.int g) = .int g := by
  rcases h.2 with q | q
  · exact nar_01 (Or.inl q.1)
  · exact nar_01 (Or.inr q.1)
theorem FD.fall {a b : Nat → Int32} {g : Int32} {n : Nat} (h : FD a b g) (hn : Ffw a < n + 1) : ¬ g = 0 → Ffw b < n := fun c => by
  rcases h.2 with q | q
  · exact absurd q.1 c
  · omega
end
section
/-! the reference's search, just as it is -/
abbrev zM9 : Nat := 1000000
def trb (f : Nat → Int32) (a S s t : Nat) : Nat := tn (f ((((((a * 5) + s) * 5) + t) * 32) + S))
theorem FWI_at {f : Nat → Int32} {k : Nat} (h : FWI f) (hk : k < 2400) : f k = nI (tn (f k)) ∧ tn (f k) ≤ zM9 := by
  obtain ⟨q, hq, e⟩ := h k hk
  rw [e, tn_nI (by omega)]
  exact ⟨rfl, hq⟩
theorem tr_ix {a S s t a2 S2 s2 t2 : Nat} (h1 : s < 5) (h2 : t < 5) (h3 : s2 < 5) (h4 : t2 < 5) (hS : S < 32) (hS2 : S2 < 32) (e : (((((a * 5) + s) * 5) + t) * 32) + S = (((((a2 * 5) + s2) * 5) + t2) * 32) + S2) : a = a2 ∧ S = S2 ∧ s = s2 ∧ t = t2 := by omega
def gM (n v : Nat) (ea : Nat → Int32) : GG := (n, v, fun j => tn (ea j) / 100, fun j => tn (ea j) / 10 % 10, fun j => tn (ea j) % 10)
def rMd (r : Nat) (ro re rn rg : Nat → Int32) : GR := (r, fun j => tn (ro j), fun j => tn (re j), fun j => tn (rn j), fun j i => tn (rg (3 * j + i)) / 100, fun j i => tn (rg (3 * j + i)) / 10 % 10, fun j i => tn (rg (3 * j + i)) % 10)
def EAI (n v : Nat) (ea : Nat → Int32) : Prop := ∀ j, j < n → ∃ q a b, q < 5 ∧ a < v ∧ b < v ∧ ea j = nI (100 * q + 10 * a + b)
theorem EAI_at {n v j : Nat} {ea : Nat → Int32} (h : EAI n v ea) (hv : v ≤ 5) (hj : j < n) : ea j = nI (tn (ea j)) ∧ tn (ea j) < 500 ∧ tn (ea j) / 10 % 10 < v ∧ tn (ea j) % 10 < v := by
  obtain ⟨q, a, b, h1, h2, h3, e⟩ := h j hj
  rw [e, tn_nI (by omega)]
  exact ⟨rfl, by omega, by omega, by omega⟩
def MRQ (ro re rn rg : Nat → Int32) (r : Nat) : Prop := ∀ j, j < r → ∃ o e w, o < 3 ∧ 1 ≤ e ∧ e ≤ 3 ∧ 2 ≤ w ∧ w ≤ 4 ∧ ro j = nI o ∧ re j = nI e ∧ rn j = nI w ∧ (∀ i, i < e → ∃ q a b, q < 5 ∧ a < w ∧ b < w ∧ rg (3 * j + i) = nI (100 * q + 10 * a + b)) ∧ (e = 1 → w = 2)
/-- the rule at hand -/
def MJ (gr : GR) (j : Nat) (ro re rn rg : Nat → Int32) : Prop := ro j = nI (yO gr j) ∧ yO gr j < 3 ∧ re j = nI (yS gr j) ∧ 1 ≤ yS gr j ∧ yS gr j ≤ 3 ∧ rn j = nI (yW gr j) ∧ 2 ≤ yW gr j ∧ yW gr j ≤ 4 ∧ (∀ i, i < yS gr j → rg (3 * j + i) = nI (tn (rg (3 * j + i))) ∧ tn (rg (3 * j + i)) < 500 ∧ yF gr j i < yW gr j ∧ yT gr j i < yW gr j) ∧ (yS gr j = 1 → yW gr j = 2)
theorem MRQ_at {ro re rn rg : Nat → Int32} {r j : Nat} (h : MRQ ro re rn rg r) (hj : j < r) : MJ (rMd r ro re rn rg) j ro re rn rg := by
  obtain ⟨o, e, w, a1, a2, a3, a4, a5, e1, e2, e3, b1, b2⟩ := h j hj
  have E1 : yO (rMd r ro re rn rg) j = o := by show tn (ro j) = o; rw [e1, tn_nI (by omega)]
  have E2 : yS (rMd r ro re rn rg) j = e := by show tn (re j) = e; rw [e2, tn_nI (by omega)]
  have E3 : yW (rMd r ro re rn rg) j = w := by show tn (rn j) = w; rw [e3, tn_nI (by omega)]
  unfold MJ
  rw [E1, E2, E3]
  refine ⟨e1, a1, e2, a2, a3, e3, a4, a5, fun i hi => ?_, b2⟩
  obtain ⟨q, a, b, c1, c2, c3, d⟩ := b1 i hi
  have D2 : yF (rMd r ro re rn rg) j i = a := by show tn (rg (3 * j + i)) / 10 % 10 = a; rw [d, tn_nI (by omega)]; omega
  have D3 : yT (rMd r ro re rn rg) j i = b := by show tn (rg (3 * j + i)) % 10 = b; rw [d, tn_nI (by omega)]; omega
  rw [D2, D3, d, tn_nI (by omega)]
  exact ⟨rfl, by omega, c2, c3⟩
/-- the nodes of the sets, as masks -/
def NMm (ea : Nat → Int32) (S n : Nat) : Nat := zMk (fun k => tn (ea k) / 10 % 10) (fun k => tn (ea k) % 10) (bY S) n
def NFI (n : Nat) (ea nf : Nat → Int32) (m : Nat) : Prop := ∀ S, S < m → nf S = nI (NMm ea S n)
theorem NMm_lt {n v S : Nat} {ea : Nat → Int32} (h : EAI n v ea) (hv : v ≤ 5) {i : Nat} (hi : i ≤ n) : NMm ea S i < 32 :=
  zMk_lt i (fun k hk => by
    obtain ⟨-, -, a, c⟩ := EAI_at h hv (show k < n by omega)
    exact ⟨Nat.lt_of_lt_of_le a hv, Nat.lt_of_lt_of_le c hv⟩)
theorem NMm_y {n v S x : Nat} {ea : Nat → Int32} : (NMm ea S n).testBit x = true ↔ zNd (gM n v ea) S x := zMk_bit x n
theorem zNd_vM {n v S x : Nat} {ea : Nat → Int32} (h : EAI n v ea) (hv : v ≤ 5) (q : zNd (gM n v ea) S x) : x < v := by
  obtain ⟨i, hi, -, e⟩ := q
  obtain ⟨-, -, a, b⟩ := EAI_at h hv hi
  rcases e with e | e
  · have e : tn (ea i) / 10 % 10 = x := e
    omega
  · have e : tn (ea i) % 10 = x := e
    omega
/-- steps for an edge -/
theorem so_a {n v a d b c : Nat} {ea fw : Nat → Int32} (ha : a < 3) (hd : d < 32) (hb : b < 5) (hc : c < 5) (h : trb fw a d b c ≤ zM9) : zLs zM9 (zSv (gM n v ea) (TD zM9 (trb fw)) a d b c) (trb fw a d b c) :=
  ⟨h, fun q => Or.inl ⟨ha, ⟨ha, hd, hb, hc⟩, rfl, q⟩, fun m q => by
    rcases q with ⟨-, -, w, -⟩ | ⟨w, -⟩
    · exact Nat.le_of_eq w.symm
    · omega⟩
def sIs (n v : Nat) (ea : Nat → Int32) (a d b c i : Nat) (x : Int32) : Prop := (x = 1 ∧ zEd (gM n v ea) d a b c) ∨ (x = 0 ∧ ∀ j, j < i → ¬ (d = 2 ^ j ∧ ea j = nI (100 * a + 10 * b + c)))
theorem sIs_k {n v a d b c i : Nat} {ea : Nat → Int32} {x : Int32} (h : sIs n v ea a d b c i x) (hx : ¬ x = 0) : sIs n v ea a d b c (i + 1) 1 := by
  rcases h with ⟨-, h⟩ | ⟨h, -⟩
  · exact Or.inl ⟨rfl, h⟩
  · exact absurd h hx
theorem sIs_n {n v a d b c i : Nat} {ea : Nat → Int32} {x : Int32} (h : sIs n v ea a d b c i x) (hx : x = 0) (hn : ¬ (d = 2 ^ i ∧ ea i = nI (100 * a + 10 * b + c))) : sIs n v ea a d b c (i + 1) 0 := by
  rcases h with ⟨h, -⟩ | ⟨-, h⟩
  · rw [hx] at h; exact absurd h (by decide)
  · refine Or.inr ⟨rfl, fun j hj => ?_⟩
    by_cases e : j = i
    · rw [e]; exact hn
    · exact h j (by omega)
theorem ed_dig {x a b c : Nat} (hb : b < 10) (hc : c < 10) : x = 100 * a + 10 * b + c ↔ x / 100 = a ∧ x / 10 % 10 = b ∧ x % 10 = c := by omega
theorem sIs_y {n v a d b c i : Nat} {ea : Nat → Int32} (hE : EAI n v ea) (hv : v ≤ 5) (hi : i < n) (ha : a < 5) (hb : b < 5) (hc : c < 5) (h1 : d = 2 ^ i) (h2 : ea i = nI (100 * a + 10 * b + c)) : sIs n v ea a d b c (i + 1) 1 := by
  have e : tn (ea i) = 100 * a + 10 * b + c := by rw [h2, tn_nI (by omega)]
  have e2 := (ed_dig (by omega) (by omega)).mp e
  exact Or.inl ⟨rfl, i, hi, h1, e2.1, e2.2.1, e2.2.2⟩
theorem sIs_e {n v a d b c i : Nat} {ea : Nat → Int32} {x : Int32} (hE : EAI n v ea) (hv : v ≤ 5) (ha : 3 ≤ a) (hb : b < 5) (hc : c < 5) (hi : n ≤ i) (h : sIs n v ea a d b c i x) {fw : Nat → Int32} : (¬ x = 0 → zLs zM9 (zSv (gM n v ea) (TD zM9 (trb fw)) a d b c) 0) ∧ (x = 0 → zLs zM9 (zSv (gM n v ea) (TD zM9 (trb fw)) a d b c) zM9) := by
  constructor
  · intro c'
    rcases h with ⟨-, h⟩ | ⟨h, -⟩
    · exact zLs_0 (Or.inr ⟨ha, rfl, h⟩)
    · exact absurd h c'
  · intro c'
    rcases h with ⟨h, -⟩ | ⟨-, h⟩
    · rw [c'] at h; exact absurd h (by decide)
    · refine zLs_no (fun m q => ?_)
      rcases q with ⟨w, -⟩ | ⟨-, -, j, w1, w2, w3, w4, w5⟩
      · omega
      · have w3 : tn (ea j) / 100 = a := w3
        have w4 : tn (ea j) / 10 % 10 = b := w4
        have w5 : tn (ea j) % 10 = c := w5
        have e := (ed_dig (x := tn (ea j)) (a := a) (b := b) (c := c) (by omega) (by omega)).mpr ⟨w3, w4, w5⟩
        have w1 : j < n := w1
        refine h j (by omega) ⟨w2, ?_⟩
        rw [← e]
        exact (EAI_at hE hv w1).1
/-- two parts meet only where their edges do -/
def zAq (g : GG) (S S2 a b c d : Nat) : Prop := ∀ x, zNd g S x → zNd g S2 x → (x = a ∨ x = b) ∧ (x = c ∨ x = d)
theorem aa_iff {n v S S2 a b c d : Nat} {ea : Nat → Int32} (hE : EAI n v ea) (hv : v ≤ 5) (ha : a < 5) (hb : b < 5) (hc : c < 5) (hd : d < 5) : nI (NMm ea S n &&& NMm ea S2 n) &&& (nI ((2 ^ a ||| 2 ^ b) &&& (2 ^ c ||| 2 ^ d)) ^^^ (-1)) = 0 ↔ zAq (gM n v ea) S S2 a b c d := by
  have h1 := NMm_lt (S := S) hE hv (Nat.le_refl n)
  have h2 := NMm_lt (S := S2) hE hv (Nat.le_refl n)
  have p1 := (np_pair ha hb).2
  have p2 := (np_pair hc hd).2
  rw [(zm_sub (np_and p1 p2).2 (np_and h1 h2).2).1]
  constructor
  · intro h x q1 q2
    have hx : x < 5 := Nat.lt_of_lt_of_le (zNd_vM hE hv q1) hv
    have w := h x hx (tb_and.mpr ⟨NMm_y.mpr q1, NMm_y.mpr q2⟩)
    rw [tb_and, tb_pair, tb_pair] at w
    exact w
  · intro h x hx q
    rw [tb_and, NMm_y (v := v), NMm_y (v := v)] at q
    rw [tb_and, tb_pair, tb_pair]
    exact h x q.1 q.2
theorem zA1_2 {g : GG} {r : GR} {D : Nat → Nat → Nat → Nat → Nat → Prop} {j : Nat} {d p c : Nat → Nat} (he : yS r j = 2) (hs : ∀ i, i < 3 → zSl g r D j i d (p i) (c i)) : zA1 g r j d p ↔ zAq g (p 0) (p 1) (d (yF r j 0)) (d (yT r j 0)) (d (yF r j 1)) (d (yT r j 1)) := by
  have h2 : p 2 = 0 := ((zSl_no (by omega)).mp (hs 2 (by decide))).1
  constructor
  · intro h x q1 q2
    exact ⟨h 0 1 (by decide) (by decide) (by decide) x q1 q2, h 1 0 (by decide) (by decide) (by decide) x q2 q1⟩
  · intro h i k hi hk hne x q1 q2
    rcases (show (i = 0 ∧ k = 1) ∨ (i = 1 ∧ k = 0) ∨ i = 2 ∨ k = 2 by omega) with ⟨e1, e2⟩ | ⟨e1, e2⟩ | e | e
    · subst e1 e2; exact (h x q1 q2).1
    · subst e1 e2; exact (h x q2 q1).2
    · subst e; rw [h2] at q1; exact (zNd_0 q1).elim
    · subst e; rw [h2] at q2; exact (zNd_0 q2).elim
theorem zA1_3 {g : GG} {r : GR} {j : Nat} {d p : Nat → Nat} : zA1 g r j d p ↔ zAq g (p 0) (p 1) (d (yF r j 0)) (d (yT r j 0)) (d (yF r j 1)) (d (yT r j 1)) ∧ zAq g (p 0) (p 2) (d (yF r j 0)) (d (yT r j 0)) (d (yF r j 2)) (d (yT r j 2)) ∧ zAq g (p 1) (p 2) (d (yF r j 1)) (d (yT r j 1)) (d (yF r j 2)) (d (yT r j 2)) := by
  constructor
  · intro h
    refine ⟨fun x q1 q2 => ?_, fun x q1 q2 => ?_, fun x q1 q2 => ?_⟩
    · exact ⟨h 0 1 (by decide) (by decide) (by decide) x q1 q2, h 1 0 (by decide) (by decide) (by decide) x q2 q1⟩
    · exact ⟨h 0 2 (by decide) (by decide) (by decide) x q1 q2, h 2 0 (by decide) (by decide) (by decide) x q2 q1⟩
    · exact ⟨h 1 2 (by decide) (by decide) (by decide) x q1 q2, h 2 1 (by decide) (by decide) (by decide) x q2 q1⟩
  · rintro ⟨h01, h02, h12⟩ i k hi hk hne x q1 q2
    rcases (show i = 0 ∨ i = 1 ∨ i = 2 by omega) with e | e | e <;> rcases (show k = 0 ∨ k = 1 ∨ k = 2 by omega) with f | f | f <;> subst e <;> subst f
    · exact absurd rfl hne
    · exact (h01 x q1 q2).1
    · exact (h02 x q1 q2).1
    · exact (h01 x q2 q1).2
    · exact absurd rfl hne
    · exact (h12 x q1 q2).1
    · exact (h02 x q2 q1).2
    · exact (h12 x q2 q1).2
    · exact absurd rfl hne
/-- sets from a greater one down: what is skipped -/
theorem dn_le {S on p : Nat} (hS : S < 32) (ho : SB on S) (ho2 : on < 32) (hp : SB p S) (hp2 : p < 32) (hl : p < on) : ∃ k, k < on ∧ k < 32 ∧ SB k S ∧ p ≤ k ∧ (nI on - 1) &&& nI S = nI k := by
  have A : ∀ S, S < 32 → ∀ on, on < 32 → 1 ≤ on → ((on - 1) &&& S) < on ∧ ((on - 1) &&& S) < 32 ∧ (nI on - 1) &&& nI S = nI ((on - 1) &&& S) := by decide +kernel
  have B : ∀ S, S < 32 → ∀ on, on < 32 → ∀ i, i < 5 → ((on - 1) &&& S).testBit i = true → S.testBit i = true := by decide +kernel
  have E : ∀ S, S < 32 → ∀ p, p < 32 → (∀ i, i < 5 → p.testBit i = true → S.testBit i = true) → p &&& S = p := by decide +kernel
  have C : ∀ S, S < 32 → ∀ on, on < 32 → ∀ p, p < 32 → (decide (p < on) && (on &&& S == on) && (p &&& S == p) && decide (((on - 1) &&& S) < p)) = false := by decide +kernel
  have hC : p ≤ ((on - 1) &&& S) := Nat.le_of_not_lt (fun w => by
    have e1 := E S hS on ho2 ho
    have e2 := E S hS p hp2 hp
    have q := C S hS on ho2 p hp2
    rw [decide_eq_true hl, decide_eq_true w, beq_iff_eq.mpr e1, beq_iff_eq.mpr e2] at q
    exact absurd q (by decide))
  exact ⟨(on - 1) &&& S, (A S hS on ho2 (by omega)).1, (A S hS on ho2 (by omega)).2.1, B S hS on ho2, hC, (A S hS on ho2 (by omega)).2.2⟩
/-- the next set down: every lesser one within S is at most it -/
theorem dn_nx {S on : Nat} (hS : S < 32) (ho : SB on S) (ho2 : on < 32) (h1 : 1 ≤ on) : ∃ k, k < on ∧ SB k S ∧ (∀ p, SB p S → p < on → p ≤ k) ∧ (nI on - 1) &&& nI S = nI k := by
  obtain ⟨k, a1, a2, a3, a4, a5⟩ := dn_le hS ho ho2 (p := 0) (fun i _ q => by rw [Nat.zero_testBit] at q; exact absurd q (by decide)) (by decide) (by omega)
  refine ⟨k, a1, a3, fun p hp hl => ?_, a5⟩
  obtain ⟨k2, b1, b2, b3, b4, b5⟩ := dn_le hS ho ho2 hp (by omega) hl
  rw [a5] at b5
  have := (nI_eq (by omega) (by omega)).mp b5
  omega
theorem SB_self {S : Nat} : SB S S := fun _ _ q => q
/-- dealt out with the first part above on; with on, and the second above tw -/
def zRI (Z : Nat → Nat → Nat → Prop) (A : (Nat → Nat) → Prop) (S on l : Nat) : Prop := l ≤ zM9 ∧ (l < zM9 → ∃ p c : Nat → Nat, zTh S p ∧ (∀ i, i < 3 → Z i (p i) (c i)) ∧ A p ∧ l = c 0 + c 1 + c 2) ∧ ∀ p c : Nat → Nat, zTh S p → (∀ i, i < 3 → Z i (p i) (c i)) → A p → on < p 0 → l ≤ c 0 + c 1 + c 2
def zRJ (Z : Nat → Nat → Nat → Prop) (A : (Nat → Nat) → Prop) (S e on tw l : Nat) : Prop := l ≤ zM9 ∧ (l < zM9 → ∃ p c : Nat → Nat, zTh S p ∧ (∀ i, i < 3 → Z i (p i) (c i)) ∧ A p ∧ l = c 0 + c 1 + c 2) ∧ ∀ p c : Nat → Nat, zTh S p → (∀ i, i < 3 → Z i (p i) (c i)) → A p → (on < p 0 ∨ (p 0 = on ∧ (e = 2 ∨ tw < p 1))) → l ≤ c 0 + c 1 + c 2
/-- what the slots are: the first e are filled, the others empty -/
def zZe (Z : Nat → Nat → Nat → Prop) (e : Nat) : Prop := (∀ i p n, i < e → Z i p n → ¬ p = 0) ∧ ∀ i p n, e ≤ i → Z i p n → p = 0 ∧ n = 0
theorem zZe_sl {g : GG} {r : GR} {D : Nat → Nat → Nat → Nat → Nat → Prop} {j : Nat} {d : Nat → Nat} : zZe (fun i => zSl g r D j i d) (yS r j) := ⟨fun i p n hi h => ((zSl_sv hi).mp h).1, fun i p n hi h => (zSl_no (by omega)).mp h⟩
section
variable {Z : Nat → Nat → Nat → Prop} {A : (Nat → Nat) → Prop} {S e on tw l f : Nat}
theorem zRI_0 (hS : S < 32) (hZ : zZe Z e) (he : 2 ≤ e) (hk : ∀ p, SB p S → p < S → p ≤ on) : zRI Z A S on zM9 := ⟨Nat.le_refl _, fun q => absurd q (Nat.lt_irrefl _), fun p c h1 h2 _ h4 => by
  obtain ⟨a1, a2, a3, a4, a5, a6, a7, a8, a9⟩ := zTh_sb hS h1
  have := hZ.1 1 _ _ (by omega) (h2 1 (by decide))
  have := h1.1
  have := hk _ a4 (by omega)
  omega⟩
theorem zRJ_n (hS : S < 32) (he : ¬ e = 2) (h : zRI Z A S on l) : zRJ Z A S e on 32 l := ⟨h.1, h.2.1, fun p c h1 h2 h3 h4 => h.2.2 p c h1 h2 h3 (by
  have := (zTh_sb hS h1).2.1
  omega)⟩
theorem zRJ_f (hf : zLs zM9 (Z 0 on) f) (hb : zM9 ≤ f) (h : zRI Z A S on l) : zRJ Z A S e on tw l := ⟨h.1, h.2.1, fun p c h1 h2 h3 h4 => by
  have hl := h.1
  rcases h4 with q | ⟨q, -⟩
  · exact h.2.2 p c h1 h2 h3 q
  · have w := h2 0 (by decide)
    rw [q] at w
    have := hf.2.2 _ w
    omega⟩
theorem zRJ_g {tw2 : Nat} (hf : zLs zM9 (Z 0 on) f) (hb : zM9 ≤ f) (h : zRJ Z A S e on tw2 l) : zRJ Z A S e on tw l := ⟨h.1, h.2.1, fun p c h1 h2 h3 h4 => by
  have hl := h.1
  rcases h4 with q | ⟨q, -⟩
  · exact h.2.2 p c h1 h2 h3 (Or.inl q)
  · have w := h2 0 (by decide)
    rw [q] at w
    have := hf.2.2 _ w
    omega⟩
theorem zRJ_2n (hS : S < 32) (hZ : zZe Z 2) (hA : ∀ p c : Nat → Nat, zTh S p → (∀ i, i < 3 → Z i (p i) (c i)) → p 0 = on → p 1 = S - on → ¬ A p) (h : zRI Z A S on l) : zRJ Z A S 2 on 32 l := ⟨h.1, h.2.1, fun p c h1 h2 h3 h4 => by
  rcases h4 with q | ⟨q, -⟩
  · exact h.2.2 p c h1 h2 h3 q
  · have w := (hZ.2 2 _ _ (by decide) (h2 2 (by decide))).1
    have := h1.1
    exact absurd h3 (hA p c h1 h2 q (by omega))⟩
theorem zRJ_2y {x m : Nat} (hS : S < 32) (hZ : zZe Z 2) (ho : SB on S) (ho2 : on < 32) (hf : zLs zM9 (Z 0 on) f) (hx : zLs zM9 (Z 1 (S - on)) x) (hz : Z 2 0 0) (hA : ∀ p, p 0 = on → p 1 = S - on → p 2 = 0 → (∀ i, i < 3 → ∃ n, Z i (p i) n) → A p) (hm : (f + x < l ∧ m = f + x) ∨ (l ≤ f + x ∧ m = l)) (h : zRI Z A S on l) : zRJ Z A S 2 on 32 m := by
  have hl := h.1
  refine ⟨by omega, fun q => ?_, fun p c h1 h2 h3 h4 => ?_⟩
  · rcases hm with ⟨a, b⟩ | ⟨a, b⟩
    · subst b
      have hT := zTh_mk hS ho ho2 (b := S - on) SB_self (by omega)
      have e0 : S - on - (S - on) = 0 := by omega
      have hs : ∀ i, i < 3 → Z i (p3 on (S - on) (S - on - (S - on)) i) (p3 f x 0 i) := fun i hi => by
        rcases (show i = 0 ∨ i = 1 ∨ i = 2 by omega) with e | e | e <;> subst e
        · exact hf.2.1 (by omega)
        · exact hx.2.1 (by omega)
        · show Z 2 (S - on - (S - on)) 0
          rw [e0]; exact hz
      exact ⟨_, p3 f x 0, hT.1, hs, hA _ rfl rfl e0 (fun i hi => ⟨_, hs i hi⟩), rfl⟩
    · rw [b] at q ⊢
      exact h.2.1 q
  · rcases h4 with q | ⟨q, -⟩
    · have := h.2.2 p c h1 h2 h3 q
      omega
    · have w := (hZ.2 2 _ _ (by decide) (h2 2 (by decide))).1
      have := h1.1
      have w0 := h2 0 (by decide)
      have w1 := h2 1 (by decide)
      rw [q] at w0
      rw [show p 1 = S - on by omega] at w1
      have := hf.2.2 _ w0
      have := hx.2.2 _ w1
      omega
theorem zRJ_0 (hS : S < 32) (hZ : zZe Z e) (he : e = 2 ∨ e = 3) (ho : SB on S) (ho2 : on < 32) (hk : ∀ p, SB p (S - on) → p < S - on → p ≤ tw) (h : zRJ Z A S e on 32 l) : zRJ Z A S e on tw l := ⟨h.1, h.2.1, fun p c h1 h2 h3 h4 => h.2.2 p c h1 h2 h3 (by
  rcases h4 with q | ⟨q, q2⟩
  · exact Or.inl q
  · rcases he with e2 | e3
    · exact Or.inr ⟨q, Or.inl e2⟩
    · obtain ⟨a1, a2, a3, a4, a5, a6, a7, a8, a9⟩ := zTh_sb hS h1
      have := hZ.1 2 _ _ (by omega) (h2 2 (by decide))
      rw [q] at a5 a6 a7
      have := hk _ a5 (by omega)
      omega)⟩
theorem zRJ_3n (hS : S < 32) {k : Nat} (hk : ∀ p, SB p (S - on) → p < tw → p ≤ k) (he : e = 3) (hA : ∀ p c : Nat → Nat, zTh S p → (∀ i, i < 3 → Z i (p i) (c i)) → p 0 = on → p 1 = tw → p 2 = S - on - tw → ¬ A p) (h : zRJ Z A S e on tw l) : zRJ Z A S e on k l := ⟨h.1, h.2.1, fun p c h1 h2 h3 h4 => by
  obtain ⟨a1, a2, a3, a4, a5, a6, a7, a8, a9⟩ := zTh_sb hS h1
  rcases h4 with q | ⟨q, q2⟩
  · exact h.2.2 p c h1 h2 h3 (Or.inl q)
  · rw [q] at a5 a6
    rcases Nat.lt_trichotomy tw (p 1) with w | w | w
    · exact h.2.2 p c h1 h2 h3 (Or.inr ⟨q, Or.inr w⟩)
    · exact absurd h3 (hA p c h1 h2 q w.symm (by rw [w]; exact a6))
    · have := hk _ a5 w
      omega⟩
theorem zRJ_3y (hS : S < 32) {k x y m : Nat} (hk : ∀ p, SB p (S - on) → p < tw → p ≤ k) (he : e = 3) (ho : SB on S) (ho2 : on < 32) (ht : SB tw (S - on)) (ht2 : tw < 32) (hf : zLs zM9 (Z 0 on) f) (hx : zLs zM9 (Z 1 tw) x) (hy : zLs zM9 (Z 2 (S - on - tw)) y) (hA : ∀ p, p 0 = on → p 1 = tw → p 2 = S - on - tw → A p) (hm : (f + x + y < l ∧ m = f + x + y) ∨ (l ≤ f + x + y ∧ m = l)) (h : zRJ Z A S e on tw l) : zRJ Z A S e on k m := by
  have hl := h.1
  refine ⟨by omega, fun q => ?_, fun p c h1 h2 h3 h4 => ?_⟩
  · rcases hm with ⟨a, b⟩ | ⟨a, b⟩
    · subst b
      refine ⟨p3 on tw (S - on - tw), p3 f x y, (zTh_mk hS ho ho2 ht ht2).1, fun i hi => ?_, hA _ rfl rfl rfl, rfl⟩
      rcases (show i = 0 ∨ i = 1 ∨ i = 2 by omega) with e | e | e <;> subst e
      · exact hf.2.1 (by omega)
      · exact hx.2.1 (by omega)
      · exact hy.2.1 (by omega)
    · rw [b] at q ⊢
      exact h.2.1 q
  · obtain ⟨a1, a2, a3, a4, a5, a6, a7, a8, a9⟩ := zTh_sb hS h1
    rcases h4 with q | ⟨q, q2⟩
    · have := h.2.2 p c h1 h2 h3 (Or.inl q)
      omega
    · rw [q] at a5 a6
      rcases Nat.lt_trichotomy tw (p 1) with w | w | w
      · have := h.2.2 p c h1 h2 h3 (Or.inr ⟨q, Or.inr w⟩)
        omega
      · have w0 := h2 0 (by decide)
        have w1 := h2 1 (by decide)
        have w2 := h2 2 (by decide)
        rw [q] at w0
        rw [← w] at w1
        rw [a6, ← w] at w2
        have := hf.2.2 _ w0
        have := hx.2.2 _ w1
        have := hy.2.2 _ w2
        omega
      · have := hk _ a5 w
        omega
/-- the next first part -/
theorem zRI_s (hS : S < 32) (hZ : zZe Z e) (he : e = 2 ∨ e = 3) {k : Nat} (hk : ∀ p, SB p S → p < on → p ≤ k) (ht : e = 2 ∨ tw = 0) (h : zRJ Z A S e on tw l) : zRI Z A S k l := ⟨h.1, h.2.1, fun p c h1 h2 h3 h4 => h.2.2 p c h1 h2 h3 (by
  obtain ⟨a1, a2, a3, a4, a5, a6, a7, a8, a9⟩ := zTh_sb hS h1
  rcases Nat.lt_trichotomy on (p 0) with w | w | w
  · exact Or.inl w
  · refine Or.inr ⟨w.symm, ?_⟩
    rcases ht with q | q
    · exact Or.inl q
    · have := hZ.1 1 _ _ (by omega) (h2 1 (by decide))
      exact Or.inr (by omega)
  · have := hk _ a4 w
    omega)⟩
theorem zRI_g (hS : S < 32) {k : Nat} (hk : ∀ p, SB p S → p < on → p ≤ k) (hf : zLs zM9 (Z 0 on) f) (hb : zM9 ≤ f) (h : zRJ Z A S e on tw l) : zRI Z A S k l := ⟨h.1, h.2.1, fun p c h1 h2 h3 h4 => by
  obtain ⟨a1, a2, a3, a4, a5, a6, a7, a8, a9⟩ := zTh_sb hS h1
  have hl := h.1
  rcases Nat.lt_trichotomy on (p 0) with w | w | w
  · exact h.2.2 p c h1 h2 h3 (Or.inl w)
  · have w0 := h2 0 (by decide)
    rw [← w] at w0
    have := hf.2.2 _ w0
    omega
  · have := hk _ a4 w
    omega⟩
theorem zRI_e (hZ : zZe Z e) (he : 1 ≤ e) (h : zRI Z A S 0 l) : zLs zM9 (fun n => ∃ p c : Nat → Nat, zTh S p ∧ (∀ i, i < 3 → Z i (p i) (c i)) ∧ A p ∧ n = c 0 + c 1 + c 2) l := ⟨h.1, h.2.1, fun n q => by
  obtain ⟨p, c, h1, h2, h3, h4⟩ := q
  have := hZ.1 0 _ _ (by omega) (h2 0 (by decide))
  have := h.2.2 p c h1 h2 h3 (by omega)
  omega⟩
end
end
section
/-! the reference's search: a rule's inner nodes, the sets -/
def zSpA (g : GG) (r : GR) (D : Nat → Nat → Nat → Nat → Nat → Prop) (j : Nat) (d : Nat → Nat) (S n : Nat) : Prop := ∃ p c : Nat → Nat, zTh S p ∧ (∀ i, i < 3 → zSl g r D j i d (p i) (c i)) ∧ zA1 g r j d p ∧ n = c 0 + c 1 + c 2
def zByA (g : GG) (r : GR) (D : Nat → Nat → Nat → Nat → Nat → Prop) (j s t S n : Nat) : Prop := ∃ d, d 0 = s ∧ d 1 = t ∧ zSd (yW r j) (zN g) d ∧ zSpA g r D j d S n
theorem zA1_d {g : GG} {r : GR} {D : Nat → Nat → Nat → Nat → Nat → Prop} {j : Nat} {d d2 p c : Nat → Nat} (hw : ∀ i, i < yS r j → yF r j i < yW r j ∧ yT r j i < yW r j) (hd : ∀ k, k < yW r j → d k = d2 k) (hs : ∀ i, i < 3 → zSl g r D j i d (p i) (c i)) (h : zA1 g r j d p) : zA1 g r j d2 p := fun i k hi hk hne x q1 q2 => by
  by_cases w : i < yS r j
  · rw [← hd _ (hw i w).1, ← hd _ (hw i w).2]
    exact h i k hi hk hne x q1 q2
  · have := ((zSl_no w).mp (hs i hi)).1
    rw [this] at q1
    exact (zNd_0 q1).elim
theorem zSpA_d {g : GG} {r : GR} {D : Nat → Nat → Nat → Nat → Nat → Prop} {j S n : Nat} {d d2 : Nat → Nat} (hw : ∀ i, i < yS r j → yF r j i < yW r j ∧ yT r j i < yW r j) (hd : ∀ k, k < yW r j → d k = d2 k) (h : zSpA g r D j d S n) : zSpA g r D j d2 S n := by
  obtain ⟨p, c, h1, h2, h3, h4⟩ := h
  exact ⟨p, c, h1, fun i hi => zSl_d (hw i) hd (h2 i hi), zA1_d hw hd h2 h3, h4⟩
/-- inner nodes by their number t -/
def tky (d : Nat → Nat) (w v : Nat) : Nat := dky d w 2 + v * dky d w 3
def zBK (g : GG) (r : GR) (D : Nat → Nat → Nat → Nat → Nat → Prop) (j s t S k l : Nat) : Prop := l ≤ zM9 ∧ (l < zM9 → zByA g r D j s t S l) ∧ ∀ d n, d 0 = s → d 1 = t → zSd (yW r j) (zN g) d → tky d (yW r j) (zN g) < k → zSpA g r D j d S n → l ≤ n
theorem zBK_0 {g : GG} {r : GR} {D : Nat → Nat → Nat → Nat → Nat → Prop} {j s t S : Nat} : zBK g r D j s t S 0 zM9 := ⟨Nat.le_refl _, fun q => absurd q (Nat.lt_irrefl _), fun d n _ _ _ q => absurd q (Nat.not_lt_zero _)⟩
/-- how many there are -/
def tMx (w v x : Nat) : Prop := (w = 2 ∧ x = 1) ∨ (w = 3 ∧ x = v) ∨ (w = 4 ∧ x = v * v)
theorem tky_lt {w v x : Nat} {d : Nat → Nat} (hv : v ≤ 5) (hv1 : 1 ≤ v) (h : zSd w v d) (hx : tMx w v x) : tky d w v < x := by
  unfold tky dky
  rcases hx with ⟨h1, h2⟩ | ⟨h1, h2⟩ | ⟨h1, h2⟩
  · rw [if_neg (by omega), if_neg (by omega), h2]
    omega
  · have a := (h 2 (by decide) (by omega)).1
    rw [if_pos (by omega), if_neg (by omega), h2]
    omega
  · have a := (h 2 (by decide) (by omega)).1
    have b := (h 3 (by decide) (by omega)).1
    rw [if_pos (by omega), if_pos (by omega), h2]
    rcases (show v = 1 ∨ v = 2 ∨ v = 3 ∨ v = 4 ∨ v = 5 by omega) with e | e | e | e | e <;> subst e <;> omega
theorem tky_mod {w v t x : Nat} {d : Nat → Nat} (hv : v ≤ 5) (hv1 : 1 ≤ v) (h : zSd w v d) (hx : tMx w v x) (ht : tky d w v = t) : dky d w 2 = t % v ∧ dky d w 3 = t / v := by
  have h2 : dky d w 2 < v := by
    unfold dky
    by_cases q : 2 < w
    · rw [if_pos q]; exact (h 2 (by decide) q).1
    · rw [if_neg q]; omega
  unfold tky at ht
  rcases (show v = 1 ∨ v = 2 ∨ v = 3 ∨ v = 4 ∨ v = 5 by omega) with e | e | e | e | e <;> subst e <;> omega
theorem zBK_e {g : GG} {r : GR} {D : Nat → Nat → Nat → Nat → Nat → Prop} {j s t S k l : Nat} (hv : zN g ≤ 5) (hv1 : 1 ≤ zN g) (hx : tMx (yW r j) (zN g) k) (h : zBK g r D j s t S k l) : zLs zM9 (zByA g r D j s t S) l := ⟨h.1, h.2.1, fun n q => by
  obtain ⟨d, h1, h2, h3, h4⟩ := q
  exact h.2.2 d n h1 h2 h3 (tky_lt hv hv1 h3 hx) h4⟩
/-- what areUnlike asks -/
def uLk (w : Nat) (na : Nat → Int32) : Prop := ∀ k, 2 ≤ k → k < w → ∀ j, j < k → ¬ na k = na j
def uLi (k j : Nat) (na : Nat → Int32) (x : Int32) : Prop := YN x ((∀ a, 2 ≤ a → a < k → ∀ b, b < a → ¬ na a = na b) ∧ ∀ b, b < j → ¬ na k = na b)
theorem uLi_0 {na : Nat → Int32} : uLi 2 0 na 1 := YN_y ⟨fun a h1 h2 => by omega, fun b hb => by omega⟩
theorem uLi_n {k j : Nat} {na : Nat → Int32} {x : Int32} (h : uLi k j na x) (c : x = 0) : uLi k (j + 1) na 0 := YN_n (fun q => h.no c ⟨q.1, fun b hb => q.2 b (by omega)⟩)
theorem uLi_e {k j : Nat} {na : Nat → Int32} {x : Int32} (c : na k = na j) : uLi k (j + 1) na 0 := YN_n (fun q => q.2 j (by omega) c)
theorem uLi_y {k j : Nat} {na : Nat → Int32} {x : Int32} (h : uLi k j na x) (c : ¬ x = 0) (c2 : ¬ na k = na j) : uLi k (j + 1) na 1 := YN_y ⟨(h.of c).1, fun b hb => by
  by_cases e : b = j
  · rw [e]; exact c2
  · exact (h.of c).2 b (by omega)⟩
theorem YN_iff {x : Int32} {P Q : Prop} (h : YN x P) (e : P ↔ Q) : YN x Q := by
  rcases h with ⟨a, b⟩ | ⟨a, b⟩
  · exact Or.inl ⟨a, e.mp b⟩
  · exact Or.inr ⟨a, fun q => b (e.mpr q)⟩
theorem uLi_s {k j : Nat} {na : Nat → Int32} {x : Int32} (hk2 : 2 ≤ k) (hj : j = k) (h : uLi k j na x) : uLi (k + 1) 0 na x := by
  subst hj
  refine YN_iff h ⟨fun q => ⟨fun a h1 h2 b hb => ?_, fun b hb => by omega⟩, fun q => ⟨fun a h1 h2 => q.1 a h1 (by omega), fun b hb => ?_⟩⟩
  · by_cases e : a = j
    · subst e; exact q.2 b hb
    · exact q.1 a h1 (by omega) b hb
  · exact q.1 j hk2 (by omega) b hb
theorem uLi_E {k w : Nat} {na : Nat → Int32} {x : Int32} (hk : k = w) (h : uLi k 0 na x) : YN x (uLk w na) := by
  subst hk
  exact YN_iff h ⟨fun q => q.1, fun q => ⟨q, fun b hb => by omega⟩⟩
theorem uL_d {w v s t i k : Nat} {na : Nat → Int32} (hw : w ≤ 4) (hs : s < 5) (ht : t < 5) (hi : i < v) (hk : k < v ∨ w ≤ 3) (hv : v ≤ 5) (e0 : na 0 = nI s) (e1 : na 1 = nI t) (e2 : na 2 = nI i) (e3 : na 3 = nI k) (hk5 : k < 5) : uLk w na ↔ zSd w v (fun m => tn (na m)) := by
  have t0 : tn (na 0) = s := by rw [e0, tn_nI (by omega)]
  have t1 : tn (na 1) = t := by rw [e1, tn_nI (by omega)]
  have t2 : tn (na 2) = i := by rw [e2, tn_nI (by omega)]
  have t3 : tn (na 3) = k := by rw [e3, tn_nI (by omega)]
  have key : ∀ a b, a < 4 → b < 4 → (na a = na b ↔ tn (na a) = tn (na b)) := fun a b ha hb => by
    have f : ∀ m, m < 4 → ∃ q, q < 5 ∧ na m = nI q := fun m hm => by
      rcases (show m = 0 ∨ m = 1 ∨ m = 2 ∨ m = 3 by omega) with e | e | e | e <;> subst e
      · exact ⟨s, hs, e0⟩
      · exact ⟨t, ht, e1⟩
      · exact ⟨i, by omega, e2⟩
      · exact ⟨k, hk5, e3⟩
    obtain ⟨x, hx, ex⟩ := f a ha
    obtain ⟨y, hy, ey⟩ := f b hb
    exact tn_eq ex ey (by omega) (by omega)
  constructor
  · intro h m h1 h2
    refine ⟨?_, fun b hb q => h m h1 h2 b hb ((key m b (by omega) (by omega)).mpr q)⟩
    rcases (show m = 2 ∨ m = 3 by omega) with e | e <;> subst e
    · show tn (na 2) < v
      rw [t2]; exact hi
    · show tn (na 3) < v
      rw [t3]; omega
  · intro h m h1 h2 b hb q
    exact (h m h1 h2).2 b hb ((key m b (by omega) (by omega)).mp q)
theorem zBK_y {g : GG} {r : GR} {D : Nat → Nat → Nat → Nat → Nat → Prop} {j s t S k l q m x : Nat} {na : Nat → Int32} (hv : zN g ≤ 5) (hv1 : 1 ≤ zN g) (hw4 : yW r j ≤ 4) (hx : tMx (yW r j) (zN g) x) (hw : ∀ i, i < yS r j → yF r j i < yW r j ∧ yT r j i < yW r j) (t0 : tn (na 0) = s) (t1 : tn (na 1) = t) (t2 : tn (na 2) = k % zN g) (t3 : tn (na 3) = k / zN g) (hA : zSd (yW r j) (zN g) (fun k => tn (na k))) (hq : zLs zM9 (zSpA g r D j (fun k => tn (na k)) S) q) (hm : (q < l ∧ m = q) ∨ (l ≤ q ∧ m = l)) (h : zBK g r D j s t S k l) : zBK g r D j s t S (k + 1) m := by
  have hl := h.1
  refine ⟨by omega, fun w => ?_, fun d n h1 h2 h3 h4 h5 => ?_⟩
  · rcases hm with ⟨a, b⟩ | ⟨a, b⟩
    · subst b
      exact ⟨_, t0, t1, hA, hq.2.1 (by omega)⟩
    · rw [b] at w ⊢
      exact h.2.1 w
  · rcases (show tky d (yW r j) (zN g) < k ∨ tky d (yW r j) (zN g) = k by omega) with z | z
    · have := h.2.2 d n h1 h2 h3 z h5
      omega
    · obtain ⟨z1, z2⟩ := tky_mod hv hv1 h3 hx z
      have := hq.2.2 n (zSpA_d hw (fun m hm => (dky_eq hw4 t0 t1 t2 t3 h1 h2 z1 z2 m hm).symm) h5)
      omega
theorem zBK_n {g : GG} {r : GR} {D : Nat → Nat → Nat → Nat → Nat → Prop} {j s t S k l x : Nat} {na : Nat → Int32} (hv : zN g ≤ 5) (hv1 : 1 ≤ zN g) (hw4 : yW r j ≤ 4) (hx : tMx (yW r j) (zN g) x) (t0 : tn (na 0) = s) (t1 : tn (na 1) = t) (t2 : tn (na 2) = k % zN g) (t3 : tn (na 3) = k / zN g) (hA : ¬ zSd (yW r j) (zN g) (fun k => tn (na k))) (h : zBK g r D j s t S k l) : zBK g r D j s t S (k + 1) l := ⟨h.1, h.2.1, fun d n h1 h2 h3 h4 h5 => by
  rcases (show tky d (yW r j) (zN g) < k ∨ tky d (yW r j) (zN g) = k by omega) with z | z
  · exact h.2.2 d n h1 h2 h3 z h5
  · obtain ⟨z1, z2⟩ := tky_mod hv hv1 h3 hx z
    exact absurd (zSd_d (fun m hm => (dky_eq hw4 t0 t1 t2 t3 h1 h2 z1 z2 m hm).symm) h3) hA⟩
/-- a set is laid: its numbers are right -/
def MOK (g : GG) (r : GR) (T : Nat → Nat → Nat → Nat → Nat) (S : Nat) : Prop := ∀ a s t, a < 3 → s < zN g → t < zN g → (T a S s t < zM9 → ∃ k, zR g r k a S s t (T a S s t)) ∧ ∀ k n, zR g r k a S s t n → T a S s t ≤ n
/-- all its lesser parts are laid -/
def MLs (g : GG) (r : GR) (T : Nat → Nat → Nat → Nat → Nat) (S : Nat) : Prop := ∀ p, ¬ p = 0 → SB p S → p < 32 → ¬ p = S → MOK g r T p
theorem MOK_k {g : GG} {r : GR} {T T2 : Nat → Nat → Nat → Nat → Nat} {S p : Nat} (hv : zN g ≤ 5) (hk : ∀ a S2 s t, a < 3 → S2 < 32 → s < 5 → t < 5 → ¬ S2 = S → T2 a S2 s t = T a S2 s t) (hp : p < 32) (hne : ¬ p = S) (h : MOK g r T p) : MOK g r T2 p := fun a s t ha hs ht => by
  rw [hk a p s t ha hp (by omega) (by omega) hne]
  exact h a s t ha hs ht
/-- the parts of a rule with more than one edge are lesser -/
theorem pt_ne {Z : Nat → Nat → Nat → Prop} {S e : Nat} {p c : Nat → Nat} (hZ : zZe Z e) (he : 2 ≤ e) (h1 : zTh S p) (h2 : ∀ i, i < 3 → Z i (p i) (c i)) : ∀ i, i < 3 → ¬ p i = S := fun i hi q => by
  have := h1.1
  have := hZ.1 0 _ _ (by omega) (h2 0 (by decide))
  have := hZ.1 1 _ _ (by omega) (h2 1 (by decide))
  rcases (show i = 0 ∨ i = 1 ∨ i = 2 by omega) with e | e | e <;> subst e <;> omega
theorem zTh_i {S : Nat} {p : Nat → Nat} (hS : S < 32) (h : zTh S p) {i : Nat} (hi : i < 3) : p i < 32 ∧ SB (p i) S := by
  obtain ⟨a1, a2, a3, a4, a5, a6, a7, a8, a9⟩ := zTh_sb hS h
  rcases (show i = 0 ∨ i = 1 ∨ i = 2 by omega) with e | e | e <;> subst e
  · exact ⟨a1, a4⟩
  · exact ⟨a2, a8⟩
  · exact ⟨a3, a9⟩
theorem zByA_k {g : GG} {r : GR} {T T2 : Nat → Nat → Nat → Nat → Nat} {j s t S n : Nat} (hS : S < 32) (he : 2 ≤ yS r j) (hk : ∀ a S2 s t, a < 3 → S2 < 32 → s < 5 → t < 5 → ¬ S2 = S → T2 a S2 s t = T a S2 s t) (h : zByA g r (TD zM9 T) j s t S n) : zByA g r (TD zM9 T2) j s t S n := by
  obtain ⟨d, h1, h2, h3, p, c, h4, h5, h6, h7⟩ := h
  refine ⟨d, h1, h2, h3, p, c, h4, fun i hi => ?_, h6, h7⟩
  have hne := pt_ne zZe_sl he h4 h5 i hi
  rcases h5 i hi with w | ⟨w1, w2, ⟨w3, ⟨w4, w5, w6, w7⟩, w8, w9⟩ | w3⟩
  · exact Or.inl w
  · refine Or.inr ⟨w1, w2, Or.inl ⟨w3, ⟨w4, w5, w6, w7⟩, ?_, w9⟩⟩
    rw [hk _ _ _ _ w4 w5 w6 w7 hne]
    exact w8
  · exact Or.inr ⟨w1, w2, Or.inr w3⟩
theorem zR_3 {g : GG} {r : GR} {D : Nat → Nat → Nat → Nat → Nat → Prop} {j S s t n : Nat} {d p c : Nat → Nat} (hj : j < yM r) (hst : ¬ s = t) (h1 : d 0 = s) (h2 : d 1 = t) (h3 : zSd (yW r j) (zN g) d) (h4 : zTh S p) (h5 : ∀ i, i < 3 → zSl g r D j i d (p i) (c i)) (h6 : zA1 g r j d p) (h7 : n = c 0 + c 1 + c 2) (hD : ∀ i a s t m, i < 3 → ¬ p i = 0 → s = d (yF r j i) → t = d (yT r j i) → i < yS r j → D a (p i) s t m → ∃ k, zR g r k a (p i) s t m) : ∃ k, zR g r k (yO r j) S s t (1 + n) := by
  have hs : ∀ i, i < 3 → ∃ k, zSl g r (zR g r k) j i d (p i) (c i) := fun i hi => by
    rcases h5 i hi with w | ⟨w1, w2, ⟨w3, w4⟩ | w3⟩
    · exact ⟨0, Or.inl w⟩
    · obtain ⟨k, hk⟩ := hD i _ _ _ _ hi w2 rfl rfl w1 w4
      exact ⟨k, Or.inr ⟨w1, w2, Or.inl ⟨w3, hk⟩⟩⟩
    · exact ⟨0, Or.inr ⟨w1, w2, Or.inr w3⟩⟩
  obtain ⟨k0, e0⟩ := hs 0 (by decide)
  obtain ⟨k1, e1⟩ := hs 1 (by decide)
  obtain ⟨k2, e2⟩ := hs 2 (by decide)
  refine ⟨k0 + k1 + k2 + 1, hst, j, d, p, c, ⟨hj, rfl, h1, h2, h3, h4, fun i hi => ?_, by omega⟩, h6⟩
  rcases (show i = 0 ∨ i = 1 ∨ i = 2 by omega) with e | e | e
  · subst e
    exact zSl_mono (fun _ _ _ _ _ q => by rw [show k0 + k1 + k2 = k0 + (k1 + k2) by omega]; exact zR_m q _) e0
  · subst e
    exact zSl_mono (fun _ _ _ _ _ q => by rw [show k0 + k1 + k2 = k1 + (k0 + k2) by omega]; exact zR_m q _) e1
  · subst e
    exact zSl_mono (fun _ _ _ _ _ q => by rw [show k0 + k1 + k2 = k2 + (k0 + k1) by omega]; exact zR_m q _) e2
/-- rules as the reference holds them -/
def yMF (r : GR) : Prop := ∀ j, j < yM r → yO r j < 3 ∧ 1 ≤ yS r j ∧ yS r j ≤ 3 ∧ 2 ≤ yW r j ∧ yW r j ≤ 4 ∧ (∀ i, i < yS r j → yF r j i < yW r j ∧ yT r j i < yW r j) ∧ (yS r j = 1 → yW r j = 2)
theorem rM_wf {ro re rn rg : Nat → Int32} {r : Nat} (h : MRQ ro re rn rg r) : yMF (rMd r ro re rn rg) := fun j hj => by
  obtain ⟨-, a1, -, a2, a3, -, a4, a5, a6, a7⟩ := MRQ_at h hj
  exact ⟨a1, a2, a3, a4, a5, fun i hi => ⟨(a6 i hi).2.2.1, (a6 i hi).2.2.2⟩, a7⟩
theorem d_lt {g : GG} {r : GR} {j s t k : Nat} {d : Nat → Nat} (hs : s < zN g) (ht : t < zN g) (h1 : d 0 = s) (h2 : d 1 = t) (h3 : zSd (yW r j) (zN g) d) (hk : k < yW r j) : d k < zN g := by
  rcases (show k = 0 ∨ k = 1 ∨ 2 ≤ k by omega) with e | e | e
  · subst e; omega
  · subst e; omega
  · exact (h3 k e hk).1
theorem zByA_R {g : GG} {r : GR} {T : Nat → Nat → Nat → Nat → Nat} {j s t S n : Nat} (hW : yMF r) (hS : S < 32) (hj : j < yM r) (he : 2 ≤ yS r j) (hst : ¬ s = t) (hs : s < zN g) (ht : t < zN g) (hL : MLs g r T S) (h : zByA g r (TD zM9 T) j s t S n) : ∃ k, zR g r k (yO r j) S s t (1 + n) := by
  obtain ⟨d, h1, h2, h3, p, c, h4, h5, h6, h7⟩ := h
  refine zR_3 hj hst h1 h2 h3 h4 h5 h6 h7 (fun i a s2 t2 m hi hp e1 e2 hl q => ?_)
  obtain ⟨⟨w4, w5, w6, w7⟩, w8, w9⟩ := q
  obtain ⟨f1, f2⟩ := (hW j hj).2.2.2.2.2.1 i hl
  have hne := pt_ne zZe_sl he h4 h5 i hi
  have ha := hL (p i) hp (zTh_i hS h4 hi).2 w5 hne a s2 t2 w4 (by rw [e1]; exact d_lt hs ht h1 h2 h3 f1) (by rw [e2]; exact d_lt hs ht h1 h2 h3 f2)
  rw [w8] at w9 ⊢
  exact ha.1 w9
/-- the numbers of one set and two ends while they are laid -/
def keepM (f f2 : Nat → Int32) (S s t : Nat) : Prop := ∀ a S2 s2 t2, a < 3 → S2 < 32 → s2 < 5 → t2 < 5 → ¬ (S2 = S ∧ s2 = s ∧ t2 = t) → trb f2 a S2 s2 t2 = trb f a S2 s2 t2
theorem keepM_u {f f2 : Nat → Int32} {S s t a : Nat} {x : Int32} (hS : S < 32) (hs : s < 5) (ht : t < 5) (h : keepM f f2 S s t) : keepM f (upd f2 ((((((a * 5) + s) * 5) + t) * 32) + S) x) S s t := fun b S2 s2 t2 h1 h2 h3 h4 h5 => by
  rw [← h b S2 s2 t2 h1 h2 h3 h4 h5]
  unfold trb
  rw [pk_un (fun e => h5 (by have := tr_ix h3 h4 hs ht h2 hS e; exact ⟨this.2.1, this.2.2.1, this.2.2.2⟩))]
theorem keepM_S {f f2 : Nat → Int32} {S s t : Nat} (h : keepM f f2 S s t) : ∀ a S2 s t, a < 3 → S2 < 32 → s < 5 → t < 5 → ¬ S2 = S → trb f2 a S2 s t = trb f a S2 s t := fun a S2 s2 t2 h1 h2 h3 h4 h5 => h a S2 s2 t2 h1 h2 h3 h4 (fun q => h5 q.1)
def LE0 (f f2 : Nat → Int32) (S s t k : Nat) : Prop := FWI f2 ∧ keepM f f2 S s t ∧ ∀ a, a < k → trb f2 a S s t = zM9
theorem LE0_0 {f : Nat → Int32} {S s t : Nat} (h : FWI f) : LE0 f f S s t 0 := ⟨h, fun _ _ _ _ _ _ _ _ _ => rfl, fun a ha => by omega⟩
theorem LE0_s {f f2 : Nat → Int32} {S s t k : Nat} (hS : S < 32) (hs : s < 5) (ht : t < 5) (h : LE0 f f2 S s t k) : LE0 f (upd f2 ((((((k * 5) + s) * 5) + t) * 32) + S) 1000000) S s t (k + 1) := by
  obtain ⟨h1, h2, h3⟩ := h
  refine ⟨FWI_s (q := 1000000) h1 (Nat.le_refl _), keepM_u hS hs ht h2, fun a ha => ?_⟩
  by_cases e : a = k
  · subst e
    unfold trb
    rw [pk_us]
    exact tn_nI (n := 1000000) (by decide)
  · rw [← h3 a (by omega)]
    unfold trb
    rw [pk_un (fun q => e (tr_ix hs ht hs ht hS hS q).1)]
def LEI (g : GG) (r : GR) (f f2 : Nat → Int32) (S s t i : Nat) : Prop := FWI f2 ∧ keepM f f2 S s t ∧ (∀ a, a < 3 → trb f2 a S s t < zM9 → ∃ k, zR g r k a S s t (trb f2 a S s t)) ∧ ∀ j n, j < i → 2 ≤ yS r j → ¬ s = t → zByA g r (TD zM9 (trb f)) j s t S n → trb f2 (yO r j) S s t ≤ 1 + n
theorem LEI_0 {g : GG} {r : GR} {f f2 : Nat → Int32} {S s t k : Nat} (hk : 3 ≤ k) (h : LE0 f f2 S s t k) : LEI g r f f2 S s t 0 := ⟨h.1, h.2.1, fun a ha q => by rw [h.2.2 a (by omega)] at q; exact absurd q (Nat.lt_irrefl _), fun j n hj => absurd hj (Nat.not_lt_zero _)⟩
theorem LEI_k {g : GG} {r : GR} {f f2 : Nat → Int32} {S s t i : Nat} (c : ¬ 2 ≤ yS r i) (h : LEI g r f f2 S s t i) : LEI g r f f2 S s t (i + 1) := ⟨h.1, h.2.1, h.2.2.1, fun j n hj he => by
  rcases (show j < i ∨ j = i by omega) with q | q
  · exact h.2.2.2 j n q he
  · subst q; exact absurd he c⟩
theorem LEI_x {g : GG} {r : GR} {f f2 : Nat → Int32} {S s t i k : Nat} (c : s = t) (h : LEI g r f f2 S s t i) : LEI g r f f2 S s t k := ⟨h.1, h.2.1, h.2.2.1, fun j n _ _ he => absurd c he⟩
theorem LEI_n {g : GG} {r : GR} {f f2 : Nat → Int32} {S s t i q : Nat} (hS : S < 32) (hq : zLs zM9 (zByA g r (TD zM9 (trb f2)) i s t S) q) (c : trb f2 (yO r i) S s t ≤ q + 1) (h : LEI g r f f2 S s t i) : LEI g r f f2 S s t (i + 1) := ⟨h.1, h.2.1, h.2.2.1, fun j n hj he hst w => by
  rcases (show j < i ∨ j = i by omega) with z | z
  · exact h.2.2.2 j n z he hst w
  · subst z
    have := hq.2.2 n (zByA_k hS he (keepM_S h.2.1) w)
    omega⟩
theorem LEI_y {g : GG} {r : GR} {f f2 : Nat → Int32} {S s t i q : Nat} (hW : yMF r) (hv : zN g ≤ 5) (hS : S < 32) (hs : s < zN g) (ht : t < zN g) (hst : ¬ s = t) (hi : i < yM r) (he : 2 ≤ yS r i) (hL : MLs g r (trb f) S) (hq : zLs zM9 (zByA g r (TD zM9 (trb f2)) i s t S) q) (c : q + 1 < trb f2 (yO r i) S s t) (h : LEI g r f f2 S s t i) : LEI g r f (upd f2 ((((((yO r i * 5) + s) * 5) + t) * 32) + S) (nI (q + 1))) S s t (i + 1) := by
  obtain ⟨h1, h2, h3, h4⟩ := h
  have ho := (hW i hi).1
  have hT : trb f2 (yO r i) S s t ≤ zM9 := (FWI_at h1 (by omega)).2
  have hM9 : zM9 = 1000000 := rfl
  have hnew : trb (upd f2 ((((((yO r i * 5) + s) * 5) + t) * 32) + S) (nI (q + 1))) (yO r i) S s t = q + 1 := by
    unfold trb
    rw [pk_us, tn_nI (by omega)]
  have hother : ∀ a, ¬ a = yO r i → trb (upd f2 ((((((yO r i * 5) + s) * 5) + t) * 32) + S) (nI (q + 1))) a S s t = trb f2 a S s t := fun a ha => by
    unfold trb
    rw [pk_un (fun e => ha (tr_ix (by omega) (by omega) (by omega) (by omega) hS hS e).1)]
  refine ⟨FWI_s h1 (by omega), keepM_u hS (by omega) (by omega) h2, fun a ha w => ?_, fun j n hj hej hst2 w => ?_⟩
  · by_cases e : a = yO r i
    · subst e
      rw [hnew]
      obtain ⟨k, hk⟩ := zByA_R hW hS hi he hst hs ht (fun p p1 p2 p3 p4 => MOK_k hv (keepM_S h2) p3 p4 (hL p p1 p2 p3 p4)) (hq.2.1 (by omega))
      rw [Nat.add_comm] at hk
      exact ⟨k, hk⟩
    · rw [hother a e] at w ⊢
      exact h3 a ha w
  · have hle : trb (upd f2 ((((((yO r i * 5) + s) * 5) + t) * 32) + S) (nI (q + 1))) (yO r j) S s t ≤ trb f2 (yO r j) S s t := by
      by_cases e : yO r j = yO r i
      · rw [e, hnew]; omega
      · rw [hother _ e]; exact Nat.le_refl _
    rcases (show j < i ∨ j = i by omega) with z | z
    · exact Nat.le_trans hle (h4 j n z hej hst2 w)
    · subst z
      have := hq.2.2 n (zByA_k hS hej (keepM_S h2) w)
      rw [hnew]
      omega
end
section
/-! the reference's search: rules of one edge, whole sets, the whole -/
def dd2 (s t : Nat) : Nat → Nat := fun k => if k = 0 then s else t
theorem dd2_lt {s t k v : Nat} (hs : s < v) (ht : t < v) : dd2 s t k < v := by
  unfold dd2
  split
  · exact hs
  · exact ht
/-- closed under the first i rules of one edge, at two ends -/
def CL1 (g : GG) (r : GR) (f : Nat → Int32) (S s t i : Nat) : Prop := ∀ j q, j < i → yS r j = 1 → ¬ s = t → zSv g (TD zM9 (trb f)) (yL r j 0) S (dd2 s t (yF r j 0)) (dd2 s t (yT r j 0)) q → trb f (yO r j) S s t ≤ 1 + q
/-- what the table says of a set is so -/
def SND (g : GG) (r : GR) (f : Nat → Int32) (S : Nat) : Prop := ∀ a s t, a < 3 → s < zN g → t < zN g → trb f a S s t < zM9 → ∃ k, zR g r k a S s t (trb f a S s t)
/-- other sets are as they were -/
def KS (f f2 : Nat → Int32) (S : Nat) : Prop := ∀ a S2 s t, a < 3 → S2 < 32 → s < 5 → t < 5 → ¬ S2 = S → trb f2 a S2 s t = trb f a S2 s t
theorem KS_0 {f : Nat → Int32} {S : Nat} : KS f f S := fun _ _ _ _ _ _ _ _ _ => rfl
theorem KS_t {f f2 f3 : Nat → Int32} {S : Nat} (h1 : KS f f2 S) (h2 : KS f2 f3 S) : KS f f3 S := fun a S2 s t w1 w2 w3 w4 w5 => (h2 a S2 s t w1 w2 w3 w4 w5).trans (h1 a S2 s t w1 w2 w3 w4 w5)
theorem MLs_k {g : GG} {r : GR} {f f2 : Nat → Int32} {S : Nat} (hv : zN g ≤ 5) (hk : KS f f2 S) (h : MLs g r (trb f) S) : MLs g r (trb f2) S := fun p p1 p2 p3 p4 => MOK_k hv hk p3 p4 (h p p1 p2 p3 p4)
theorem zA1_1 {g : GG} {r : GR} {j S : Nat} {d : Nat → Nat} : zA1 g r j d (fun i => if i = 0 then S else 0) := fun i i2 hi hi2 hne v q1 q2 => by
  by_cases e : i = 0
  · have e2 : (if i2 = 0 then S else 0) = 0 := if_neg (fun z => hne (e.trans z.symm))
    have q3 : zNd g (if i2 = 0 then S else 0) v := q2
    rw [e2] at q3
    exact (zNd_0 q3).elim
  · have e2 : (if i = 0 then S else 0) = 0 := if_neg e
    have q3 : zNd g (if i = 0 then S else 0) v := q1
    rw [e2] at q3
    exact (zNd_0 q3).elim
theorem zSv_R {g : GG} {r : GR} {f : Nat → Int32} {j S s t q : Nat} (hW : yMF r) (hj : j < yM r) (h1 : yS r j = 1) (hst : ¬ s = t) (hS : ¬ S = 0) (hs : s < zN g) (ht : t < zN g) (hSn : SND g r f S) (h : zSv g (TD zM9 (trb f)) (yL r j 0) S (dd2 s t (yF r j 0)) (dd2 s t (yT r j 0)) q) : ∃ k, zR g r k (yO r j) S s t (1 + q) := by
  have hw2 := (hW j hj).2.2.2.2.2.2 h1
  refine zR_3 (D := TD zM9 (trb f)) (d := dd2 s t) (p := fun i => if i = 0 then S else 0) (c := fun i => if i = 0 then q else 0) hj hst rfl rfl (fun k k1 k2 => by omega) (zTh_1 S) (fun i hi => ?_) zA1_1 rfl (fun i a s2 t2 m hi hp e1 e2 hl w => ?_)
  · by_cases e : i = 0
    · subst e
      exact (zSl_sv (by omega)).mpr ⟨hS, h⟩
    · exact (zSl_no (by omega)).mpr ⟨if_neg e, if_neg e⟩
  · have e : i = 0 := by omega
    subst e
    obtain ⟨⟨w1, w2, w3, w4⟩, w5, w6⟩ := w
    have w5 : m = trb f a S s2 t2 := w5
    rw [w5] at w6 ⊢
    exact hSn a s2 t2 w1 (by rw [e1]; exact dd2_lt hs ht) (by rw [e2]; exact dd2_lt hs ht) w6
/-- the rules of one edge at two ends, as far as they are -/
def LSI (g : GG) (r : GR) (f f2 : Nat → Int32) (S s t i : Nat) (go : Int32) : Prop := (∀ k, tn (f2 k) ≤ tn (f k)) ∧ KS f f2 S ∧ SND g r f2 S ∧ (go = 0 → f2 = f ∧ CL1 g r f S s t i)
theorem LSI_0 {g : GG} {r : GR} {f : Nat → Int32} {S s t : Nat} (h : SND g r f S) : LSI g r f f S s t 0 0 := ⟨fun _ => Nat.le_refl _, KS_0, h, fun _ => ⟨rfl, fun j q hj => absurd hj (Nat.not_lt_zero _)⟩⟩
theorem LSI_k {g : GG} {r : GR} {f f2 : Nat → Int32} {S s t i : Nat} {go : Int32} (c : ¬ yS r i = 1) (h : LSI g r f f2 S s t i go) : LSI g r f f2 S s t (i + 1) go := ⟨h.1, h.2.1, h.2.2.1, fun z => ⟨(h.2.2.2 z).1, fun j q hj he => by
  rcases (show j < i ∨ j = i by omega) with w | w
  · exact (h.2.2.2 z).2 j q w he
  · subst w; exact absurd he c⟩⟩
theorem LSI_x {g : GG} {r : GR} {f f2 : Nat → Int32} {S s t i k : Nat} {go : Int32} (c : s = t) (h : LSI g r f f2 S s t i go) : LSI g r f f2 S s t k go := ⟨h.1, h.2.1, h.2.2.1, fun z => ⟨(h.2.2.2 z).1, fun _ _ _ _ e => absurd c e⟩⟩
theorem LSI_n {g : GG} {r : GR} {f f2 : Nat → Int32} {S s t i q : Nat} {go go2 : Int32} (hg : go2 = 0 → go = 0) (hq : zLs zM9 (zSv g (TD zM9 (trb f2)) (yL r i 0) S (dd2 s t (yF r i 0)) (dd2 s t (yT r i 0))) q) (c : trb f2 (yO r i) S s t ≤ q + 1) (h : LSI g r f f2 S s t i go) : LSI g r f f2 S s t (i + 1) go2 := ⟨h.1, h.2.1, h.2.2.1, fun z => by
  obtain ⟨h4, h5⟩ := h.2.2.2 (hg z)
  refine ⟨h4, fun j x hj he hst w => ?_⟩
  rcases (show j < i ∨ j = i by omega) with y | y
  · exact h5 j x y he hst w
  · subst y
    rw [h4] at hq c
    have := hq.2.2 x w
    omega⟩
theorem LSI_y {g : GG} {r : GR} {f f2 : Nat → Int32} {S s t i q : Nat} {go : Int32} (hW : yMF r) (hv : zN g ≤ 5) (hF : FWI f2) (hi : i < yM r) (h1 : yS r i = 1) (hst : ¬ s = t) (hS : ¬ S = 0) (hS2 : S < 32) (hs : s < zN g) (ht : t < zN g) (hq : zLs zM9 (zSv g (TD zM9 (trb f2)) (yL r i 0) S (dd2 s t (yF r i 0)) (dd2 s t (yT r i 0))) q) (c : q + 1 < trb f2 (yO r i) S s t) (h : LSI g r f f2 S s t i go) : LSI g r f (upd f2 ((((((yO r i * 5) + s) * 5) + t) * 32) + S) (nI (q + 1))) S s t (i + 1) 1 := by
  obtain ⟨a1, a2, a3, a4⟩ := h
  have ho := (hW i hi).1
  have hT : trb f2 (yO r i) S s t ≤ zM9 := (FWI_at hF (by omega)).2
  have hM9 : zM9 = 1000000 := rfl
  have hnew : trb (upd f2 ((((((yO r i * 5) + s) * 5) + t) * 32) + S) (nI (q + 1))) (yO r i) S s t = q + 1 := by
    unfold trb
    rw [pk_us, tn_nI (by omega)]
  have hother : ∀ a S2 s2 t2, S2 < 32 → s2 < 5 → t2 < 5 → ¬ (a = yO r i ∧ S2 = S ∧ s2 = s ∧ t2 = t) → trb (upd f2 ((((((yO r i * 5) + s) * 5) + t) * 32) + S) (nI (q + 1))) a S2 s2 t2 = trb f2 a S2 s2 t2 := fun a S2 s2 t2 w1 w2 w3 w4 => by
    unfold trb
    rw [pk_un (fun e => w4 (tr_ix w2 w3 (by omega) (by omega) w1 hS2 e))]
  refine ⟨fun k => ?_, fun a S2 s2 t2 w1 w2 w3 w4 w5 => ?_, fun a s2 t2 w1 w2 w3 w4 => ?_, fun z => absurd z (by decide)⟩
  · by_cases e : k = (((((yO r i * 5) + s) * 5) + t) * 32) + S
    · subst e
      rw [pk_us, tn_nI (by omega)]
      exact Nat.le_trans (Nat.le_of_lt c) (a1 _)
    · rw [pk_un e]; exact a1 k
  · rw [hother a S2 s2 t2 w2 w3 w4 (fun e => w5 e.2.1)]
    exact a2 a S2 s2 t2 w1 w2 w3 w4 w5
  · by_cases e : a = yO r i ∧ S = S ∧ s2 = s ∧ t2 = t
    · obtain ⟨e1, -, e3, e4⟩ := e
      subst e1 e3 e4
      rw [hnew]
      obtain ⟨k, hk⟩ := zSv_R hW hi h1 hst hS hs ht a3 (hq.2.1 (by omega))
      rw [Nat.add_comm] at hk
      exact ⟨k, hk⟩
    · rw [hother a S s2 t2 hS2 (by omega) (by omega) e] at w4 ⊢
      exact a3 a s2 t2 w1 w2 w3 w4
/-- closed under the rules of more edges -/
def BIG (g : GG) (r : GR) (f : Nat → Int32) (S : Nat) : Prop := ∀ j s t n, s < zN g → t < zN g → j < yM r → 2 ≤ yS r j → ¬ s = t → zByA g r (TD zM9 (trb f)) j s t S n → trb f (yO r j) S s t ≤ 1 + n
theorem zByA_b {g : GG} {r : GR} {f f2 : Nat → Int32} {j s t S n : Nat} (hS : S < 32) (he : 2 ≤ yS r j) (hk : KS f f2 S) (h : zByA g r (TD zM9 (trb f2)) j s t S n) : zByA g r (TD zM9 (trb f)) j s t S n := zByA_k hS he (fun a S2 s t w1 w2 w3 w4 w5 => (hk a S2 s t w1 w2 w3 w4 w5).symm) h
theorem BIG_le {g : GG} {r : GR} {f f2 : Nat → Int32} {S : Nat} (hS : S < 32) (hk : KS f f2 S) (hl : ∀ k, tn (f2 k) ≤ tn (f k)) (h : BIG g r f S) : BIG g r f2 S := fun j s t n h1 h2 h3 h4 h5 h6 => Nat.le_trans (hl _) (h j s t n h1 h2 h3 h4 h5 (zByA_b hS h4 hk h6))
/-- a pass over all ends -/
def PSI (g : GG) (r : GR) (f f2 : Nat → Int32) (S so ta : Nat) (go : Int32) : Prop := (∀ k, tn (f2 k) ≤ tn (f k)) ∧ KS f f2 S ∧ SND g r f2 S ∧ (go = 0 → f2 = f ∧ ∀ s t, s < zN g → t < zN g → (s < so ∨ (s = so ∧ t < ta)) → CL1 g r f S s t (yM r))
theorem PSI_0 {g : GG} {r : GR} {f : Nat → Int32} {S : Nat} {go : Int32} (h : SND g r f S) : PSI g r f f S 0 0 go := ⟨fun _ => Nat.le_refl _, KS_0, h, fun _ => ⟨rfl, fun s t _ _ q => by omega⟩⟩
theorem PSI_s {g : GG} {r : GR} {f f2 f3 : Nat → Int32} {S so ta : Nat} {go x go2 : Int32} (hg : go2 = 0 → go = 0 ∧ x = 0) (hL : LSI g r f2 f3 S so ta (yM r) x) (h : PSI g r f f2 S so ta go) : PSI g r f f3 S so (ta + 1) go2 := ⟨fun k => Nat.le_trans (hL.1 k) (h.1 k), KS_t h.2.1 hL.2.1, hL.2.2.1, fun z => by
  obtain ⟨z1, z2⟩ := hg z
  obtain ⟨a1, a2⟩ := h.2.2.2 z1
  obtain ⟨b1, b2⟩ := hL.2.2.2 z2
  refine ⟨b1.trans a1, fun s t hs ht q => ?_⟩
  rcases (show (s < so ∨ (s = so ∧ t < ta)) ∨ (s = so ∧ t = ta) by omega) with w | ⟨w1, w2⟩
  · exact a2 s t hs ht w
  · subst w1 w2
    rw [← a1]
    exact b2⟩
theorem PSI_r {g : GG} {r : GR} {f f2 : Nat → Int32} {S so ta : Nat} {go : Int32} (ht : zN g ≤ ta) (h : PSI g r f f2 S so ta go) : PSI g r f f2 S (so + 1) 0 go := ⟨h.1, h.2.1, h.2.2.1, fun z => ⟨(h.2.2.2 z).1, fun s t hs ht2 q => (h.2.2.2 z).2 s t hs ht2 (by omega)⟩⟩
/-- between two passes -/
def WSI (g : GG) (r : GR) (f0 f : Nat → Int32) (S : Nat) (go : Int32) : Prop := KS f0 f S ∧ SND g r f S ∧ BIG g r f S ∧ (go = 0 → ∀ s t, s < zN g → t < zN g → CL1 g r f S s t (yM r))
theorem WSI_s {g : GG} {r : GR} {f0 f f2 : Nat → Int32} {S so : Nat} {go go2 : Int32} (hS : S < 32) (hso : zN g ≤ so) (hp : PSI g r f f2 S so 0 go2) (h : WSI g r f0 f S go) : WSI g r f0 f2 S go2 := ⟨KS_t h.1 hp.2.1, hp.2.2.1, BIG_le hS hp.2.1 hp.1 h.2.2.1, fun z s t hs ht => by
  obtain ⟨a1, a2⟩ := hp.2.2.2 z
  rw [a1]
  exact a2 s t hs ht (Or.inl (by omega))⟩
theorem FWI_le {f : Nat → Int32} {S a s t : Nat} (hF : FWI f) (hS : S < 32) (ha : a < 3) (hs : s < 5) (ht : t < 5) : trb f a S s t ≤ zM9 := (FWI_at hF (by omega)).2
/-- a set is right -/
theorem MOK_fin {g : GG} {r : GR} {f : Nat → Int32} {S : Nat} (hW : yMF r) (hv : zN g ≤ 5) (hS : S < 32) (hL : MLs g r (trb f) S) (hF : FWI f) (hSn : SND g r f S) (hB : BIG g r f S) (hC : ∀ s t, s < zN g → t < zN g → CL1 g r f S s t (yM r)) : MOK g r (trb f) S := by
  have key : ∀ k a s t n, a < 3 → s < zN g → t < zN g → zR g r k a S s t n → trb f a S s t ≤ n := by
    intro k
    induction k with
    | zero => intro a s t n _ _ _ h; exact h.elim
    | succ k ih =>
      intro a s t n ha hs ht h
      obtain ⟨hst, j, d, p, c, ⟨a1, a2, a3, a4, a5, a6, a7, a8⟩, h3⟩ := h
      obtain ⟨w1, w2, w3, w4, w5, w6, w7⟩ := hW j a1
      have hT : trb f a S s t ≤ zM9 := FWI_le hF hS ha (by omega) (by omega)
      have hsum := a6.1
      by_cases e : yS r j = 1
      · have m1 := (zSl_no (by omega)).mp (a7 1 (by decide))
        have m2 := (zSl_no (by omega)).mp (a7 2 (by decide))
        have hp0 : p 0 = S := by omega
        have m0 := (zSl_sv (show 0 < yS r j by omega)).mp (a7 0 (by decide))
        rw [hp0] at m0
        obtain ⟨f1, f2⟩ := w6 0 (by omega)
        have hw := w7 e
        have hd : ∀ k, k < 2 → d k = dd2 s t k := fun k hk => by
          rcases (show k = 0 ∨ k = 1 by omega) with z | z <;> subst z
          · exact a3
          · exact a4
        rw [hd _ (by omega), hd _ (by omega)] at m0
        rcases m0.2 with ⟨z1, z2⟩ | ⟨z1, z2, z3⟩
        · have hu := dd2_lt (k := yF r j 0) hs ht
          have hu2 := dd2_lt (k := yT r j 0) hs ht
          have i1 := ih _ _ _ _ z1 hu hu2 z2
          by_cases y : trb f (yL r j 0) S (dd2 s t (yF r j 0)) (dd2 s t (yT r j 0)) < zM9
          · have := hC s t hs ht j _ a1 e hst (Or.inl ⟨z1, ⟨z1, hS, by omega, by omega⟩, rfl, y⟩)
            rw [a2] at this
            omega
          · omega
        · have := hC s t hs ht j 0 a1 e hst (Or.inr ⟨z1, rfl, z3⟩)
          rw [a2] at this
          omega
      · have he : 2 ≤ yS r j := by omega
        have hne := pt_ne zZe_sl he a6 a7
        have hsl : ∀ i, i < 3 → (∃ n2, n2 ≤ c i ∧ zSl g r (TD zM9 (trb f)) j i d (p i) n2) ∨ zM9 ≤ c i := fun i hi => by
          rcases a7 i hi with w | ⟨x1, x2, ⟨x3, x4⟩ | x3⟩
          · exact Or.inl ⟨c i, Nat.le_refl _, Or.inl w⟩
          · obtain ⟨f1, f2⟩ := w6 i x1
            have u1 := d_lt hs ht a3 a4 a5 f1
            have u2 := d_lt hs ht a3 a4 a5 f2
            have q := (hL (p i) x2 (zTh_i hS a6 hi).2 (zTh_i hS a6 hi).1 (hne i hi) _ _ _ x3 u1 u2).2 _ _ x4
            by_cases y : trb f (yL r j i) (p i) (d (yF r j i)) (d (yT r j i)) < zM9
            · exact Or.inl ⟨_, q, Or.inr ⟨x1, x2, Or.inl ⟨x3, ⟨x3, (zTh_i hS a6 hi).1, by omega, by omega⟩, rfl, y⟩⟩⟩
            · exact Or.inr (by omega)
          · exact Or.inl ⟨c i, Nat.le_refl _, Or.inr ⟨x1, x2, Or.inr x3⟩⟩
        rcases hsl 0 (by decide) with ⟨n0, b0, c0⟩ | z
        · rcases hsl 1 (by decide) with ⟨n1, b1, c1⟩ | z
          · rcases hsl 2 (by decide) with ⟨n2, b2, c2⟩ | z
            · have := hB j s t (n0 + n1 + n2) hs ht a1 he hst ⟨d, a3, a4, a5, p, p3 n0 n1 n2, a6, fun i hi => by
                rcases (show i = 0 ∨ i = 1 ∨ i = 2 by omega) with e | e | e <;> subst e
                · exact c0
                · exact c1
                · exact c2, h3, rfl⟩
              rw [a2] at this
              omega
            · omega
          · omega
        · omega
  exact fun a s t ha hs ht => ⟨fun h => hSn a s t ha hs ht h, fun k n h => key k a s t n ha hs ht h⟩
/-- the ends of a set, as far as they are laid -/
def EPI (g : GG) (r : GR) (f f2 : Nat → Int32) (S so ta : Nat) : Prop := FWI f2 ∧ KS f f2 S ∧ ∀ s t, s < zN g → t < zN g → (s < so ∨ (s = so ∧ t < ta)) → (∀ a, a < 3 → trb f2 a S s t < zM9 → ∃ k, zR g r k a S s t (trb f2 a S s t)) ∧ ∀ j n, j < yM r → 2 ≤ yS r j → ¬ s = t → zByA g r (TD zM9 (trb f)) j s t S n → trb f2 (yO r j) S s t ≤ 1 + n
theorem EPI_0 {g : GG} {r : GR} {f : Nat → Int32} {S : Nat} (h : FWI f) : EPI g r f f S 0 0 := ⟨h, KS_0, fun s t _ _ q => by omega⟩
theorem EPI_s {g : GG} {r : GR} {f f2 f3 : Nat → Int32} {S so ta : Nat} (hW : yMF r) (hS : S < 32) (hv : zN g ≤ 5) (hL : LEI g r f2 f3 S so ta (yM r)) (h : EPI g r f f2 S so ta) : EPI g r f f3 S so (ta + 1) := by
  obtain ⟨h1, h2, h3⟩ := h
  obtain ⟨l1, l2, l3, l4⟩ := hL
  refine ⟨l1, KS_t h2 (keepM_S l2), fun s t hs ht q => ?_⟩
  by_cases w : s = so ∧ t = ta
  · obtain ⟨w1, w2⟩ := w
    subst w1 w2
    exact ⟨l3, fun j n hj he hst z => l4 j n hj he hst (zByA_k hS he h2 z)⟩
  · obtain ⟨b1, b2⟩ := h3 s t hs ht (by omega)
    have hk : ∀ a, a < 3 → trb f3 a S s t = trb f2 a S s t := fun a ha => l2 a S s t ha hS (by omega) (by omega) (fun z => w z.2)
    refine ⟨fun a ha z => ?_, fun j n hj he hst z => ?_⟩
    · rw [hk a ha] at z ⊢
      exact b1 a ha z
    · rw [hk _ (hW j hj).1]
      exact b2 j n hj he hst z
theorem EPI_r {g : GG} {r : GR} {f f2 : Nat → Int32} {S so ta : Nat} (ht : zN g ≤ ta) (h : EPI g r f f2 S so ta) : EPI g r f f2 S (so + 1) 0 := ⟨h.1, h.2.1, fun s t hs ht2 q => h.2.2 s t hs ht2 (by omega)⟩
theorem EPI_e {g : GG} {r : GR} {f f2 : Nat → Int32} {S so : Nat} (hS : S < 32) (hso : zN g ≤ so) (h : EPI g r f f2 S so 0) : WSI g r f f2 S 1 := ⟨h.2.1, fun a s t ha hs ht q => (h.2.2 s t hs ht (Or.inl (by omega))).1 a ha q, fun j s t n hs ht hj he hst z => (h.2.2 s t hs ht (Or.inl (by omega))).2 j n hj he hst (zByA_b hS he h.2.1 z), fun z => absurd z (by decide)⟩
theorem WSI_e {g : GG} {r : GR} {f0 f : Nat → Int32} {S : Nat} {go : Int32} (hW : yMF r) (hv : zN g ≤ 5) (hS : S < 32) (hL : MLs g r (trb f0) S) (hF : FWI f) (c : go = 0) (h : WSI g r f0 f S go) : KS f0 f S ∧ MOK g r (trb f) S := ⟨h.1, MOK_fin hW hv hS (MLs_k hv h.1 hL) hF h.2.1 h.2.2.1 (h.2.2.2 c)⟩
/-- the sets, by how many edges they have -/
def LFI (g : GG) (r : GR) (f : Nat → Int32) (mm sx : Nat) : Prop := FWI f ∧ ∀ S, 1 ≤ S → S < 2 ^ zE g → (zpc S < mm ∨ (zpc S = mm ∧ S < sx)) → MOK g r (trb f) S
theorem LFI_0 {g : GG} {r : GR} {f : Nat → Int32} (hn : zE g ≤ 5) (h : FWI f) : LFI g r f 1 1 := ⟨h, fun S h1 h2 q => by
  have := Nat.pow_le_pow_right (n := 2) (by decide) hn
  have := zpc_pos (S := S) (by omega) (by omega)
  omega⟩
theorem LFI_n {g : GG} {r : GR} {f : Nat → Int32} {mm sx : Nat} (c : ¬ zpc sx = mm) (h : LFI g r f mm sx) : LFI g r f mm (sx + 1) := ⟨h.1, fun S h1 h2 q => h.2 S h1 h2 (by
  rcases q with q | ⟨q1, q2⟩
  · exact Or.inl q
  · refine Or.inr ⟨q1, ?_⟩
    by_cases e : S = sx
    · subst e; exact absurd q1 c
    · omega)⟩
theorem LFI_m {g : GG} {r : GR} {f : Nat → Int32} {mm sx : Nat} (c : zpc sx = mm) (hx : sx < 2 ^ zE g) (hn : zE g ≤ 5) (h : LFI g r f mm sx) : MLs g r (trb f) sx := fun p p1 p2 p3 p4 => by
  have := Nat.pow_le_pow_right (n := 2) (by decide) hn
  have h32 : sx < 32 := by omega
  have := zpc_lt h32 p3 p2 p4
  have := ((zm_sub h32 p3).2 p2).2.1
  exact h.2 p (by omega) (by omega) (Or.inl (by omega))
theorem LFI_y {g : GG} {r : GR} {f f2 : Nat → Int32} {mm sx : Nat} (hv : zN g ≤ 5) (hn : zE g ≤ 5) (hF : FWI f2) (hk : KS f f2 sx) (hM : MOK g r (trb f2) sx) (h : LFI g r f mm sx) : LFI g r f2 mm (sx + 1) := ⟨hF, fun S h1 h2 q => by
  have := Nat.pow_le_pow_right (n := 2) (by decide) hn
  by_cases e : S = sx
  · subst e; exact hM
  · exact MOK_k hv hk (by omega) e (h.2 S h1 h2 (by omega))⟩
theorem LFI_r {g : GG} {r : GR} {f : Nat → Int32} {mm sx : Nat} (hx : 2 ^ zE g ≤ sx) (h : LFI g r f mm sx) : LFI g r f (mm + 1) 1 := ⟨h.1, fun S h1 h2 q => h.2 S h1 h2 (by omega)⟩
theorem LFI_e {g : GG} {r : GR} {f : Nat → Int32} {mm : Nat} (hn : zE g ≤ 5) (hm : zE g < mm) (h : LFI g r f mm 1) : ∀ S, 1 ≤ S → S < 2 ^ zE g → MOK g r (trb f) S := fun S h1 h2 => h.2 S h1 h2 (Or.inl (Nat.lt_of_le_of_lt (zpc_le hn h2) hm))
/-- the reference's search is done for this graph and these rules -/
def MOF (n v : Nat) (ea ro re rn rg : Nat → Int32) (r : Nat) (f : Nat → Int32) : Prop := n ≤ 5 ∧ v ≤ 5 ∧ ∀ S, 1 ≤ S → S < 2 ^ n → MOK (gM n v ea) (rMd r ro re rn rg) (trb f) S
def FeM (p : Int32) (n v : Nat) (ea ro re rn rg : Nat → Int32) (r : Nat) (a : Int32) : Prop := (wi p 0 2 = 0 ∧ a = -1001) ∨ (¬ wi p 0 2 = 0 ∧ (mDn ea n = 0 ∨ 5 < n ∨ 5 < v) ∧ a = -1003) ∨ ∃ k f, k < 3 ∧ p = nI k ∧ ¬ mDn ea n = 0 ∧ 1 ≤ n ∧ FWI f ∧ MOF n v ea ro re rn rg r f ∧ a = if trb f k (2 ^ n - 1) 0 1 < zM9 then nI (trb f k (2 ^ n - 1) 0 1) else -1
end
section
/-! the reference's search: what its walks ask -/
theorem fw_le {f : Nat → Int32} {k q : Nat} (h : FWI f) (hk : k < 2400) (hq : q < 2147483648) (c : f k ≤ nI q) : tn (f k) ≤ q := by
  obtain ⟨e, l⟩ := FWI_at h hk
  rw [e] at c
  exact leN hq (by have : zM9 = 1000000 := rfl; omega) c
theorem fw_lt {f : Nat → Int32} {k q : Nat} (h : FWI f) (hk : k < 2400) (hq : q < 2147483648) (c : ¬ f k ≤ nI q) : q < tn (f k) := by
  obtain ⟨e, l⟩ := FWI_at h hk
  rw [e] at c
  exact nleN hq (by have : zM9 = 1000000 := rfl; omega) c
/-- a rule's edges as they lie there -/
def MJE (gr : GR) (j : Nat) (re rg : Nat → Int32) : Prop := re j = nI (yS gr j) ∧ 1 ≤ yS gr j ∧ yS gr j ≤ 3 ∧ yW gr j ≤ 4 ∧ ∀ i, i < yS gr j → rg (3 * j + i) = nI (tn (rg (3 * j + i))) ∧ tn (rg (3 * j + i)) < 500 ∧ yF gr j i < yW gr j ∧ yT gr j i < yW gr j ∧ yL gr j i = tn (rg (3 * j + i)) / 100 ∧ yF gr j i = tn (rg (3 * j + i)) / 10 % 10 ∧ yT gr j i = tn (rg (3 * j + i)) % 10
theorem MJ_e {ro re rn rg : Nat → Int32} {r j : Nat} (h : MJ (rMd r ro re rn rg) j ro re rn rg) : MJE (rMd r ro re rn rg) j re rg := by
  obtain ⟨-, -, h1, h2, h3, -, -, h4, h5, -⟩ := h
  exact ⟨h1, h2, h3, h4, fun i hi => ⟨(h5 i hi).1, (h5 i hi).2.1, (h5 i hi).2.2.1, (h5 i hi).2.2.2, rfl, rfl, rfl⟩⟩
theorem MJE_e {gr : GR} {j i : Nat} {re rg : Nat → Int32} (h : MJE gr j re rg) (hi : i < yS gr j) : ∃ x, x < 500 ∧ x / 10 % 10 < 4 ∧ x % 10 < 4 ∧ rg (3 * j + i) = nI x ∧ yL gr j i = x / 100 ∧ yF gr j i = x / 10 % 10 ∧ yT gr j i = x % 10 := by
  obtain ⟨a1, a2, a3, a4, a5, a6, a7⟩ := h.2.2.2.2 i hi
  have hw := h.2.2.2.1
  exact ⟨_, a2, by omega, by omega, a1, a5, a6, a7⟩
theorem MJE_w {gr : GR} {j : Nat} {re rg : Nat → Int32} (h : MJE gr j re rg) : ∀ i, i < yS gr j → yF gr j i < yW gr j ∧ yT gr j i < yW gr j := fun i hi => ⟨(h.2.2.2.2 i hi).2.2.1, (h.2.2.2.2 i hi).2.2.2.1⟩
theorem zLs_cg {B : Nat} {P Q : Nat → Prop} {q : Nat} (e : ∀ n, P n ↔ Q n) (h : zLs B P q) : zLs B Q q := ⟨h.1, fun w => (e q).mp (h.2.1 w), fun n w => h.2.2 n ((e n).mpr w)⟩
/-- steps for an edge, as a slot's cost -/
theorem sf_Z {g : GG} {r : GR} {D : Nat → Nat → Nat → Nat → Nat → Prop} {B j i x p q : Nat} {d : Nat → Nat} (hi : i < yS r j) (hl : yL r j i = x / 100) (hf : yF r j i = x / 10 % 10) (ht : yT r j i = x % 10) (hp : ¬ p = 0) (h : zLs B (zSv g D (x / 100) p (d (x / 10 % 10)) (d (x % 10))) q) : zLs B (zSl g r D j i d p) q := zLs_cg (fun n => by
  rw [zSl_sv hi, hl, hf, ht]
  exact ⟨fun w => ⟨hp, w⟩, fun w => w.2⟩) h
section
variable {g : GG} {r : GR} {D : Nat → Nat → Nat → Nat → Nat → Prop} {d : Nat → Nat} {j S on tw : Nat}
theorem sp2_n (he : yS r j = 2) (hY : ¬ zAq g on (S - on) (d (yF r j 0)) (d (yT r j 0)) (d (yF r j 1)) (d (yT r j 1))) : ∀ p c : Nat → Nat, zTh S p → (∀ i, i < 3 → zSl g r D j i d (p i) (c i)) → p 0 = on → p 1 = S - on → ¬ zA1 g r j d p := fun p c h1 h2 q1 q2 w => hY (by
  have q := (zA1_2 he h2).mp w
  rw [q1, q2] at q
  exact q)
theorem sp2_y (he : yS r j = 2) (hY : zAq g on (S - on) (d (yF r j 0)) (d (yT r j 0)) (d (yF r j 1)) (d (yT r j 1))) : ∀ p : Nat → Nat, p 0 = on → p 1 = S - on → p 2 = 0 → (∀ i, i < 3 → ∃ n, zSl g r D j i d (p i) n) → zA1 g r j d p := fun p q1 q2 q3 hs => by
  obtain ⟨n0, s0⟩ := hs 0 (by decide)
  obtain ⟨n1, s1⟩ := hs 1 (by decide)
  obtain ⟨n2, s2⟩ := hs 2 (by decide)
  refine (zA1_2 (c := p3 n0 n1 n2) he (fun i hi => ?_)).mpr (by rw [q1, q2]; exact hY)
  rcases (show i = 0 ∨ i = 1 ∨ i = 2 by omega) with e | e | e <;> subst e
  · exact s0
  · exact s1
  · exact s2
theorem sp3_n (hY : ¬ (zAq g on tw (d (yF r j 0)) (d (yT r j 0)) (d (yF r j 1)) (d (yT r j 1)) ∧ zAq g on (S - on - tw) (d (yF r j 0)) (d (yT r j 0)) (d (yF r j 2)) (d (yT r j 2)) ∧ zAq g tw (S - on - tw) (d (yF r j 1)) (d (yT r j 1)) (d (yF r j 2)) (d (yT r j 2)))) : ∀ p c : Nat → Nat, zTh S p → (∀ i, i < 3 → zSl g r D j i d (p i) (c i)) → p 0 = on → p 1 = tw → p 2 = S - on - tw → ¬ zA1 g r j d p := fun p c h1 h2 q1 q2 q3 w => hY (by
  have q := zA1_3.mp w
  rw [q1, q2, q3] at q
  exact q)
theorem sp3_y (h1 : zAq g on tw (d (yF r j 0)) (d (yT r j 0)) (d (yF r j 1)) (d (yT r j 1))) (h2 : zAq g on (S - on - tw) (d (yF r j 0)) (d (yT r j 0)) (d (yF r j 2)) (d (yT r j 2))) (h3 : zAq g tw (S - on - tw) (d (yF r j 1)) (d (yT r j 1)) (d (yF r j 2)) (d (yT r j 2))) : ∀ p : Nat → Nat, p 0 = on → p 1 = tw → p 2 = S - on - tw → zA1 g r j d p := fun p q1 q2 q3 => zA1_3.mpr (by rw [q1, q2, q3]; exact ⟨h1, h2, h3⟩)
end
section
variable {Z : Nat → Nat → Nat → Prop} {A : (Nat → Nat) → Prop} {S e on l f : Nat}
theorem zRJ_2N (he : e = 2) (hS : S < 32) (hZ : zZe Z e) (hA : ∀ p c : Nat → Nat, zTh S p → (∀ i, i < 3 → Z i (p i) (c i)) → p 0 = on → p 1 = S - on → ¬ A p) (h : zRI Z A S on l) : zRJ Z A S e on 32 l := by
  subst he
  exact zRJ_2n hS hZ hA h
theorem zRJ_2Y {x m : Nat} (he : e = 2) (hS : S < 32) (hZ : zZe Z e) (ho : SB on S) (ho2 : on < 32) (hf : zLs zM9 (Z 0 on) f) (hx : zLs zM9 (Z 1 (S - on)) x) (hz : Z 2 0 0) (hA : ∀ p : Nat → Nat, p 0 = on → p 1 = S - on → p 2 = 0 → (∀ i, i < 3 → ∃ n, Z i (p i) n) → A p) (hm : (f + x < l ∧ m = f + x) ∨ (l ≤ f + x ∧ m = l)) (h : zRI Z A S on l) : zRJ Z A S e on 32 m := by
  subst he
  exact zRJ_2y hS hZ ho ho2 hf hx hz hA hm h
end
theorem tMx_le {w v x : Nat} (h : tMx w v x) (hv : 1 ≤ v) : x ≤ v * v := by
  have := Nat.mul_le_mul hv (Nat.le_refl v)
  have := Nat.mul_le_mul hv hv
  rcases h with ⟨-, h⟩ | ⟨-, h⟩ | ⟨-, h⟩ <;> omega
/-- the nodes at hand while the inner ones are tried -/
theorem nb4 {na nb : Nat → Int32} {t v : Nat} (h : nb 0 = na 0 ∧ nb 1 = na 1) (h1 : t % v < 5) (h2 : t / v < 5) : tn (upd (upd nb 2 (nI (t % v))) 3 (nI (t / v)) 0) = tn (na 0) ∧ tn (upd (upd nb 2 (nI (t % v))) 3 (nI (t / v)) 1) = tn (na 1) ∧ tn (upd (upd nb 2 (nI (t % v))) 3 (nI (t / v)) 2) = t % v ∧ tn (upd (upd nb 2 (nI (t % v))) 3 (nI (t / v)) 3) = t / v := by
  refine ⟨by rw [pk_un (by decide), pk_un (by decide), h.1], by rw [pk_un (by decide), pk_un (by decide), h.2], ?_, ?_⟩
  · rw [pk_un (by decide), pk_us, tn_nI (by omega)]
  · rw [pk_us, tn_nI (by omega)]
theorem nbU {na nb : Nat → Int32} {w t v x : Nat} (h : nb 0 = na 0 ∧ nb 1 = na 1) (hs : SDn 4 na) (hw4 : w ≤ 4) (hv1 : 1 ≤ v) (hv : v ≤ 5) (hx : tMx w v x) (ht : t < x) (h1 : t % v < 5) (h2 : t / v < 5) : uLk w (upd (upd nb 2 (nI (t % v))) 3 (nI (t / v))) ↔ zSd w v (fun m => tn (upd (upd nb 2 (nI (t % v))) 3 (nI (t / v)) m)) := by
  obtain ⟨e0, l0⟩ := SDn_tn hs (by decide : 0 < 4)
  obtain ⟨e1, l1⟩ := SDn_tn hs (by decide : 1 < 4)
  refine uL_d hw4 l0 l1 (Nat.mod_lt t hv1) ?_ hv ?_ ?_ ?_ pk_us h2
  · rcases hx with ⟨a, -⟩ | ⟨a, -⟩ | ⟨a, b⟩
    · exact Or.inr (by omega)
    · exact Or.inr (by omega)
    · exact Or.inl (Nat.div_lt_of_lt_mul (by rw [← b]; exact ht))
  · rw [pk_un (by decide), pk_un (by decide), h.1]; exact e0
  · rw [pk_un (by decide), pk_un (by decide), h.2]; exact e1
  · rw [pk_un (by decide), pk_us]
theorem na_dd {na : Nat → Int32} {a b k : Nat} (hk : k < 2) (ha : a < 5) (hb : b < 5) : tn (upd (upd na 0 (nI a)) 1 (nI b) k) = dd2 a b k := by
  rcases (show k = 0 ∨ k = 1 by omega) with e | e <;> subst e
  · rw [pk_un (by decide), pk_us, tn_nI (by omega)]; rfl
  · rw [pk_us, tn_nI (by omega)]; rfl
/-- the masks of nodes -/
theorem nm_y {n v i k : Nat} {ea : Nat → Int32} (hE : EAI n v ea) (hv : v ≤ 5) (hk : k < n) (h : i.testBit k = true) : nI (NMm ea i k) ||| (((1 : Int32) <<< (nI (tn (ea k) / 10 % 10) &&& 31)) ||| ((1 : Int32) <<< (nI (tn (ea k) % 10) &&& 31))) = nI (NMm ea i (k + 1)) := by
  obtain ⟨-, -, a, b⟩ := EAI_at hE hv hk
  have e : NMm ea i (k + 1) = NMm ea i k ||| (2 ^ (tn (ea k) / 10 % 10) ||| 2 ^ (tn (ea k) % 10)) := by
    show zMk _ _ (bY i) (k + 1) = _
    rw [zMk, if_pos (show bY i k = true from h)]
    rfl
  rw [e]
  exact (zm_or (NMm_lt hE hv (Nat.le_of_lt hk)) (by omega) (by omega)).1
theorem nm_n {i k : Nat} {ea : Nat → Int32} (h : ¬ i.testBit k = true) : nI (NMm ea i k) ||| 0 = nI (NMm ea i (k + 1)) := by
  have e : NMm ea i (k + 1) = NMm ea i k := by
    show zMk _ _ (bY i) (k + 1) = _
    rw [zMk, if_neg (show ¬ bY i k = true from h)]
    rfl
  rw [e, Int32.or_zero]
theorem NFI_u {n i : Nat} {ea nf : Nat → Int32} {x : Int32} (h : NFI n ea nf i) : NFI n ea (upd nf i x) i := fun S hS => by
  rw [pk_un (by omega)]
  exact h S hS
theorem NFI_s {n i k : Nat} {ea nf : Nat → Int32} (hk : k = n) (h : NFI n ea nf i ∧ nf i = nI (NMm ea i k)) : NFI n ea nf (i + 1) := fun S hS => by
  by_cases e : S = i
  · subst e hk; exact h.2
  · exact h.1 S (by omega)
def FeN (k n v : Nat) (ea ro re rn rg : Nat → Int32) (r : Nat) (a : Int32) : Prop := ((mDn ea n = 0 ∨ 5 < n ∨ 5 < v) ∧ a = -1003) ∨ ∃ f, ¬ mDn ea n = 0 ∧ 1 ≤ n ∧ FWI f ∧ MOF n v ea ro re rn rg r f ∧ a = if trb f k (2 ^ n - 1) 0 1 < zM9 then nI (trb f k (2 ^ n - 1) 0 1) else -1
theorem FeN_M {p : Int32} {k n v : Nat} {ea ro re rn rg : Nat → Int32} {r : Nat} {a : Int32} (hk : k < 3) (e : p = nI k) (c : ¬ wi p 0 2 = 0) (h : FeN k n v ea ro re rn rg r a) : FeM p n v ea ro re rn rg r a := by
  rcases h with ⟨h1, h2⟩ | ⟨f, h1, h2, h3, h4, h5⟩
  · exact Or.inr (Or.inl ⟨c, h1, h2⟩)
  · exact Or.inr (Or.inr ⟨k, f, hk, e, h1, h2, h3, h4, h5⟩)
end
section
theorem EVx {y : Int32} (h : EV 4 y) : ∃ x, x < 500 ∧ x / 10 % 10 < 4 ∧ x % 10 < 4 ∧ y = nI x := by
  obtain ⟨w, a, b, h1, h2, h3, e⟩ := h
  exact ⟨100 * w + 10 * a + b, by omega, by omega, by omega, e⟩
theorem and_le_r {x : Nat} (hx : x < 2147483648) (y : Int32) : ∃ k, k ≤ x ∧ y &&& nI x = nI k := by
  obtain ⟨k, hk, e⟩ := and_le hx y
  exact ⟨k, hk, by rw [Int32.and_comm]; exact e⟩
theorem SDn_u {n k w : Nat} {s : Nat → Int32} (h : SDn n s) (hw : w < 5) : SDn n (upd s k (nI w)) := fun j hj => by
  by_cases h9 : j = k
  · subst h9; exact ⟨w, hw, pk_us⟩
  · rw [pk_un h9]; exact h j hj
theorem sq1 {v : Nat} (h : 1 ≤ v) : 1 ≤ v * v := Nat.mul_le_mul h h
theorem sq2 {v : Nat} (h : 1 ≤ v) : v ≤ v * v := by
  have := Nat.mul_le_mul h (Nat.le_refl v)
  rwa [Nat.one_mul] at this
theorem sq_div {t v : Nat} (h : t < v * v) (h5 : v ≤ 5) : t / v < 5 := Nat.lt_of_lt_of_le (Nat.div_lt_of_lt_mul h) h5
theorem sq_mod {t v : Nat} (h : 1 ≤ v) (h5 : v ≤ 5) : t % v < 5 := Nat.lt_of_lt_of_le (Nat.mod_lt t h) h5
theorem sq_25 {v : Nat} (h5 : v ≤ 5) : v * v ≤ 25 := Nat.mul_le_mul h5 h5
theorem nI_n0 {v : Nat} (h : 1 ≤ v) (h5 : v ≤ 5) : ¬ nI v = 0 := fun q => by
  have := (nI_eq (a := v) (b := 0) (by omega) (by decide)).mp q
  omega
end
