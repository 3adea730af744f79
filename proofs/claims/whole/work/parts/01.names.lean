-- ===== PART A: goes FIRST, ahead of the names: the tables' words, and 'selects' of the private methods out of them =====
/-- a private method of a class that the tables say can be made, by its rows of tables_1 -/
def lw_okq (q : MethodName × Nat) : Prop := (q.1.cls ≠ "java/lang/invoke/MethodHandle" ∧ q.1.cls ≠ "java/lang/invoke/VarHandle") ∧ Cond.instantiable q.1.cls q.2 ∈ tables_1 ∧ Cond.privateMethod q.1 ∈ tables_1 ∧ Cond.instanceMethod q.1 ∈ tables_1
theorem lw_p0 : lw_okq (⟨"FenceDuel$Ground", "layEdge", "(IIII)V"⟩, 4) := ⟨⟨by decide +kernel, by decide +kernel⟩, List.mem_of_getElem? (i := 21) (by decide +kernel), List.mem_of_getElem? (i := 30) (by decide +kernel), List.mem_of_getElem? (i := 31) (by decide +kernel)⟩
theorem lw_p1 : lw_okq (⟨"FenceDuel", "addEdgeLetter", "(IIII)I"⟩, 13) := ⟨⟨by decide +kernel, by decide +kernel⟩, List.mem_of_getElem? (i := 13) (by decide +kernel), List.mem_of_getElem? (i := 251) (by decide +kernel), List.mem_of_getElem? (i := 252) (by decide +kernel)⟩
theorem lw_p2 : lw_okq (⟨"FenceDuel", "recordUnlessError", "(I)I"⟩, 13) := ⟨⟨by decide +kernel, by decide +kernel⟩, List.mem_of_getElem? (i := 13) (by decide +kernel), List.mem_of_getElem? (i := 275) (by decide +kernel), List.mem_of_getElem? (i := 276) (by decide +kernel)⟩
theorem lw_p3 : lw_okq (⟨"FenceDuel", "addClaim", "(II)I"⟩, 13) := ⟨⟨by decide +kernel, by decide +kernel⟩, List.mem_of_getElem? (i := 13) (by decide +kernel), List.mem_of_getElem? (i := 291) (by decide +kernel), List.mem_of_getElem? (i := 292) (by decide +kernel)⟩
theorem lw_p4 : lw_okq (⟨"FenceDuel", "addTruce", "(II)I"⟩, 13) := ⟨⟨by decide +kernel, by decide +kernel⟩, List.mem_of_getElem? (i := 13) (by decide +kernel), List.mem_of_getElem? (i := 300) (by decide +kernel), List.mem_of_getElem? (i := 301) (by decide +kernel)⟩
theorem lw_p5 : lw_okq (⟨"FenceDuel", "letDaysPass", "(I)I"⟩, 13) := ⟨⟨by decide +kernel, by decide +kernel⟩, List.mem_of_getElem? (i := 13) (by decide +kernel), List.mem_of_getElem? (i := 318) (by decide +kernel), List.mem_of_getElem? (i := 319) (by decide +kernel)⟩
theorem lw_p6 : lw_okq (⟨"FenceDuel$Post", "bring", "(LFenceDuel$State;I)V"⟩, 2) := ⟨⟨by decide +kernel, by decide +kernel⟩, List.mem_of_getElem? (i := 83) (by decide +kernel), List.mem_of_getElem? (i := 332) (by decide +kernel), List.mem_of_getElem? (i := 333) (by decide +kernel)⟩
theorem lw_p7 : lw_okq (⟨"FenceDuel$Post", "growsHedge", "(LFenceDuel$State;II)Z"⟩, 2) := ⟨⟨by decide +kernel, by decide +kernel⟩, List.mem_of_getElem? (i := 83) (by decide +kernel), List.mem_of_getElem? (i := 344) (by decide +kernel), List.mem_of_getElem? (i := 345) (by decide +kernel)⟩
theorem lw_p8 : lw_okq (⟨"FenceDuel$Post", "edgeOf", "(LFenceDuel$State;I)I"⟩, 2) := ⟨⟨by decide +kernel, by decide +kernel⟩, List.mem_of_getElem? (i := 83) (by decide +kernel), List.mem_of_getElem? (i := 352) (by decide +kernel), List.mem_of_getElem? (i := 353) (by decide +kernel)⟩
theorem lw_p9 : lw_okq (⟨"FenceDuel$Post", "makesVoid", "(LFenceDuel$State;II)Z"⟩, 2) := ⟨⟨by decide +kernel, by decide +kernel⟩, List.mem_of_getElem? (i := 83) (by decide +kernel), List.mem_of_getElem? (i := 369) (by decide +kernel), List.mem_of_getElem? (i := 370) (by decide +kernel)⟩
theorem lw_p10 : lw_okq (⟨"FenceDuel$Post", "reasonAgainst", "(LFenceDuel$State;I)I"⟩, 2) := ⟨⟨by decide +kernel, by decide +kernel⟩, List.mem_of_getElem? (i := 83) (by decide +kernel), List.mem_of_getElem? (i := 382) (by decide +kernel), List.mem_of_getElem? (i := 383) (by decide +kernel)⟩
theorem lw_p11 : lw_okq (⟨"FenceDuel$Regions", "spreadFrom", "(LFenceDuel$State;I)V"⟩, 6) := ⟨⟨by decide +kernel, by decide +kernel⟩, List.mem_of_getElem? (i := 58) (by decide +kernel), List.mem_of_getElem? (i := 403) (by decide +kernel), List.mem_of_getElem? (i := 404) (by decide +kernel)⟩
theorem lw_p12 : lw_okq (⟨"FenceDuel$Post", "carryOut", "(LFenceDuel$State;I)V"⟩, 2) := ⟨⟨by decide +kernel, by decide +kernel⟩, List.mem_of_getElem? (i := 83) (by decide +kernel), List.mem_of_getElem? (i := 417) (by decide +kernel), List.mem_of_getElem? (i := 418) (by decide +kernel)⟩
theorem lw_p13 : lw_okq (⟨"FenceDuel$Post", "takeRegion", "(LFenceDuel$State;I)V"⟩, 2) := ⟨⟨by decide +kernel, by decide +kernel⟩, List.mem_of_getElem? (i := 83) (by decide +kernel), List.mem_of_getElem? (i := 421) (by decide +kernel), List.mem_of_getElem? (i := 422) (by decide +kernel)⟩
theorem lw_p14 : lw_okq (⟨"FenceDuel$Game", "readThing", "(I)Z"⟩, 8) := ⟨⟨by decide +kernel, by decide +kernel⟩, List.mem_of_getElem? (i := 96) (by decide +kernel), List.mem_of_getElem? (i := 459) (by decide +kernel), List.mem_of_getElem? (i := 460) (by decide +kernel)⟩
theorem lw_p15 : lw_okq (⟨"FenceDuel$Game", "look", "()I"⟩, 8) := ⟨⟨by decide +kernel, by decide +kernel⟩, List.mem_of_getElem? (i := 96) (by decide +kernel), List.mem_of_getElem? (i := 463) (by decide +kernel), List.mem_of_getElem? (i := 464) (by decide +kernel)⟩
def lw_privs_1 : List (MethodName × Nat) := [(⟨"FenceDuel$Ground", "layEdge", "(IIII)V"⟩, 4), (⟨"FenceDuel", "addEdgeLetter", "(IIII)I"⟩, 13), (⟨"FenceDuel", "recordUnlessError", "(I)I"⟩, 13), (⟨"FenceDuel", "addClaim", "(II)I"⟩, 13), (⟨"FenceDuel", "addTruce", "(II)I"⟩, 13), (⟨"FenceDuel", "letDaysPass", "(I)I"⟩, 13), (⟨"FenceDuel$Post", "bring", "(LFenceDuel$State;I)V"⟩, 2), (⟨"FenceDuel$Post", "growsHedge", "(LFenceDuel$State;II)Z"⟩, 2), (⟨"FenceDuel$Post", "edgeOf", "(LFenceDuel$State;I)I"⟩, 2), (⟨"FenceDuel$Post", "makesVoid", "(LFenceDuel$State;II)Z"⟩, 2), (⟨"FenceDuel$Post", "reasonAgainst", "(LFenceDuel$State;I)I"⟩, 2), (⟨"FenceDuel$Regions", "spreadFrom", "(LFenceDuel$State;I)V"⟩, 6), (⟨"FenceDuel$Post", "carryOut", "(LFenceDuel$State;I)V"⟩, 2), (⟨"FenceDuel$Post", "takeRegion", "(LFenceDuel$State;I)V"⟩, 2), (⟨"FenceDuel$Game", "readThing", "(I)Z"⟩, 8), (⟨"FenceDuel$Game", "look", "()I"⟩, 8)]
theorem lw_r1 : ∀ q ∈ lw_privs_1, lw_okq q := List.forall_mem_cons.mpr ⟨lw_p0, List.forall_mem_cons.mpr ⟨lw_p1, List.forall_mem_cons.mpr ⟨lw_p2, List.forall_mem_cons.mpr ⟨lw_p3, List.forall_mem_cons.mpr ⟨lw_p4, List.forall_mem_cons.mpr ⟨lw_p5, List.forall_mem_cons.mpr ⟨lw_p6, List.forall_mem_cons.mpr ⟨lw_p7, List.forall_mem_cons.mpr ⟨lw_p8, List.forall_mem_cons.mpr ⟨lw_p9, List.forall_mem_cons.mpr ⟨lw_p10, List.forall_mem_cons.mpr ⟨lw_p11, List.forall_mem_cons.mpr ⟨lw_p12, List.forall_mem_cons.mpr ⟨lw_p13, List.forall_mem_cons.mpr ⟨lw_p14, List.forall_mem_cons.mpr ⟨lw_p15, fun _ h => absurd h List.not_mem_nil⟩⟩⟩⟩⟩⟩⟩⟩⟩⟩⟩⟩⟩⟩⟩⟩
theorem lw_p16 : lw_okq (⟨"FenceDuel$Game", "putPart", "([III)V"⟩, 8) := ⟨⟨by decide +kernel, by decide +kernel⟩, List.mem_of_getElem? (i := 96) (by decide +kernel), List.mem_of_getElem? (i := 467) (by decide +kernel), List.mem_of_getElem? (i := 468) (by decide +kernel)⟩
theorem lw_p17 : lw_okq (⟨"FenceDuel$Game", "readNumber", "(III)Z"⟩, 8) := ⟨⟨by decide +kernel, by decide +kernel⟩, List.mem_of_getElem? (i := 96) (by decide +kernel), List.mem_of_getElem? (i := 471) (by decide +kernel), List.mem_of_getElem? (i := 472) (by decide +kernel)⟩
theorem lw_p18 : lw_okq (⟨"FenceDuel$Game", "readLetter", "(I)Z"⟩, 8) := ⟨⟨by decide +kernel, by decide +kernel⟩, List.mem_of_getElem? (i := 96) (by decide +kernel), List.mem_of_getElem? (i := 478) (by decide +kernel), List.mem_of_getElem? (i := 479) (by decide +kernel)⟩
theorem lw_p19 : lw_okq (⟨"FenceDuel$Game", "readSide", "(I)Z"⟩, 8) := ⟨⟨by decide +kernel, by decide +kernel⟩, List.mem_of_getElem? (i := 96) (by decide +kernel), List.mem_of_getElem? (i := 485) (by decide +kernel), List.mem_of_getElem? (i := 486) (by decide +kernel)⟩
theorem lw_p20 : lw_okq (⟨"FenceDuel", "addLetterOfGame", "(I)I"⟩, 13) := ⟨⟨by decide +kernel, by decide +kernel⟩, List.mem_of_getElem? (i := 13) (by decide +kernel), List.mem_of_getElem? (i := 496) (by decide +kernel), List.mem_of_getElem? (i := 497) (by decide +kernel)⟩
theorem lw_p21 : lw_okq (⟨"FenceDuel", "edgesWithSomething", "(I)I"⟩, 13) := ⟨⟨by decide +kernel, by decide +kernel⟩, List.mem_of_getElem? (i := 13) (by decide +kernel), List.mem_of_getElem? (i := 541) (by decide +kernel), List.mem_of_getElem? (i := 542) (by decide +kernel)⟩
theorem lw_p22 : lw_okq (⟨"FenceDuel$Regions", "relabel", "(II)V"⟩, 6) := ⟨⟨by decide +kernel, by decide +kernel⟩, List.mem_of_getElem? (i := 58) (by decide +kernel), List.mem_of_getElem? (i := 553) (by decide +kernel), List.mem_of_getElem? (i := 554) (by decide +kernel)⟩
theorem lw_p23 : lw_okq (⟨"FenceDuel$Regions", "countLabel", "(I)I"⟩, 6) := ⟨⟨by decide +kernel, by decide +kernel⟩, List.mem_of_getElem? (i := 58) (by decide +kernel), List.mem_of_getElem? (i := 557) (by decide +kernel), List.mem_of_getElem? (i := 558) (by decide +kernel)⟩
theorem lw_p24 : lw_okq (⟨"FenceDuelModel", "looks", "()V"⟩, 19) := ⟨⟨by decide +kernel, by decide +kernel⟩, List.mem_of_getElem? (i := 617) (by decide +kernel), List.mem_of_getElem? (i := 686) (by decide +kernel), List.mem_of_getElem? (i := 687) (by decide +kernel)⟩
theorem lw_p25 : lw_okq (⟨"FenceDuelModel", "writes", "(IIII)I"⟩, 19) := ⟨⟨by decide +kernel, by decide +kernel⟩, List.mem_of_getElem? (i := 617) (by decide +kernel), List.mem_of_getElem? (i := 690) (by decide +kernel), List.mem_of_getElem? (i := 691) (by decide +kernel)⟩
theorem lw_p26 : lw_okq (⟨"FenceDuelModel", "acted", "(I)I"⟩, 19) := ⟨⟨by decide +kernel, by decide +kernel⟩, List.mem_of_getElem? (i := 617) (by decide +kernel), List.mem_of_getElem? (i := 709) (by decide +kernel), List.mem_of_getElem? (i := 710) (by decide +kernel)⟩
theorem lw_p27 : lw_okq (⟨"FenceDuelModel", "records", "()V"⟩, 19) := ⟨⟨by decide +kernel, by decide +kernel⟩, List.mem_of_getElem? (i := 617) (by decide +kernel), List.mem_of_getElem? (i := 713) (by decide +kernel), List.mem_of_getElem? (i := 714) (by decide +kernel)⟩
theorem lw_p28 : lw_okq (⟨"FenceDuelModel", "isLetter", "(I)Z"⟩, 19) := ⟨⟨by decide +kernel, by decide +kernel⟩, List.mem_of_getElem? (i := 617) (by decide +kernel), List.mem_of_getElem? (i := 729) (by decide +kernel), List.mem_of_getElem? (i := 730) (by decide +kernel)⟩
theorem lw_p29 : lw_okq (⟨"FenceDuelModel", "of", "(II)I"⟩, 19) := ⟨⟨by decide +kernel, by decide +kernel⟩, List.mem_of_getElem? (i := 617) (by decide +kernel), List.mem_of_getElem? (i := 733) (by decide +kernel), List.mem_of_getElem? (i := 734) (by decide +kernel)⟩
theorem lw_p30 : lw_okq (⟨"FenceDuelModel", "passes", "(I)I"⟩, 19) := ⟨⟨by decide +kernel, by decide +kernel⟩, List.mem_of_getElem? (i := 617) (by decide +kernel), List.mem_of_getElem? (i := 741) (by decide +kernel), List.mem_of_getElem? (i := 742) (by decide +kernel)⟩
theorem lw_p31 : lw_okq (⟨"FenceDuelModel", "day", "()I"⟩, 19) := ⟨⟨by decide +kernel, by decide +kernel⟩, List.mem_of_getElem? (i := 617) (by decide +kernel), List.mem_of_getElem? (i := 745) (by decide +kernel), List.mem_of_getElem? (i := 746) (by decide +kernel)⟩
def lw_privs_2 : List (MethodName × Nat) := [(⟨"FenceDuel$Game", "putPart", "([III)V"⟩, 8), (⟨"FenceDuel$Game", "readNumber", "(III)Z"⟩, 8), (⟨"FenceDuel$Game", "readLetter", "(I)Z"⟩, 8), (⟨"FenceDuel$Game", "readSide", "(I)Z"⟩, 8), (⟨"FenceDuel", "addLetterOfGame", "(I)I"⟩, 13), (⟨"FenceDuel", "edgesWithSomething", "(I)I"⟩, 13), (⟨"FenceDuel$Regions", "relabel", "(II)V"⟩, 6), (⟨"FenceDuel$Regions", "countLabel", "(I)I"⟩, 6), (⟨"FenceDuelModel", "looks", "()V"⟩, 19), (⟨"FenceDuelModel", "writes", "(IIII)I"⟩, 19), (⟨"FenceDuelModel", "acted", "(I)I"⟩, 19), (⟨"FenceDuelModel", "records", "()V"⟩, 19), (⟨"FenceDuelModel", "isLetter", "(I)Z"⟩, 19), (⟨"FenceDuelModel", "of", "(II)I"⟩, 19), (⟨"FenceDuelModel", "passes", "(I)I"⟩, 19), (⟨"FenceDuelModel", "day", "()I"⟩, 19)]
theorem lw_r2 : ∀ q ∈ lw_privs_2, lw_okq q := List.forall_mem_cons.mpr ⟨lw_p16, List.forall_mem_cons.mpr ⟨lw_p17, List.forall_mem_cons.mpr ⟨lw_p18, List.forall_mem_cons.mpr ⟨lw_p19, List.forall_mem_cons.mpr ⟨lw_p20, List.forall_mem_cons.mpr ⟨lw_p21, List.forall_mem_cons.mpr ⟨lw_p22, List.forall_mem_cons.mpr ⟨lw_p23, List.forall_mem_cons.mpr ⟨lw_p24, List.forall_mem_cons.mpr ⟨lw_p25, List.forall_mem_cons.mpr ⟨lw_p26, List.forall_mem_cons.mpr ⟨lw_p27, List.forall_mem_cons.mpr ⟨lw_p28, List.forall_mem_cons.mpr ⟨lw_p29, List.forall_mem_cons.mpr ⟨lw_p30, List.forall_mem_cons.mpr ⟨lw_p31, fun _ h => absurd h List.not_mem_nil⟩⟩⟩⟩⟩⟩⟩⟩⟩⟩⟩⟩⟩⟩⟩⟩
theorem lw_p32 : lw_okq (⟨"FenceDuelModel", "comes", "(I)V"⟩, 19) := ⟨⟨by decide +kernel, by decide +kernel⟩, List.mem_of_getElem? (i := 617) (by decide +kernel), List.mem_of_getElem? (i := 749) (by decide +kernel), List.mem_of_getElem? (i := 750) (by decide +kernel)⟩
theorem lw_p33 : lw_okq (⟨"FenceDuelModel", "isSecond", "(I)Z"⟩, 19) := ⟨⟨by decide +kernel, by decide +kernel⟩, List.mem_of_getElem? (i := 617) (by decide +kernel), List.mem_of_getElem? (i := 753) (by decide +kernel), List.mem_of_getElem? (i := 754) (by decide +kernel)⟩
theorem lw_p34 : lw_okq (⟨"FenceDuelModel", "doesSecond", "(I)I"⟩, 19) := ⟨⟨by decide +kernel, by decide +kernel⟩, List.mem_of_getElem? (i := 617) (by decide +kernel), List.mem_of_getElem? (i := 757) (by decide +kernel), List.mem_of_getElem? (i := 758) (by decide +kernel)⟩
theorem lw_p35 : lw_okq (⟨"FenceDuelModel", "edgeOf", "(I)I"⟩, 19) := ⟨⟨by decide +kernel, by decide +kernel⟩, List.mem_of_getElem? (i := 617) (by decide +kernel), List.mem_of_getElem? (i := 761) (by decide +kernel), List.mem_of_getElem? (i := 762) (by decide +kernel)⟩
theorem lw_p36 : lw_okq (⟨"FenceDuelModel", "isTaken", "(I)Z"⟩, 19) := ⟨⟨by decide +kernel, by decide +kernel⟩, List.mem_of_getElem? (i := 617) (by decide +kernel), List.mem_of_getElem? (i := 765) (by decide +kernel), List.mem_of_getElem? (i := 766) (by decide +kernel)⟩
theorem lw_p37 : lw_okq (⟨"FenceDuelModel", "forgetsTaken", "()V"⟩, 19) := ⟨⟨by decide +kernel, by decide +kernel⟩, List.mem_of_getElem? (i := 617) (by decide +kernel), List.mem_of_getElem? (i := 769) (by decide +kernel), List.mem_of_getElem? (i := 770) (by decide +kernel)⟩
theorem lw_p38 : lw_okq (⟨"FenceDuelModel", "does", "(I)I"⟩, 19) := ⟨⟨by decide +kernel, by decide +kernel⟩, List.mem_of_getElem? (i := 617) (by decide +kernel), List.mem_of_getElem? (i := 773) (by decide +kernel), List.mem_of_getElem? (i := 774) (by decide +kernel)⟩
theorem lw_p39 : lw_okq (⟨"FenceDuelModel", "whyEdge", "(ZI)I"⟩, 19) := ⟨⟨by decide +kernel, by decide +kernel⟩, List.mem_of_getElem? (i := 617) (by decide +kernel), List.mem_of_getElem? (i := 777) (by decide +kernel), List.mem_of_getElem? (i := 778) (by decide +kernel)⟩
theorem lw_p40 : lw_okq (⟨"FenceDuelModel", "isTruce", "()Z"⟩, 19) := ⟨⟨by decide +kernel, by decide +kernel⟩, List.mem_of_getElem? (i := 617) (by decide +kernel), List.mem_of_getElem? (i := 781) (by decide +kernel), List.mem_of_getElem? (i := 782) (by decide +kernel)⟩
theorem lw_p41 : lw_okq (⟨"FenceDuelModel", "whyClaim", "(I)I"⟩, 19) := ⟨⟨by decide +kernel, by decide +kernel⟩, List.mem_of_getElem? (i := 617) (by decide +kernel), List.mem_of_getElem? (i := 785) (by decide +kernel), List.mem_of_getElem? (i := 786) (by decide +kernel)⟩
theorem lw_p42 : lw_okq (⟨"FenceDuelModel", "mark", "(I)I"⟩, 19) := ⟨⟨by decide +kernel, by decide +kernel⟩, List.mem_of_getElem? (i := 617) (by decide +kernel), List.mem_of_getElem? (i := 789) (by decide +kernel), List.mem_of_getElem? (i := 790) (by decide +kernel)⟩
theorem lw_p43 : lw_okq (⟨"FenceDuelModel", "runs", "(Z)I"⟩, 19) := ⟨⟨by decide +kernel, by decide +kernel⟩, List.mem_of_getElem? (i := 617) (by decide +kernel), List.mem_of_getElem? (i := 815) (by decide +kernel), List.mem_of_getElem? (i := 816) (by decide +kernel)⟩
theorem lw_p44 : lw_okq (⟨"FenceDuelModel", "readThing", "()V"⟩, 19) := ⟨⟨by decide +kernel, by decide +kernel⟩, List.mem_of_getElem? (i := 617) (by decide +kernel), List.mem_of_getElem? (i := 819) (by decide +kernel), List.mem_of_getElem? (i := 820) (by decide +kernel)⟩
theorem lw_p45 : lw_okq (⟨"FenceDuelModel", "isNext", "(II)Z"⟩, 19) := ⟨⟨by decide +kernel, by decide +kernel⟩, List.mem_of_getElem? (i := 617) (by decide +kernel), List.mem_of_getElem? (i := 823) (by decide +kernel), List.mem_of_getElem? (i := 824) (by decide +kernel)⟩
theorem lw_p46 : lw_okq (⟨"FenceDuelModel", "takes", "(II)I"⟩, 19) := ⟨⟨by decide +kernel, by decide +kernel⟩, List.mem_of_getElem? (i := 617) (by decide +kernel), List.mem_of_getElem? (i := 827) (by decide +kernel), List.mem_of_getElem? (i := 828) (by decide +kernel)⟩
theorem lw_p47 : lw_okq (⟨"FenceDuelModel", "takesNumber", "(II)I"⟩, 19) := ⟨⟨by decide +kernel, by decide +kernel⟩, List.mem_of_getElem? (i := 617) (by decide +kernel), List.mem_of_getElem? (i := 831) (by decide +kernel), List.mem_of_getElem? (i := 832) (by decide +kernel)⟩
def lw_privs_3 : List (MethodName × Nat) := [(⟨"FenceDuelModel", "comes", "(I)V"⟩, 19), (⟨"FenceDuelModel", "isSecond", "(I)Z"⟩, 19), (⟨"FenceDuelModel", "doesSecond", "(I)I"⟩, 19), (⟨"FenceDuelModel", "edgeOf", "(I)I"⟩, 19), (⟨"FenceDuelModel", "isTaken", "(I)Z"⟩, 19), (⟨"FenceDuelModel", "forgetsTaken", "()V"⟩, 19), (⟨"FenceDuelModel", "does", "(I)I"⟩, 19), (⟨"FenceDuelModel", "whyEdge", "(ZI)I"⟩, 19), (⟨"FenceDuelModel", "isTruce", "()Z"⟩, 19), (⟨"FenceDuelModel", "whyClaim", "(I)I"⟩, 19), (⟨"FenceDuelModel", "mark", "(I)I"⟩, 19), (⟨"FenceDuelModel", "runs", "(Z)I"⟩, 19), (⟨"FenceDuelModel", "readThing", "()V"⟩, 19), (⟨"FenceDuelModel", "isNext", "(II)Z"⟩, 19), (⟨"FenceDuelModel", "takes", "(II)I"⟩, 19), (⟨"FenceDuelModel", "takesNumber", "(II)I"⟩, 19)]
theorem lw_r3 : ∀ q ∈ lw_privs_3, lw_okq q := List.forall_mem_cons.mpr ⟨lw_p32, List.forall_mem_cons.mpr ⟨lw_p33, List.forall_mem_cons.mpr ⟨lw_p34, List.forall_mem_cons.mpr ⟨lw_p35, List.forall_mem_cons.mpr ⟨lw_p36, List.forall_mem_cons.mpr ⟨lw_p37, List.forall_mem_cons.mpr ⟨lw_p38, List.forall_mem_cons.mpr ⟨lw_p39, List.forall_mem_cons.mpr ⟨lw_p40, List.forall_mem_cons.mpr ⟨lw_p41, List.forall_mem_cons.mpr ⟨lw_p42, List.forall_mem_cons.mpr ⟨lw_p43, List.forall_mem_cons.mpr ⟨lw_p44, List.forall_mem_cons.mpr ⟨lw_p45, List.forall_mem_cons.mpr ⟨lw_p46, List.forall_mem_cons.mpr ⟨lw_p47, fun _ h => absurd h List.not_mem_nil⟩⟩⟩⟩⟩⟩⟩⟩⟩⟩⟩⟩⟩⟩⟩⟩
theorem lw_p48 : lw_okq (⟨"FenceDuelModel", "takesSign", "(II)I"⟩, 19) := ⟨⟨by decide +kernel, by decide +kernel⟩, List.mem_of_getElem? (i := 617) (by decide +kernel), List.mem_of_getElem? (i := 836) (by decide +kernel), List.mem_of_getElem? (i := 837) (by decide +kernel)⟩
theorem lw_p49 : lw_okq (⟨"FenceDuelModel", "freeIn", "(I)I"⟩, 19) := ⟨⟨by decide +kernel, by decide +kernel⟩, List.mem_of_getElem? (i := 617) (by decide +kernel), List.mem_of_getElem? (i := 865) (by decide +kernel), List.mem_of_getElem? (i := 866) (by decide +kernel)⟩
theorem lw_p50 : lw_okq (⟨"FenceDuelModel", "lowestIn", "(I)I"⟩, 19) := ⟨⟨by decide +kernel, by decide +kernel⟩, List.mem_of_getElem? (i := 617) (by decide +kernel), List.mem_of_getElem? (i := 869) (by decide +kernel), List.mem_of_getElem? (i := 870) (by decide +kernel)⟩
theorem lw_p51 : lw_okq (⟨"FenceDuelModel", "edgesOf", "(I)I"⟩, 19) := ⟨⟨by decide +kernel, by decide +kernel⟩, List.mem_of_getElem? (i := 617) (by decide +kernel), List.mem_of_getElem? (i := 873) (by decide +kernel), List.mem_of_getElem? (i := 874) (by decide +kernel)⟩
theorem lw_p52 : lw_okq (⟨"FenceDuelModel", "cross", "(II)Z"⟩, 19) := ⟨⟨by decide +kernel, by decide +kernel⟩, List.mem_of_getElem? (i := 617) (by decide +kernel), List.mem_of_getElem? (i := 889) (by decide +kernel), List.mem_of_getElem? (i := 890) (by decide +kernel)⟩
theorem lw_p53 : lw_okq (⟨"FenceDuelModel", "nextLetter", "()I"⟩, 19) := ⟨⟨by decide +kernel, by decide +kernel⟩, List.mem_of_getElem? (i := 617) (by decide +kernel), List.mem_of_getElem? (i := 905) (by decide +kernel), List.mem_of_getElem? (i := 906) (by decide +kernel)⟩
theorem lw_p54 : lw_okq (⟨"FenceDuelModel", "putAside", "()V"⟩, 19) := ⟨⟨by decide +kernel, by decide +kernel⟩, List.mem_of_getElem? (i := 617) (by decide +kernel), List.mem_of_getElem? (i := 913) (by decide +kernel), List.mem_of_getElem? (i := 914) (by decide +kernel)⟩
theorem lw_p55 : lw_okq (⟨"FenceDuelModel", "fieldsOf", "(I)I"⟩, 19) := ⟨⟨by decide +kernel, by decide +kernel⟩, List.mem_of_getElem? (i := 617) (by decide +kernel), List.mem_of_getElem? (i := 917) (by decide +kernel), List.mem_of_getElem? (i := 918) (by decide +kernel)⟩
theorem lw_p56 : lw_okq (⟨"FenceDuelModel", "edgesThat", "(I)I"⟩, 19) := ⟨⟨by decide +kernel, by decide +kernel⟩, List.mem_of_getElem? (i := 617) (by decide +kernel), List.mem_of_getElem? (i := 921) (by decide +kernel), List.mem_of_getElem? (i := 922) (by decide +kernel)⟩
theorem lw_p57 : lw_okq (⟨"FenceDuelModel", "lettersThat", "(I)I"⟩, 19) := ⟨⟨by decide +kernel, by decide +kernel⟩, List.mem_of_getElem? (i := 617) (by decide +kernel), List.mem_of_getElem? (i := 925) (by decide +kernel), List.mem_of_getElem? (i := 926) (by decide +kernel)⟩
theorem lw_p58 : lw_okq (⟨"FenceDuelModel", "putBack", "()V"⟩, 19) := ⟨⟨by decide +kernel, by decide +kernel⟩, List.mem_of_getElem? (i := 617) (by decide +kernel), List.mem_of_getElem? (i := 929) (by decide +kernel), List.mem_of_getElem? (i := 930) (by decide +kernel)⟩
theorem lw_p59 : lw_okq (⟨"FenceDuelModel", "regions", "()I"⟩, 19) := ⟨⟨by decide +kernel, by decide +kernel⟩, List.mem_of_getElem? (i := 617) (by decide +kernel), List.mem_of_getElem? (i := 941) (by decide +kernel), List.mem_of_getElem? (i := 942) (by decide +kernel)⟩
def lw_privs_4 : List (MethodName × Nat) := [(⟨"FenceDuelModel", "takesSign", "(II)I"⟩, 19), (⟨"FenceDuelModel", "freeIn", "(I)I"⟩, 19), (⟨"FenceDuelModel", "lowestIn", "(I)I"⟩, 19), (⟨"FenceDuelModel", "edgesOf", "(I)I"⟩, 19), (⟨"FenceDuelModel", "cross", "(II)Z"⟩, 19), (⟨"FenceDuelModel", "nextLetter", "()I"⟩, 19), (⟨"FenceDuelModel", "putAside", "()V"⟩, 19), (⟨"FenceDuelModel", "fieldsOf", "(I)I"⟩, 19), (⟨"FenceDuelModel", "edgesThat", "(I)I"⟩, 19), (⟨"FenceDuelModel", "lettersThat", "(I)I"⟩, 19), (⟨"FenceDuelModel", "putBack", "()V"⟩, 19), (⟨"FenceDuelModel", "regions", "()I"⟩, 19)]
theorem lw_r4 : ∀ q ∈ lw_privs_4, lw_okq q := List.forall_mem_cons.mpr ⟨lw_p48, List.forall_mem_cons.mpr ⟨lw_p49, List.forall_mem_cons.mpr ⟨lw_p50, List.forall_mem_cons.mpr ⟨lw_p51, List.forall_mem_cons.mpr ⟨lw_p52, List.forall_mem_cons.mpr ⟨lw_p53, List.forall_mem_cons.mpr ⟨lw_p54, List.forall_mem_cons.mpr ⟨lw_p55, List.forall_mem_cons.mpr ⟨lw_p56, List.forall_mem_cons.mpr ⟨lw_p57, List.forall_mem_cons.mpr ⟨lw_p58, List.forall_mem_cons.mpr ⟨lw_p59, fun _ h => absurd h List.not_mem_nil⟩⟩⟩⟩⟩⟩⟩⟩⟩⟩⟩⟩
def lw_privs : List (MethodName × Nat) := lw_privs_1 ++ (lw_privs_2 ++ (lw_privs_3 ++ (lw_privs_4)))
def lw_tbl : List Cond := k2_sels lw_privs ++ tables_1
theorem lw_privs_ok : ∀ q ∈ lw_privs, lw_okq q := by
  show ∀ q ∈ lw_privs_1 ++ (lw_privs_2 ++ (lw_privs_3 ++ (lw_privs_4))), lw_okq q
  exact List.forall_mem_append.mpr ⟨lw_r1, List.forall_mem_append.mpr ⟨lw_r2, List.forall_mem_append.mpr ⟨lw_r3, lw_r4⟩⟩⟩

def RX0 : String := "FenceDuel$Game"
def TX0 : u_T := fun k => match k with
  | 0 => ("FenceDuel$Game", "text", "[C", true)
  | 1 => ("FenceDuel$Game", "length", "I", false)
  | 2 => ("FenceDuel$Game", "at", "I", false)
  | 3 => ("FenceDuel$Game", "things", "I", false)
  | 4 => ("FenceDuel$Game", "kinds", "[I", true)
  | 5 => ("FenceDuel$Game", "players", "[I", true)
  | 6 => ("FenceDuel$Game", "numbers", "[I", true)
  | _ => ("FenceDuel$Game", "sides", "[I", true)
def tyX0 : Nat → FieldType := fun k => match k with
  | 0 => .array .char
  | 1 => .int
  | 2 => .int
  | 3 => .int
  | 4 => .array .int
  | 5 => .array .int
  | 6 => .array .int
  | _ => .array .int
abbrev wsX00 : List Cond := u_ws RX0 TX0 8
theorem nmX0 : ∀ a, a < 8 → ∀ b, b < 8 → a ≠ b → (TX0 a).2.1 ≠ (TX0 b).2.1 := by decide +kernel
theorem tyX0_ok : ∀ k, k < 8 → parseFieldDescriptor (TX0 k).2.2.1 = some (tyX0 k) := by decide +kernel
abbrev cX0_init : ByteArray := prog_2_method_1_code
def yX0_init : MethodName := ⟨RX0, "<init>", "()V"⟩
abbrev cX0_append : ByteArray := prog_2_method_2_code
def yX0_append : MethodName := ⟨RX0, "append", "(C)I"⟩
abbrev cX0_empty : ByteArray := prog_2_method_3_code
def yX0_empty : MethodName := ⟨RX0, "empty", "()I"⟩
abbrev cX0_part : ByteArray := prog_2_method_4_code
def yX0_part : MethodName := ⟨RX0, "part", "([II)I"⟩
abbrev cX0_putPart : ByteArray := prog_2_method_5_code
def yX0_putPart : MethodName := ⟨RX0, "putPart", "([III)V"⟩
abbrev cX0_findFault : ByteArray := prog_2_method_6_code
def yX0_findFault : MethodName := ⟨RX0, "findFault", "()I"⟩
abbrev cX0_readThing : ByteArray := prog_2_method_7_code
def yX0_readThing : MethodName := ⟨RX0, "readThing", "(I)Z"⟩
abbrev cX0_readLetter : ByteArray := prog_2_method_8_code
def yX0_readLetter : MethodName := ⟨RX0, "readLetter", "(I)Z"⟩
abbrev cX0_readNumber : ByteArray := prog_2_method_9_code
def yX0_readNumber : MethodName := ⟨RX0, "readNumber", "(III)Z"⟩
abbrev cX0_readSide : ByteArray := prog_2_method_10_code
def yX0_readSide : MethodName := ⟨RX0, "readSide", "(I)Z"⟩
abbrev cX0_look : ByteArray := prog_2_method_11_code
def yX0_look : MethodName := ⟨RX0, "look", "()I"⟩
abbrev cX0_kindOf : ByteArray := prog_2_method_12_code
def yX0_kindOf : MethodName := ⟨RX0, "kindOf", "(I)I"⟩
abbrev cX0_sideOf : ByteArray := prog_2_method_13_code
def yX0_sideOf : MethodName := ⟨RX0, "sideOf", "(I)I"⟩
abbrev cX0_digitOf : ByteArray := prog_2_method_14_code
def yX0_digitOf : MethodName := ⟨RX0, "digitOf", "(I)I"⟩
def RX1 : String := "FenceDuel$Ground"
def TX1 : u_T := fun k => match k with
  | 0 => ("FenceDuel$Ground", "beside", "[I", true)
  | 1 => ("FenceDuel$Ground", "edgeAt", "[I", true)
  | 2 => ("FenceDuel$Ground", "nearField", "[I", true)
  | _ => ("FenceDuel$Ground", "farField", "[I", true)
def tyX1 : Nat → FieldType := fun k => match k with
  | 0 => .array .int
  | 1 => .array .int
  | 2 => .array .int
  | _ => .array .int
abbrev wsX10 : List Cond := u_ws RX1 TX1 4
theorem nmX1 : ∀ a, a < 4 → ∀ b, b < 4 → a ≠ b → (TX1 a).2.1 ≠ (TX1 b).2.1 := by decide +kernel
theorem tyX1_ok : ∀ k, k < 4 → parseFieldDescriptor (TX1 k).2.2.1 = some (tyX1 k) := by decide +kernel
abbrev cX1_init : ByteArray := prog_3_method_1_code
def yX1_init : MethodName := ⟨RX1, "<init>", "()V"⟩
abbrev cX1_layEdge : ByteArray := prog_3_method_2_code
def yX1_layEdge : MethodName := ⟨RX1, "layEdge", "(IIII)V"⟩
abbrev cX1_edgeNumber : ByteArray := prog_3_method_3_code
def yX1_edgeNumber : MethodName := ⟨RX1, "edgeNumber", "(II)I"⟩
def RX2 : String := "FenceDuel$History"
def TX2 : u_T := fun k => match k with
  | 0 => ("FenceDuel$History", "states", "[LFenceDuel$State;", true)
  | 1 => ("FenceDuel$History", "behind", "I", false)
  | _ => ("FenceDuel$History", "size", "I", false)
def tyX2 : Nat → FieldType := fun k => match k with
  | 0 => .array (.object "FenceDuel$State")
  | 1 => .int
  | _ => .int
abbrev wsX20 : List Cond := u_ws RX2 TX2 3
theorem nmX2 : ∀ a, a < 3 → ∀ b, b < 3 → a ≠ b → (TX2 a).2.1 ≠ (TX2 b).2.1 := by decide +kernel
theorem tyX2_ok : ∀ k, k < 3 → parseFieldDescriptor (TX2 k).2.2.1 = some (tyX2 k) := by decide +kernel
abbrev cX2_init : ByteArray := prog_4_method_1_code
def yX2_init : MethodName := ⟨RX2, "<init>", "()V"⟩
abbrev cX2_add : ByteArray := prog_4_method_2_code
def yX2_add : MethodName := ⟨RX2, "add", "(LFenceDuel$State;)V"⟩
abbrev cX2_takeBack : ByteArray := prog_4_method_3_code
def yX2_takeBack : MethodName := ⟨RX2, "takeBack", "(LFenceDuel$State;)I"⟩
def RX3 : String := "FenceDuel$Post"
def TX3 : u_T := fun k => match k with
  | 0 => ("FenceDuel$Post", "ground", "LFenceDuel$Ground;", true)
  | _ => ("FenceDuel$Post", "regions", "LFenceDuel$Regions;", true)
def tyX3 : Nat → FieldType := fun k => match k with
  | 0 => .object "FenceDuel$Ground"
  | _ => .object "FenceDuel$Regions"
abbrev wsX30 : List Cond := u_ws RX3 TX3 2
theorem nmX3 : ∀ a, a < 2 → ∀ b, b < 2 → a ≠ b → (TX3 a).2.1 ≠ (TX3 b).2.1 := by decide +kernel
theorem tyX3_ok : ∀ k, k < 2 → parseFieldDescriptor (TX3 k).2.2.1 = some (tyX3 k) := by decide +kernel
abbrev cX3_init : ByteArray := prog_5_method_1_code
def yX3_init : MethodName := ⟨RX3, "<init>", "(LFenceDuel$Ground;LFenceDuel$Regions;)V"⟩
abbrev cX3_deliver : ByteArray := prog_5_method_2_code
def yX3_deliver : MethodName := ⟨RX3, "deliver", "(LFenceDuel$State;I)I"⟩
abbrev cX3_bring : ByteArray := prog_5_method_3_code
def yX3_bring : MethodName := ⟨RX3, "bring", "(LFenceDuel$State;I)V"⟩
abbrev cX3_growsHedge : ByteArray := prog_5_method_4_code
def yX3_growsHedge : MethodName := ⟨RX3, "growsHedge", "(LFenceDuel$State;II)Z"⟩
abbrev cX3_makesVoid : ByteArray := prog_5_method_5_code
def yX3_makesVoid : MethodName := ⟨RX3, "makesVoid", "(LFenceDuel$State;II)Z"⟩
abbrev cX3_reasonAgainst : ByteArray := prog_5_method_6_code
def yX3_reasonAgainst : MethodName := ⟨RX3, "reasonAgainst", "(LFenceDuel$State;I)I"⟩
abbrev cX3_reasonAgainstFence : ByteArray := prog_5_method_7_code
def yX3_reasonAgainstFence : MethodName := ⟨RX3, "reasonAgainstFence", "(LFenceDuel$State;I)I"⟩
abbrev cX3_reasonAgainstGap : ByteArray := prog_5_method_8_code
def yX3_reasonAgainstGap : MethodName := ⟨RX3, "reasonAgainstGap", "(LFenceDuel$State;I)I"⟩
abbrev cX3_reasonAgainstClaim : ByteArray := prog_5_method_9_code
def yX3_reasonAgainstClaim : MethodName := ⟨RX3, "reasonAgainstClaim", "(LFenceDuel$State;I)I"⟩
abbrev cX3_carryOut : ByteArray := prog_5_method_10_code
def yX3_carryOut : MethodName := ⟨RX3, "carryOut", "(LFenceDuel$State;I)V"⟩
abbrev cX3_takeRegion : ByteArray := prog_5_method_11_code
def yX3_takeRegion : MethodName := ⟨RX3, "takeRegion", "(LFenceDuel$State;I)V"⟩
abbrev cX3_edgeOf : ByteArray := prog_5_method_12_code
def yX3_edgeOf : MethodName := ⟨RX3, "edgeOf", "(LFenceDuel$State;I)I"⟩
def RX4 : String := "FenceDuel$Regions"
def TX4 : u_T := fun k => match k with
  | 0 => ("FenceDuel$Regions", "ground", "LFenceDuel$Ground;", true)
  | 1 => ("FenceDuel$Regions", "lowest", "[I", true)
  | 2 => ("FenceDuel$Regions", "sizes", "[I", true)
  | 3 => ("FenceDuel$Regions", "free", "[I", true)
  | 4 => ("FenceDuel$Regions", "reached", "[I", true)
  | _ => ("FenceDuel$Regions", "labels", "[I", true)
def tyX4 : Nat → FieldType := fun k => match k with
  | 0 => .object "FenceDuel$Ground"
  | 1 => .array .int
  | 2 => .array .int
  | 3 => .array .int
  | 4 => .array .int
  | _ => .array .int
abbrev wsX40 : List Cond := u_ws RX4 TX4 6
theorem nmX4 : ∀ a, a < 6 → ∀ b, b < 6 → a ≠ b → (TX4 a).2.1 ≠ (TX4 b).2.1 := by decide +kernel
theorem tyX4_ok : ∀ k, k < 6 → parseFieldDescriptor (TX4 k).2.2.1 = some (tyX4 k) := by decide +kernel
abbrev cX4_init : ByteArray := prog_6_method_1_code
def yX4_init : MethodName := ⟨RX4, "<init>", "(LFenceDuel$Ground;)V"⟩
abbrev cX4_survey : ByteArray := prog_6_method_2_code
def yX4_survey : MethodName := ⟨RX4, "survey", "(LFenceDuel$State;)I"⟩
abbrev cX4_spreadFrom : ByteArray := prog_6_method_3_code
def yX4_spreadFrom : MethodName := ⟨RX4, "spreadFrom", "(LFenceDuel$State;I)V"⟩
abbrev cX4_lowestAround : ByteArray := prog_6_method_4_code
def yX4_lowestAround : MethodName := ⟨RX4, "lowestAround", "(I)I"⟩
abbrev cX4_sizeAround : ByteArray := prog_6_method_5_code
def yX4_sizeAround : MethodName := ⟨RX4, "sizeAround", "(I)I"⟩
abbrev cX4_freeAround : ByteArray := prog_6_method_6_code
def yX4_freeAround : MethodName := ⟨RX4, "freeAround", "(I)I"⟩
abbrev cX4_sizeByJoining : ByteArray := prog_6_method_7_code
def yX4_sizeByJoining : MethodName := ⟨RX4, "sizeByJoining", "(LFenceDuel$State;I)I"⟩
abbrev cX4_relabel : ByteArray := prog_6_method_8_code
def yX4_relabel : MethodName := ⟨RX4, "relabel", "(II)V"⟩
abbrev cX4_countLabel : ByteArray := prog_6_method_9_code
def yX4_countLabel : MethodName := ⟨RX4, "countLabel", "(I)I"⟩
def RX5 : String := "FenceDuel$State"
def TX5 : u_T := fun k => match k with
  | 0 => ("FenceDuel$State", "day", "I", false)
  | 1 => ("FenceDuel$State", "written", "I", false)
  | 2 => ("FenceDuel$State", "turns", "I", false)
  | 3 => ("FenceDuel$State", "alone", "I", false)
  | 4 => ("FenceDuel$State", "settings", "[I", true)
  | 5 => ("FenceDuel$State", "truceEnds", "[I", true)
  | 6 => ("FenceDuel$State", "onEdges", "[I", true)
  | 7 => ("FenceDuel$State", "takers", "[I", true)
  | _ => ("FenceDuel$State", "facts", "[I", true)
def tyX5 : Nat → FieldType := fun k => match k with
  | 0 => .int
  | 1 => .int
  | 2 => .int
  | 3 => .int
  | 4 => .array .int
  | 5 => .array .int
  | 6 => .array .int
  | 7 => .array .int
  | _ => .array .int
abbrev wsX50 : List Cond := u_ws RX5 TX5 9
theorem nmX5 : ∀ a, a < 9 → ∀ b, b < 9 → a ≠ b → (TX5 a).2.1 ≠ (TX5 b).2.1 := by decide +kernel
theorem tyX5_ok : ∀ k, k < 9 → parseFieldDescriptor (TX5 k).2.2.1 = some (tyX5 k) := by decide +kernel
abbrev cX5_init : ByteArray := prog_7_method_1_code
def yX5_init : MethodName := ⟨RX5, "<init>", "()V"⟩
abbrev cX5_takeFrom : ByteArray := prog_7_method_2_code
def yX5_takeFrom : MethodName := ⟨RX5, "takeFrom", "(LFenceDuel$State;)V"⟩
abbrev cX5_hasLetter : ByteArray := prog_7_method_3_code
def yX5_hasLetter : MethodName := ⟨RX5, "hasLetter", "(I)Z"⟩
abbrev cX5_told : ByteArray := prog_7_method_4_code
def yX5_told : MethodName := ⟨RX5, "told", "(II)I"⟩
abbrev cX5_mark : ByteArray := prog_7_method_5_code
def yX5_mark : MethodName := ⟨RX5, "mark", "(III)V"⟩
abbrev cX5_addLetter : ByteArray := prog_7_method_6_code
def yX5_addLetter : MethodName := ⟨RX5, "addLetter", "(IIII)I"⟩
abbrev cX5_soonest : ByteArray := prog_7_method_7_code
def yX5_soonest : MethodName := ⟨RX5, "soonest", "()I"⟩
abbrev cX5_haveCrossed : ByteArray := prog_7_method_8_code
def yX5_haveCrossed : MethodName := ⟨RX5, "haveCrossed", "(II)Z"⟩
abbrev cX5_enterTurn : ByteArray := prog_7_method_9_code
def yX5_enterTurn : MethodName := ⟨RX5, "enterTurn", "(I)I"⟩
abbrev cX5_wasDone : ByteArray := prog_7_method_10_code
def yX5_wasDone : MethodName := ⟨RX5, "wasDone", "(II)Z"⟩
abbrev cX5_onEdge : ByteArray := prog_7_method_11_code
def yX5_onEdge : MethodName := ⟨RX5, "onEdge", "(I)I"⟩
abbrev cX5_putOnEdge : ByteArray := prog_7_method_12_code
def yX5_putOnEdge : MethodName := ⟨RX5, "putOnEdge", "(II)V"⟩
abbrev cX5_takerOf : ByteArray := prog_7_method_13_code
def yX5_takerOf : MethodName := ⟨RX5, "takerOf", "(I)I"⟩
abbrev cX5_ownerOf : ByteArray := prog_7_method_14_code
def yX5_ownerOf : MethodName := ⟨RX5, "ownerOf", "(I)I"⟩
abbrev cX5_giveBackFieldsOf : ByteArray := prog_7_method_15_code
def yX5_giveBackFieldsOf : MethodName := ⟨RX5, "giveBackFieldsOf", "(I)V"⟩
abbrev cX5_hasTruce : ByteArray := prog_7_method_16_code
def yX5_hasTruce : MethodName := ⟨RX5, "hasTruce", "()Z"⟩
abbrev cX5_lettersThatAre : ByteArray := prog_7_method_17_code
def yX5_lettersThatAre : MethodName := ⟨RX5, "lettersThatAre", "(I)I"⟩
abbrev cX5_turnsOfTwo : ByteArray := prog_7_method_18_code
def yX5_turnsOfTwo : MethodName := ⟨RX5, "turnsOfTwo", "()I"⟩
abbrev cX5_fieldsOf : ByteArray := prog_7_method_19_code
def yX5_fieldsOf : MethodName := ⟨RX5, "fieldsOf", "(I)I"⟩
abbrev cX5_edgesWith : ByteArray := prog_7_method_20_code
def yX5_edgesWith : MethodName := ⟨RX5, "edgesWith", "(I)I"⟩
def RX6 : String := "FenceDuel"
def TX6 : u_T := fun k => match k with
  | 0 => ("FenceDuel", "ground", "LFenceDuel$Ground;", true)
  | 1 => ("FenceDuel", "regions", "LFenceDuel$Regions;", true)
  | 2 => ("FenceDuel", "post", "LFenceDuel$Post;", true)
  | 3 => ("FenceDuel", "game", "LFenceDuel$Game;", true)
  | 4 => ("FenceDuel", "history", "LFenceDuel$History;", true)
  | 5 => ("FenceDuel", "now", "LFenceDuel$State;", true)
  | 6 => ("FenceDuel", "before", "LFenceDuel$State;", true)
  | 7 => ("FenceDuel", "trial", "LFenceDuel$State;", true)
  | 8 => ("FenceDuel", "snapshot", "LFenceDuel$State;", true)
  | 9 => ("FenceDuel", "hasSnapshot", "Z", false)
  | 10 => ("FenceDuel", "wasStopped", "Z", false)
  | 11 => ("FenceDuel", "stopNumber", "I", false)
  | _ => ("FenceDuel", "stopError", "I", false)
def tyX6 : Nat → FieldType := fun k => match k with
  | 0 => .object "FenceDuel$Ground"
  | 1 => .object "FenceDuel$Regions"
  | 2 => .object "FenceDuel$Post"
  | 3 => .object "FenceDuel$Game"
  | 4 => .object "FenceDuel$History"
  | 5 => .object "FenceDuel$State"
  | 6 => .object "FenceDuel$State"
  | 7 => .object "FenceDuel$State"
  | 8 => .object "FenceDuel$State"
  | 9 => .boolean
  | 10 => .boolean
  | 11 => .int
  | _ => .int
abbrev wsX60 : List Cond := u_ws RX6 TX6 13
theorem nmX6 : ∀ a, a < 13 → ∀ b, b < 13 → a ≠ b → (TX6 a).2.1 ≠ (TX6 b).2.1 := by decide +kernel
theorem tyX6_ok : ∀ k, k < 13 → parseFieldDescriptor (TX6 k).2.2.1 = some (tyX6 k) := by decide +kernel
abbrev cX6_init : ByteArray := prog_1_method_1_code
def yX6_init : MethodName := ⟨RX6, "<init>", "()V"⟩
abbrev cX6_writeEdge : ByteArray := prog_1_method_2_code
def yX6_writeEdge : MethodName := ⟨RX6, "writeEdge", "(IZII)I"⟩
abbrev cX6_writeClaim : ByteArray := prog_1_method_3_code
def yX6_writeClaim : MethodName := ⟨RX6, "writeClaim", "(II)I"⟩
abbrev cX6_writeTruce : ByteArray := prog_1_method_4_code
def yX6_writeTruce : MethodName := ⟨RX6, "writeTruce", "(II)I"⟩
abbrev cX6_callBack : ByteArray := prog_1_method_5_code
def yX6_callBack : MethodName := ⟨RX6, "callBack", "(I)I"⟩
abbrev cX6_pass : ByteArray := prog_1_method_6_code
def yX6_pass : MethodName := ⟨RX6, "pass", "(I)I"⟩
abbrev cX6_set : ByteArray := prog_1_method_7_code
def yX6_set : MethodName := ⟨RX6, "set", "(II)I"⟩
abbrev cX6_type : ByteArray := prog_1_method_8_code
def yX6_type : MethodName := ⟨RX6, "type", "(C)I"⟩
abbrev cX6_clearText : ByteArray := prog_1_method_9_code
def yX6_clearText : MethodName := ⟨RX6, "clearText", "()I"⟩
abbrev cX6_perform : ByteArray := prog_1_method_10_code
def yX6_perform : MethodName := ⟨RX6, "perform", "()I"⟩
abbrev cX6_stopped : ByteArray := prog_1_method_11_code
def yX6_stopped : MethodName := ⟨RX6, "stopped", "(I)I"⟩
abbrev cX6_undo : ByteArray := prog_1_method_12_code
def yX6_undo : MethodName := ⟨RX6, "undo", "()I"⟩
abbrev cX6_keep : ByteArray := prog_1_method_13_code
def yX6_keep : MethodName := ⟨RX6, "keep", "()I"⟩
abbrev cX6_restore : ByteArray := prog_1_method_14_code
def yX6_restore : MethodName := ⟨RX6, "restore", "()I"⟩
abbrev cX6_edge : ByteArray := prog_1_method_15_code
def yX6_edge : MethodName := ⟨RX6, "edge", "(II)I"⟩
abbrev cX6_field : ByteArray := prog_1_method_16_code
def yX6_field : MethodName := ⟨RX6, "field", "(II)I"⟩
abbrev cX6_joined : ByteArray := prog_1_method_17_code
def yX6_joined : MethodName := ⟨RX6, "joined", "(I)I"⟩
abbrev cX6_letter : ByteArray := prog_1_method_18_code
def yX6_letter : MethodName := ⟨RX6, "letter", "(II)I"⟩
abbrev cX6_crossed : ByteArray := prog_1_method_19_code
def yX6_crossed : MethodName := ⟨RX6, "crossed", "(II)I"⟩
abbrev cX6_reasonEdge : ByteArray := prog_1_method_20_code
def yX6_reasonEdge : MethodName := ⟨RX6, "reasonEdge", "(ZII)I"⟩
abbrev cX6_reasonClaim : ByteArray := prog_1_method_21_code
def yX6_reasonClaim : MethodName := ⟨RX6, "reasonClaim", "(I)I"⟩
abbrev cX6_next : ByteArray := prog_1_method_22_code
def yX6_next : MethodName := ⟨RX6, "next", "(I)I"⟩
abbrev cX6_ifAllCome : ByteArray := prog_1_method_23_code
def yX6_ifAllCome : MethodName := ⟨RX6, "ifAllCome", "(I)I"⟩
abbrev cX6_bestClaim : ByteArray := prog_1_method_24_code
def yX6_bestClaim : MethodName := ⟨RX6, "bestClaim", "(I)I"⟩
abbrev cX6_count : ByteArray := prog_1_method_25_code
def yX6_count : MethodName := ⟨RX6, "count", "(I)I"⟩
abbrev cX6_addEdgeLetter : ByteArray := prog_1_method_26_code
def yX6_addEdgeLetter : MethodName := ⟨RX6, "addEdgeLetter", "(IIII)I"⟩
abbrev cX6_addClaim : ByteArray := prog_1_method_27_code
def yX6_addClaim : MethodName := ⟨RX6, "addClaim", "(II)I"⟩
abbrev cX6_addTruce : ByteArray := prog_1_method_28_code
def yX6_addTruce : MethodName := ⟨RX6, "addTruce", "(II)I"⟩
abbrev cX6_addLetterOfGame : ByteArray := prog_1_method_29_code
def yX6_addLetterOfGame : MethodName := ⟨RX6, "addLetterOfGame", "(I)I"⟩
abbrev cX6_letDaysPass : ByteArray := prog_1_method_30_code
def yX6_letDaysPass : MethodName := ⟨RX6, "letDaysPass", "(I)I"⟩
abbrev cX6_recordUnlessError : ByteArray := prog_1_method_31_code
def yX6_recordUnlessError : MethodName := ⟨RX6, "recordUnlessError", "(I)I"⟩
abbrev cX6_edgesWithSomething : ByteArray := prog_1_method_32_code
def yX6_edgesWithSomething : MethodName := ⟨RX6, "edgesWithSomething", "(I)I"⟩
abbrev cX6_isPlayer : ByteArray := prog_1_method_33_code
def yX6_isPlayer : MethodName := ⟨RX6, "isPlayer", "(I)Z"⟩
abbrev cX6_isField : ByteArray := prog_1_method_34_code
def yX6_isField : MethodName := ⟨RX6, "isField", "(I)Z"⟩
abbrev cX6_isEdge : ByteArray := prog_1_method_35_code
def yX6_isEdge : MethodName := ⟨RX6, "isEdge", "(I)Z"⟩
abbrev cX6_fenceOf : ByteArray := prog_1_method_36_code
def yX6_fenceOf : MethodName := ⟨RX6, "fenceOf", "(I)I"⟩
def RX7 : String := "FenceDuelModel"
def TX7 : u_T := fun k => match k with
  | 0 => ("FenceDuelModel", "s", "[I", true)
  | 1 => ("FenceDuelModel", "aside", "[I", true)
  | 2 => ("FenceDuelModel", "ahead", "[I", true)
  | 3 => ("FenceDuelModel", "snapshot", "[I", true)
  | 4 => ("FenceDuelModel", "isKept", "Z", false)
  | 5 => ("FenceDuelModel", "before", "[I", true)
  | 6 => ("FenceDuelModel", "known", "I", false)
  | 7 => ("FenceDuelModel", "text", "[I", true)
  | 8 => ("FenceDuelModel", "length", "I", false)
  | 9 => ("FenceDuelModel", "stopAt", "I", false)
  | 10 => ("FenceDuelModel", "stopBy", "I", false)
  | 11 => ("FenceDuelModel", "isIn", "[Z", true)
  | 12 => ("FenceDuelModel", "position", "I", false)
  | 13 => ("FenceDuelModel", "isWrong", "Z", false)
  | 14 => ("FenceDuelModel", "player", "I", false)
  | 15 => ("FenceDuelModel", "kind", "I", false)
  | 16 => ("FenceDuelModel", "place", "I", false)
  | 17 => ("FenceDuelModel", "side", "I", false)
  | _ => ("FenceDuelModel", "stop", "I", false)
def tyX7 : Nat → FieldType := fun k => match k with
  | 0 => .array .int
  | 1 => .array .int
  | 2 => .array .int
  | 3 => .array .int
  | 4 => .boolean
  | 5 => .array .int
  | 6 => .int
  | 7 => .array .int
  | 8 => .int
  | 9 => .int
  | 10 => .int
  | 11 => .array .boolean
  | 12 => .int
  | 13 => .boolean
  | 14 => .int
  | 15 => .int
  | 16 => .int
  | 17 => .int
  | _ => .int
abbrev wsX70 : List Cond := u_ws RX7 TX7 19
theorem nmX7 : ∀ a, a < 19 → ∀ b, b < 19 → a ≠ b → (TX7 a).2.1 ≠ (TX7 b).2.1 := by decide +kernel
theorem tyX7_ok : ∀ k, k < 19 → parseFieldDescriptor (TX7 k).2.2.1 = some (tyX7 k) := by decide +kernel
abbrev cX7_init : ByteArray := prog_9_method_1_code
def yX7_init : MethodName := ⟨RX7, "<init>", "()V"⟩
abbrev cX7_in : ByteArray := prog_9_method_3_code
def yX7_in : MethodName := ⟨RX7, "in", "(III)Z"⟩
abbrev cX7_isPlayer : ByteArray := prog_9_method_4_code
def yX7_isPlayer : MethodName := ⟨RX7, "isPlayer", "(I)Z"⟩
abbrev cX7_isField : ByteArray := prog_9_method_5_code
def yX7_isField : MethodName := ⟨RX7, "isField", "(I)Z"⟩
abbrev cX7_isLetter : ByteArray := prog_9_method_6_code
def yX7_isLetter : MethodName := ⟨RX7, "isLetter", "(I)Z"⟩
abbrev cX7_at : ByteArray := prog_9_method_7_code
def yX7_at : MethodName := ⟨RX7, "at", "(II)I"⟩
abbrev cX7_of : ByteArray := prog_9_method_8_code
def yX7_of : MethodName := ⟨RX7, "of", "(II)I"⟩
abbrev cX7_looks : ByteArray := prog_9_method_9_code
def yX7_looks : MethodName := ⟨RX7, "looks", "()V"⟩
abbrev cX7_records : ByteArray := prog_9_method_10_code
def yX7_records : MethodName := ⟨RX7, "records", "()V"⟩
abbrev cX7_putAside : ByteArray := prog_9_method_11_code
def yX7_putAside : MethodName := ⟨RX7, "putAside", "()V"⟩
abbrev cX7_putBack : ByteArray := prog_9_method_12_code
def yX7_putBack : MethodName := ⟨RX7, "putBack", "()V"⟩
abbrev cX7_edgeAt : ByteArray := prog_9_method_13_code
def yX7_edgeAt : MethodName := ⟨RX7, "edgeAt", "(II)I"⟩
abbrev cX7_oneOf : ByteArray := prog_9_method_14_code
def yX7_oneOf : MethodName := ⟨RX7, "oneOf", "(I)I"⟩
abbrev cX7_otherOf : ByteArray := prog_9_method_15_code
def yX7_otherOf : MethodName := ⟨RX7, "otherOf", "(I)I"⟩
abbrev cX7_mark : ByteArray := prog_9_method_16_code
def yX7_mark : MethodName := ⟨RX7, "mark", "(I)I"⟩
abbrev cX7_freeIn : ByteArray := prog_9_method_17_code
def yX7_freeIn : MethodName := ⟨RX7, "freeIn", "(I)I"⟩
abbrev cX7_lowestIn : ByteArray := prog_9_method_18_code
def yX7_lowestIn : MethodName := ⟨RX7, "lowestIn", "(I)I"⟩
abbrev cX7_isTruce : ByteArray := prog_9_method_19_code
def yX7_isTruce : MethodName := ⟨RX7, "isTruce", "()Z"⟩
abbrev cX7_whyEdge : ByteArray := prog_9_method_20_code
def yX7_whyEdge : MethodName := ⟨RX7, "whyEdge", "(ZI)I"⟩
abbrev cX7_whyClaim : ByteArray := prog_9_method_21_code
def yX7_whyClaim : MethodName := ⟨RX7, "whyClaim", "(I)I"⟩
abbrev cX7_isTaken : ByteArray := prog_9_method_22_code
def yX7_isTaken : MethodName := ⟨RX7, "isTaken", "(I)Z"⟩
abbrev cX7_forgetsTaken : ByteArray := prog_9_method_23_code
def yX7_forgetsTaken : MethodName := ⟨RX7, "forgetsTaken", "()V"⟩
abbrev cX7_isSecond : ByteArray := prog_9_method_24_code
def yX7_isSecond : MethodName := ⟨RX7, "isSecond", "(I)Z"⟩
abbrev cX7_edgeOf : ByteArray := prog_9_method_25_code
def yX7_edgeOf : MethodName := ⟨RX7, "edgeOf", "(I)I"⟩
abbrev cX7_does : ByteArray := prog_9_method_26_code
def yX7_does : MethodName := ⟨RX7, "does", "(I)I"⟩
abbrev cX7_doesSecond : ByteArray := prog_9_method_27_code
def yX7_doesSecond : MethodName := ⟨RX7, "doesSecond", "(I)I"⟩
abbrev cX7_comes : ByteArray := prog_9_method_28_code
def yX7_comes : MethodName := ⟨RX7, "comes", "(I)V"⟩
abbrev cX7_day : ByteArray := prog_9_method_29_code
def yX7_day : MethodName := ⟨RX7, "day", "()I"⟩
abbrev cX7_passes : ByteArray := prog_9_method_30_code
def yX7_passes : MethodName := ⟨RX7, "passes", "(I)I"⟩
abbrev cX7_writes : ByteArray := prog_9_method_31_code
def yX7_writes : MethodName := ⟨RX7, "writes", "(IIII)I"⟩
abbrev cX7_acted : ByteArray := prog_9_method_32_code
def yX7_acted : MethodName := ⟨RX7, "acted", "(I)I"⟩
abbrev cX7_writeEdge : ByteArray := prog_9_method_33_code
def yX7_writeEdge : MethodName := ⟨RX7, "writeEdge", "(IZII)I"⟩
abbrev cX7_writeClaim : ByteArray := prog_9_method_34_code
def yX7_writeClaim : MethodName := ⟨RX7, "writeClaim", "(II)I"⟩
abbrev cX7_writeTruce : ByteArray := prog_9_method_35_code
def yX7_writeTruce : MethodName := ⟨RX7, "writeTruce", "(II)I"⟩
abbrev cX7_callBack : ByteArray := prog_9_method_36_code
def yX7_callBack : MethodName := ⟨RX7, "callBack", "(I)I"⟩
abbrev cX7_pass : ByteArray := prog_9_method_37_code
def yX7_pass : MethodName := ⟨RX7, "pass", "(I)I"⟩
abbrev cX7_set : ByteArray := prog_9_method_38_code
def yX7_set : MethodName := ⟨RX7, "set", "(II)I"⟩
abbrev cX7_type : ByteArray := prog_9_method_39_code
def yX7_type : MethodName := ⟨RX7, "type", "(C)I"⟩
abbrev cX7_clearText : ByteArray := prog_9_method_40_code
def yX7_clearText : MethodName := ⟨RX7, "clearText", "()I"⟩
abbrev cX7_isNext : ByteArray := prog_9_method_41_code
def yX7_isNext : MethodName := ⟨RX7, "isNext", "(II)Z"⟩
abbrev cX7_takes : ByteArray := prog_9_method_42_code
def yX7_takes : MethodName := ⟨RX7, "takes", "(II)I"⟩
abbrev cX7_takesNumber : ByteArray := prog_9_method_43_code
def yX7_takesNumber : MethodName := ⟨RX7, "takesNumber", "(II)I"⟩
abbrev cX7_takesSign : ByteArray := prog_9_method_44_code
def yX7_takesSign : MethodName := ⟨RX7, "takesSign", "(II)I"⟩
abbrev cX7_readThing : ByteArray := prog_9_method_45_code
def yX7_readThing : MethodName := ⟨RX7, "readThing", "()V"⟩
abbrev cX7_runs : ByteArray := prog_9_method_46_code
def yX7_runs : MethodName := ⟨RX7, "runs", "(Z)I"⟩
abbrev cX7_perform : ByteArray := prog_9_method_47_code
def yX7_perform : MethodName := ⟨RX7, "perform", "()I"⟩
abbrev cX7_stopped : ByteArray := prog_9_method_48_code
def yX7_stopped : MethodName := ⟨RX7, "stopped", "(I)I"⟩
abbrev cX7_undo : ByteArray := prog_9_method_49_code
def yX7_undo : MethodName := ⟨RX7, "undo", "()I"⟩
abbrev cX7_keep : ByteArray := prog_9_method_50_code
def yX7_keep : MethodName := ⟨RX7, "keep", "()I"⟩
abbrev cX7_restore : ByteArray := prog_9_method_51_code
def yX7_restore : MethodName := ⟨RX7, "restore", "()I"⟩
abbrev cX7_edge : ByteArray := prog_9_method_52_code
def yX7_edge : MethodName := ⟨RX7, "edge", "(II)I"⟩
abbrev cX7_edgesOf : ByteArray := prog_9_method_53_code
def yX7_edgesOf : MethodName := ⟨RX7, "edgesOf", "(I)I"⟩
abbrev cX7_field : ByteArray := prog_9_method_54_code
def yX7_field : MethodName := ⟨RX7, "field", "(II)I"⟩
abbrev cX7_joined : ByteArray := prog_9_method_55_code
def yX7_joined : MethodName := ⟨RX7, "joined", "(I)I"⟩
abbrev cX7_letter : ByteArray := prog_9_method_56_code
def yX7_letter : MethodName := ⟨RX7, "letter", "(II)I"⟩
abbrev cX7_cross : ByteArray := prog_9_method_57_code
def yX7_cross : MethodName := ⟨RX7, "cross", "(II)Z"⟩
abbrev cX7_crossed : ByteArray := prog_9_method_58_code
def yX7_crossed : MethodName := ⟨RX7, "crossed", "(II)I"⟩
abbrev cX7_reasonEdge : ByteArray := prog_9_method_59_code
def yX7_reasonEdge : MethodName := ⟨RX7, "reasonEdge", "(ZII)I"⟩
abbrev cX7_reasonClaim : ByteArray := prog_9_method_60_code
def yX7_reasonClaim : MethodName := ⟨RX7, "reasonClaim", "(I)I"⟩
abbrev cX7_nextLetter : ByteArray := prog_9_method_61_code
def yX7_nextLetter : MethodName := ⟨RX7, "nextLetter", "()I"⟩
abbrev cX7_next : ByteArray := prog_9_method_62_code
def yX7_next : MethodName := ⟨RX7, "next", "(I)I"⟩
abbrev cX7_lettersThat : ByteArray := prog_9_method_63_code
def yX7_lettersThat : MethodName := ⟨RX7, "lettersThat", "(I)I"⟩
abbrev cX7_edgesThat : ByteArray := prog_9_method_64_code
def yX7_edgesThat : MethodName := ⟨RX7, "edgesThat", "(I)I"⟩
abbrev cX7_fieldsOf : ByteArray := prog_9_method_65_code
def yX7_fieldsOf : MethodName := ⟨RX7, "fieldsOf", "(I)I"⟩
abbrev cX7_ifAllCome : ByteArray := prog_9_method_66_code
def yX7_ifAllCome : MethodName := ⟨RX7, "ifAllCome", "(I)I"⟩
abbrev cX7_bestClaim : ByteArray := prog_9_method_67_code
def yX7_bestClaim : MethodName := ⟨RX7, "bestClaim", "(I)I"⟩
abbrev cX7_regions : ByteArray := prog_9_method_68_code
def yX7_regions : MethodName := ⟨RX7, "regions", "()I"⟩
abbrev cX7_count : ByteArray := prog_9_method_69_code
def yX7_count : MethodName := ⟨RX7, "count", "(I)I"⟩
def RJ9 : String := "java/lang/Math"
def TJ9 : u_T := fun k => match k with
  | _ => ("", "", "", false)
def tyJ9 : Nat → FieldType := fun k => match k with
  | _ => .int
abbrev cJ9_floorMod_7cf53 : ByteArray := prog_10_method_50_code
def yJ9_floorMod_7cf53 : MethodName := ⟨RJ9, "floorMod", "(II)I"⟩
def RJ10 : String := "java/lang/System"
def TJ10 : u_T := fun k => match k with
  | _ => ("", "", "", false)
def tyJ10 : Nat → FieldType := fun k => match k with
  | _ => .int
def RJ7 : String := "java/util/Arrays"
def TJ7 : u_T := fun k => match k with
  | _ => ("", "", "", false)
def tyJ7 : Nat → FieldType := fun k => match k with
  | _ => .int
abbrev cJ7_fill_53178 : ByteArray := prog_12_method_103_code
def yJ7_fill_53178 : MethodName := ⟨RJ7, "fill", "([II)V"⟩
def RL : String := "FenceDuelLaw"
abbrev cL_law : ByteArray := code
def yL_law : MethodName := ⟨RL, "law", "([I)Z"⟩
abbrev vwCl : List vw_C := [(RX0, TX0, 8), (RX1, TX1, 4), (RX2, TX2, 3), (RX3, TX3, 2), (RX4, TX4, 6), (RX5, TX5, 9), (RX6, TX6, 13), (RX7, TX7, 19)]
