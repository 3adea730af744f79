section
-- ===== PART A: goes FIRST, ahead of the names: the tables' words, and 'selects' of the private methods out of them =====
/-- a private method of a class that the tables say can be made, by its rows of tables_1 -/
def lw_okq (q : MethodName × Nat) : Prop := (q.1.cls ≠ "java/lang/invoke/MethodHandle" ∧ q.1.cls ≠ "java/lang/invoke/VarHandle") ∧ Cond.instantiable q.1.cls q.2 ∈ tables_1 ∧ Cond.privateMethod q.1 ∈ tables_1 ∧ Cond.instanceMethod q.1 ∈ tables_1
theorem lw_p0 : lw_okq (⟨"FenceDuel$Ground", "layEdge", "(IIII)V"⟩, 4) := ⟨⟨by decide +kernel, by decide +kernel⟩, List.mem_of_getElem? (i := 20) (by decide +kernel), List.mem_of_getElem? (i := 29) (by decide +kernel), List.mem_of_getElem? (i := 30) (by decide +kernel)⟩
theorem lw_p1 : lw_okq (⟨"FenceDuel", "addEdgeLetter", "(IIII)I"⟩, 13) := ⟨⟨by decide +kernel, by decide +kernel⟩, List.mem_of_getElem? (i := 12) (by decide +kernel), List.mem_of_getElem? (i := 250) (by decide +kernel), List.mem_of_getElem? (i := 251) (by decide +kernel)⟩
theorem lw_p2 : lw_okq (⟨"FenceDuel", "recordUnlessError", "(I)I"⟩, 13) := ⟨⟨by decide +kernel, by decide +kernel⟩, List.mem_of_getElem? (i := 12) (by decide +kernel), List.mem_of_getElem? (i := 274) (by decide +kernel), List.mem_of_getElem? (i := 275) (by decide +kernel)⟩
theorem lw_p3 : lw_okq (⟨"FenceDuel", "addClaim", "(II)I"⟩, 13) := ⟨⟨by decide +kernel, by decide +kernel⟩, List.mem_of_getElem? (i := 12) (by decide +kernel), List.mem_of_getElem? (i := 287) (by decide +kernel), List.mem_of_getElem? (i := 288) (by decide +kernel)⟩
theorem lw_p4 : lw_okq (⟨"FenceDuel", "addTruce", "(II)I"⟩, 13) := ⟨⟨by decide +kernel, by decide +kernel⟩, List.mem_of_getElem? (i := 12) (by decide +kernel), List.mem_of_getElem? (i := 296) (by decide +kernel), List.mem_of_getElem? (i := 297) (by decide +kernel)⟩
theorem lw_p5 : lw_okq (⟨"FenceDuel", "letDaysPass", "(I)I"⟩, 13) := ⟨⟨by decide +kernel, by decide +kernel⟩, List.mem_of_getElem? (i := 12) (by decide +kernel), List.mem_of_getElem? (i := 314) (by decide +kernel), List.mem_of_getElem? (i := 315) (by decide +kernel)⟩
theorem lw_p6 : lw_okq (⟨"FenceDuel$Post", "bring", "(LFenceDuel$State;I)V"⟩, 2) := ⟨⟨by decide +kernel, by decide +kernel⟩, List.mem_of_getElem? (i := 82) (by decide +kernel), List.mem_of_getElem? (i := 328) (by decide +kernel), List.mem_of_getElem? (i := 329) (by decide +kernel)⟩
theorem lw_p7 : lw_okq (⟨"FenceDuel$Post", "growsHedge", "(LFenceDuel$State;II)Z"⟩, 2) := ⟨⟨by decide +kernel, by decide +kernel⟩, List.mem_of_getElem? (i := 82) (by decide +kernel), List.mem_of_getElem? (i := 340) (by decide +kernel), List.mem_of_getElem? (i := 341) (by decide +kernel)⟩
theorem lw_p8 : lw_okq (⟨"FenceDuel$Post", "edgeOf", "(LFenceDuel$State;I)I"⟩, 2) := ⟨⟨by decide +kernel, by decide +kernel⟩, List.mem_of_getElem? (i := 82) (by decide +kernel), List.mem_of_getElem? (i := 348) (by decide +kernel), List.mem_of_getElem? (i := 349) (by decide +kernel)⟩
theorem lw_p9 : lw_okq (⟨"FenceDuel$Post", "makesVoid", "(LFenceDuel$State;II)Z"⟩, 2) := ⟨⟨by decide +kernel, by decide +kernel⟩, List.mem_of_getElem? (i := 82) (by decide +kernel), List.mem_of_getElem? (i := 365) (by decide +kernel), List.mem_of_getElem? (i := 366) (by decide +kernel)⟩
theorem lw_p10 : lw_okq (⟨"FenceDuel$Post", "reasonAgainst", "(LFenceDuel$State;I)I"⟩, 2) := ⟨⟨by decide +kernel, by decide +kernel⟩, List.mem_of_getElem? (i := 82) (by decide +kernel), List.mem_of_getElem? (i := 378) (by decide +kernel), List.mem_of_getElem? (i := 379) (by decide +kernel)⟩
theorem lw_p11 : lw_okq (⟨"FenceDuel$Regions", "spreadFrom", "(LFenceDuel$State;I)V"⟩, 6) := ⟨⟨by decide +kernel, by decide +kernel⟩, List.mem_of_getElem? (i := 57) (by decide +kernel), List.mem_of_getElem? (i := 399) (by decide +kernel), List.mem_of_getElem? (i := 400) (by decide +kernel)⟩
theorem lw_p12 : lw_okq (⟨"FenceDuel$Post", "carryOut", "(LFenceDuel$State;I)V"⟩, 2) := ⟨⟨by decide +kernel, by decide +kernel⟩, List.mem_of_getElem? (i := 82) (by decide +kernel), List.mem_of_getElem? (i := 413) (by decide +kernel), List.mem_of_getElem? (i := 414) (by decide +kernel)⟩
theorem lw_p13 : lw_okq (⟨"FenceDuel$Post", "takeRegion", "(LFenceDuel$State;I)V"⟩, 2) := ⟨⟨by decide +kernel, by decide +kernel⟩, List.mem_of_getElem? (i := 82) (by decide +kernel), List.mem_of_getElem? (i := 417) (by decide +kernel), List.mem_of_getElem? (i := 418) (by decide +kernel)⟩
theorem lw_p14 : lw_okq (⟨"FenceDuel$Game", "readThing", "(I)Z"⟩, 8) := ⟨⟨by decide +kernel, by decide +kernel⟩, List.mem_of_getElem? (i := 95) (by decide +kernel), List.mem_of_getElem? (i := 455) (by decide +kernel), List.mem_of_getElem? (i := 456) (by decide +kernel)⟩
theorem lw_p15 : lw_okq (⟨"FenceDuel$Game", "look", "()I"⟩, 8) := ⟨⟨by decide +kernel, by decide +kernel⟩, List.mem_of_getElem? (i := 95) (by decide +kernel), List.mem_of_getElem? (i := 459) (by decide +kernel), List.mem_of_getElem? (i := 460) (by decide +kernel)⟩
def lw_privs_1 : List (MethodName × Nat) := [(⟨"FenceDuel$Ground", "layEdge", "(IIII)V"⟩, 4), (⟨"FenceDuel", "addEdgeLetter", "(IIII)I"⟩, 13), (⟨"FenceDuel", "recordUnlessError", "(I)I"⟩, 13), (⟨"FenceDuel", "addClaim", "(II)I"⟩, 13), (⟨"FenceDuel", "addTruce", "(II)I"⟩, 13), (⟨"FenceDuel", "letDaysPass", "(I)I"⟩, 13), (⟨"FenceDuel$Post", "bring", "(LFenceDuel$State;I)V"⟩, 2), (⟨"FenceDuel$Post", "growsHedge", "(LFenceDuel$State;II)Z"⟩, 2), (⟨"FenceDuel$Post", "edgeOf", "(LFenceDuel$State;I)I"⟩, 2), (⟨"FenceDuel$Post", "makesVoid", "(LFenceDuel$State;II)Z"⟩, 2), (⟨"FenceDuel$Post", "reasonAgainst", "(LFenceDuel$State;I)I"⟩, 2), (⟨"FenceDuel$Regions", "spreadFrom", "(LFenceDuel$State;I)V"⟩, 6), (⟨"FenceDuel$Post", "carryOut", "(LFenceDuel$State;I)V"⟩, 2), (⟨"FenceDuel$Post", "takeRegion", "(LFenceDuel$State;I)V"⟩, 2), (⟨"FenceDuel$Game", "readThing", "(I)Z"⟩, 8), (⟨"FenceDuel$Game", "look", "()I"⟩, 8)]
theorem lw_r1 : ∀ q ∈ lw_privs_1, lw_okq q := List.forall_mem_cons.mpr ⟨lw_p0, List.forall_mem_cons.mpr ⟨lw_p1, List.forall_mem_cons.mpr ⟨lw_p2, List.forall_mem_cons.mpr ⟨lw_p3, List.forall_mem_cons.mpr ⟨lw_p4, List.forall_mem_cons.mpr ⟨lw_p5, List.forall_mem_cons.mpr ⟨lw_p6, List.forall_mem_cons.mpr ⟨lw_p7, List.forall_mem_cons.mpr ⟨lw_p8, List.forall_mem_cons.mpr ⟨lw_p9, List.forall_mem_cons.mpr ⟨lw_p10, List.forall_mem_cons.mpr ⟨lw_p11, List.forall_mem_cons.mpr ⟨lw_p12, List.forall_mem_cons.mpr ⟨lw_p13, List.forall_mem_cons.mpr ⟨lw_p14, List.forall_mem_cons.mpr ⟨lw_p15, fun _ h => absurd h List.not_mem_nil⟩⟩⟩⟩⟩⟩⟩⟩⟩⟩⟩⟩⟩⟩⟩⟩
theorem lw_p16 : lw_okq (⟨"FenceDuel$Game", "readNumber", "(III)Z"⟩, 8) := ⟨⟨by decide +kernel, by decide +kernel⟩, List.mem_of_getElem? (i := 95) (by decide +kernel), List.mem_of_getElem? (i := 463) (by decide +kernel), List.mem_of_getElem? (i := 464) (by decide +kernel)⟩
theorem lw_p17 : lw_okq (⟨"FenceDuel$Game", "readLetter", "(I)Z"⟩, 8) := ⟨⟨by decide +kernel, by decide +kernel⟩, List.mem_of_getElem? (i := 95) (by decide +kernel), List.mem_of_getElem? (i := 470) (by decide +kernel), List.mem_of_getElem? (i := 471) (by decide +kernel)⟩
theorem lw_p18 : lw_okq (⟨"FenceDuel$Game", "readSide", "(I)Z"⟩, 8) := ⟨⟨by decide +kernel, by decide +kernel⟩, List.mem_of_getElem? (i := 95) (by decide +kernel), List.mem_of_getElem? (i := 477) (by decide +kernel), List.mem_of_getElem? (i := 478) (by decide +kernel)⟩
theorem lw_p19 : lw_okq (⟨"FenceDuel", "addLetterOfGame", "(I)I"⟩, 13) := ⟨⟨by decide +kernel, by decide +kernel⟩, List.mem_of_getElem? (i := 12) (by decide +kernel), List.mem_of_getElem? (i := 488) (by decide +kernel), List.mem_of_getElem? (i := 489) (by decide +kernel)⟩
theorem lw_p20 : lw_okq (⟨"FenceDuel", "edgesWithSomething", "(I)I"⟩, 13) := ⟨⟨by decide +kernel, by decide +kernel⟩, List.mem_of_getElem? (i := 12) (by decide +kernel), List.mem_of_getElem? (i := 533) (by decide +kernel), List.mem_of_getElem? (i := 534) (by decide +kernel)⟩
theorem lw_p21 : lw_okq (⟨"FenceDuel$Regions", "relabel", "(II)V"⟩, 6) := ⟨⟨by decide +kernel, by decide +kernel⟩, List.mem_of_getElem? (i := 57) (by decide +kernel), List.mem_of_getElem? (i := 545) (by decide +kernel), List.mem_of_getElem? (i := 546) (by decide +kernel)⟩
theorem lw_p22 : lw_okq (⟨"FenceDuel$Regions", "countLabel", "(I)I"⟩, 6) := ⟨⟨by decide +kernel, by decide +kernel⟩, List.mem_of_getElem? (i := 57) (by decide +kernel), List.mem_of_getElem? (i := 549) (by decide +kernel), List.mem_of_getElem? (i := 550) (by decide +kernel)⟩
theorem lw_p23 : lw_okq (⟨"FenceDuelModel", "looks", "()V"⟩, 19) := ⟨⟨by decide +kernel, by decide +kernel⟩, List.mem_of_getElem? (i := 609) (by decide +kernel), List.mem_of_getElem? (i := 678) (by decide +kernel), List.mem_of_getElem? (i := 679) (by decide +kernel)⟩
theorem lw_p24 : lw_okq (⟨"FenceDuelModel", "writes", "(IIII)I"⟩, 19) := ⟨⟨by decide +kernel, by decide +kernel⟩, List.mem_of_getElem? (i := 609) (by decide +kernel), List.mem_of_getElem? (i := 682) (by decide +kernel), List.mem_of_getElem? (i := 683) (by decide +kernel)⟩
theorem lw_p25 : lw_okq (⟨"FenceDuelModel", "acted", "(I)I"⟩, 19) := ⟨⟨by decide +kernel, by decide +kernel⟩, List.mem_of_getElem? (i := 609) (by decide +kernel), List.mem_of_getElem? (i := 701) (by decide +kernel), List.mem_of_getElem? (i := 702) (by decide +kernel)⟩
theorem lw_p26 : lw_okq (⟨"FenceDuelModel", "records", "()V"⟩, 19) := ⟨⟨by decide +kernel, by decide +kernel⟩, List.mem_of_getElem? (i := 609) (by decide +kernel), List.mem_of_getElem? (i := 705) (by decide +kernel), List.mem_of_getElem? (i := 706) (by decide +kernel)⟩
theorem lw_p27 : lw_okq (⟨"FenceDuelModel", "isLetter", "(I)Z"⟩, 19) := ⟨⟨by decide +kernel, by decide +kernel⟩, List.mem_of_getElem? (i := 609) (by decide +kernel), List.mem_of_getElem? (i := 721) (by decide +kernel), List.mem_of_getElem? (i := 722) (by decide +kernel)⟩
theorem lw_p28 : lw_okq (⟨"FenceDuelModel", "of", "(II)I"⟩, 19) := ⟨⟨by decide +kernel, by decide +kernel⟩, List.mem_of_getElem? (i := 609) (by decide +kernel), List.mem_of_getElem? (i := 725) (by decide +kernel), List.mem_of_getElem? (i := 726) (by decide +kernel)⟩
theorem lw_p29 : lw_okq (⟨"FenceDuelModel", "passes", "(I)I"⟩, 19) := ⟨⟨by decide +kernel, by decide +kernel⟩, List.mem_of_getElem? (i := 609) (by decide +kernel), List.mem_of_getElem? (i := 733) (by decide +kernel), List.mem_of_getElem? (i := 734) (by decide +kernel)⟩
theorem lw_p30 : lw_okq (⟨"FenceDuelModel", "day", "()I"⟩, 19) := ⟨⟨by decide +kernel, by decide +kernel⟩, List.mem_of_getElem? (i := 609) (by decide +kernel), List.mem_of_getElem? (i := 737) (by decide +kernel), List.mem_of_getElem? (i := 738) (by decide +kernel)⟩
theorem lw_p31 : lw_okq (⟨"FenceDuelModel", "comes", "(I)V"⟩, 19) := ⟨⟨by decide +kernel, by decide +kernel⟩, List.mem_of_getElem? (i := 609) (by decide +kernel), List.mem_of_getElem? (i := 741) (by decide +kernel), List.mem_of_getElem? (i := 742) (by decide +kernel)⟩
def lw_privs_2 : List (MethodName × Nat) := [(⟨"FenceDuel$Game", "readNumber", "(III)Z"⟩, 8), (⟨"FenceDuel$Game", "readLetter", "(I)Z"⟩, 8), (⟨"FenceDuel$Game", "readSide", "(I)Z"⟩, 8), (⟨"FenceDuel", "addLetterOfGame", "(I)I"⟩, 13), (⟨"FenceDuel", "edgesWithSomething", "(I)I"⟩, 13), (⟨"FenceDuel$Regions", "relabel", "(II)V"⟩, 6), (⟨"FenceDuel$Regions", "countLabel", "(I)I"⟩, 6), (⟨"FenceDuelModel", "looks", "()V"⟩, 19), (⟨"FenceDuelModel", "writes", "(IIII)I"⟩, 19), (⟨"FenceDuelModel", "acted", "(I)I"⟩, 19), (⟨"FenceDuelModel", "records", "()V"⟩, 19), (⟨"FenceDuelModel", "isLetter", "(I)Z"⟩, 19), (⟨"FenceDuelModel", "of", "(II)I"⟩, 19), (⟨"FenceDuelModel", "passes", "(I)I"⟩, 19), (⟨"FenceDuelModel", "day", "()I"⟩, 19), (⟨"FenceDuelModel", "comes", "(I)V"⟩, 19)]
theorem lw_r2 : ∀ q ∈ lw_privs_2, lw_okq q := List.forall_mem_cons.mpr ⟨lw_p16, List.forall_mem_cons.mpr ⟨lw_p17, List.forall_mem_cons.mpr ⟨lw_p18, List.forall_mem_cons.mpr ⟨lw_p19, List.forall_mem_cons.mpr ⟨lw_p20, List.forall_mem_cons.mpr ⟨lw_p21, List.forall_mem_cons.mpr ⟨lw_p22, List.forall_mem_cons.mpr ⟨lw_p23, List.forall_mem_cons.mpr ⟨lw_p24, List.forall_mem_cons.mpr ⟨lw_p25, List.forall_mem_cons.mpr ⟨lw_p26, List.forall_mem_cons.mpr ⟨lw_p27, List.forall_mem_cons.mpr ⟨lw_p28, List.forall_mem_cons.mpr ⟨lw_p29, List.forall_mem_cons.mpr ⟨lw_p30, List.forall_mem_cons.mpr ⟨lw_p31, fun _ h => absurd h List.not_mem_nil⟩⟩⟩⟩⟩⟩⟩⟩⟩⟩⟩⟩⟩⟩⟩⟩
theorem lw_p32 : lw_okq (⟨"FenceDuelModel", "isSecond", "(I)Z"⟩, 19) := ⟨⟨by decide +kernel, by decide +kernel⟩, List.mem_of_getElem? (i := 609) (by decide +kernel), List.mem_of_getElem? (i := 745) (by decide +kernel), List.mem_of_getElem? (i := 746) (by decide +kernel)⟩
theorem lw_p33 : lw_okq (⟨"FenceDuelModel", "doesSecond", "(I)I"⟩, 19) := ⟨⟨by decide +kernel, by decide +kernel⟩, List.mem_of_getElem? (i := 609) (by decide +kernel), List.mem_of_getElem? (i := 749) (by decide +kernel), List.mem_of_getElem? (i := 750) (by decide +kernel)⟩
theorem lw_p34 : lw_okq (⟨"FenceDuelModel", "edgeOf", "(I)I"⟩, 19) := ⟨⟨by decide +kernel, by decide +kernel⟩, List.mem_of_getElem? (i := 609) (by decide +kernel), List.mem_of_getElem? (i := 753) (by decide +kernel), List.mem_of_getElem? (i := 754) (by decide +kernel)⟩
theorem lw_p35 : lw_okq (⟨"FenceDuelModel", "isTaken", "(I)Z"⟩, 19) := ⟨⟨by decide +kernel, by decide +kernel⟩, List.mem_of_getElem? (i := 609) (by decide +kernel), List.mem_of_getElem? (i := 757) (by decide +kernel), List.mem_of_getElem? (i := 758) (by decide +kernel)⟩
theorem lw_p36 : lw_okq (⟨"FenceDuelModel", "forgetsTaken", "()V"⟩, 19) := ⟨⟨by decide +kernel, by decide +kernel⟩, List.mem_of_getElem? (i := 609) (by decide +kernel), List.mem_of_getElem? (i := 761) (by decide +kernel), List.mem_of_getElem? (i := 762) (by decide +kernel)⟩
theorem lw_p37 : lw_okq (⟨"FenceDuelModel", "does", "(I)I"⟩, 19) := ⟨⟨by decide +kernel, by decide +kernel⟩, List.mem_of_getElem? (i := 609) (by decide +kernel), List.mem_of_getElem? (i := 765) (by decide +kernel), List.mem_of_getElem? (i := 766) (by decide +kernel)⟩
theorem lw_p38 : lw_okq (⟨"FenceDuelModel", "whyEdge", "(ZI)I"⟩, 19) := ⟨⟨by decide +kernel, by decide +kernel⟩, List.mem_of_getElem? (i := 609) (by decide +kernel), List.mem_of_getElem? (i := 769) (by decide +kernel), List.mem_of_getElem? (i := 770) (by decide +kernel)⟩
theorem lw_p39 : lw_okq (⟨"FenceDuelModel", "isTruce", "()Z"⟩, 19) := ⟨⟨by decide +kernel, by decide +kernel⟩, List.mem_of_getElem? (i := 609) (by decide +kernel), List.mem_of_getElem? (i := 773) (by decide +kernel), List.mem_of_getElem? (i := 774) (by decide +kernel)⟩
theorem lw_p40 : lw_okq (⟨"FenceDuelModel", "whyClaim", "(I)I"⟩, 19) := ⟨⟨by decide +kernel, by decide +kernel⟩, List.mem_of_getElem? (i := 609) (by decide +kernel), List.mem_of_getElem? (i := 777) (by decide +kernel), List.mem_of_getElem? (i := 778) (by decide +kernel)⟩
theorem lw_p41 : lw_okq (⟨"FenceDuelModel", "mark", "(I)I"⟩, 19) := ⟨⟨by decide +kernel, by decide +kernel⟩, List.mem_of_getElem? (i := 609) (by decide +kernel), List.mem_of_getElem? (i := 781) (by decide +kernel), List.mem_of_getElem? (i := 782) (by decide +kernel)⟩
theorem lw_p42 : lw_okq (⟨"FenceDuelModel", "runs", "(Z)I"⟩, 19) := ⟨⟨by decide +kernel, by decide +kernel⟩, List.mem_of_getElem? (i := 609) (by decide +kernel), List.mem_of_getElem? (i := 807) (by decide +kernel), List.mem_of_getElem? (i := 808) (by decide +kernel)⟩
theorem lw_p43 : lw_okq (⟨"FenceDuelModel", "readThing", "()V"⟩, 19) := ⟨⟨by decide +kernel, by decide +kernel⟩, List.mem_of_getElem? (i := 609) (by decide +kernel), List.mem_of_getElem? (i := 811) (by decide +kernel), List.mem_of_getElem? (i := 812) (by decide +kernel)⟩
theorem lw_p44 : lw_okq (⟨"FenceDuelModel", "isNext", "(II)Z"⟩, 19) := ⟨⟨by decide +kernel, by decide +kernel⟩, List.mem_of_getElem? (i := 609) (by decide +kernel), List.mem_of_getElem? (i := 815) (by decide +kernel), List.mem_of_getElem? (i := 816) (by decide +kernel)⟩
theorem lw_p45 : lw_okq (⟨"FenceDuelModel", "takes", "(II)I"⟩, 19) := ⟨⟨by decide +kernel, by decide +kernel⟩, List.mem_of_getElem? (i := 609) (by decide +kernel), List.mem_of_getElem? (i := 819) (by decide +kernel), List.mem_of_getElem? (i := 820) (by decide +kernel)⟩
theorem lw_p46 : lw_okq (⟨"FenceDuelModel", "takesNumber", "(II)I"⟩, 19) := ⟨⟨by decide +kernel, by decide +kernel⟩, List.mem_of_getElem? (i := 609) (by decide +kernel), List.mem_of_getElem? (i := 823) (by decide +kernel), List.mem_of_getElem? (i := 824) (by decide +kernel)⟩
theorem lw_p47 : lw_okq (⟨"FenceDuelModel", "takesSign", "(II)I"⟩, 19) := ⟨⟨by decide +kernel, by decide +kernel⟩, List.mem_of_getElem? (i := 609) (by decide +kernel), List.mem_of_getElem? (i := 828) (by decide +kernel), List.mem_of_getElem? (i := 829) (by decide +kernel)⟩
def lw_privs_3 : List (MethodName × Nat) := [(⟨"FenceDuelModel", "isSecond", "(I)Z"⟩, 19), (⟨"FenceDuelModel", "doesSecond", "(I)I"⟩, 19), (⟨"FenceDuelModel", "edgeOf", "(I)I"⟩, 19), (⟨"FenceDuelModel", "isTaken", "(I)Z"⟩, 19), (⟨"FenceDuelModel", "forgetsTaken", "()V"⟩, 19), (⟨"FenceDuelModel", "does", "(I)I"⟩, 19), (⟨"FenceDuelModel", "whyEdge", "(ZI)I"⟩, 19), (⟨"FenceDuelModel", "isTruce", "()Z"⟩, 19), (⟨"FenceDuelModel", "whyClaim", "(I)I"⟩, 19), (⟨"FenceDuelModel", "mark", "(I)I"⟩, 19), (⟨"FenceDuelModel", "runs", "(Z)I"⟩, 19), (⟨"FenceDuelModel", "readThing", "()V"⟩, 19), (⟨"FenceDuelModel", "isNext", "(II)Z"⟩, 19), (⟨"FenceDuelModel", "takes", "(II)I"⟩, 19), (⟨"FenceDuelModel", "takesNumber", "(II)I"⟩, 19), (⟨"FenceDuelModel", "takesSign", "(II)I"⟩, 19)]
theorem lw_r3 : ∀ q ∈ lw_privs_3, lw_okq q := List.forall_mem_cons.mpr ⟨lw_p32, List.forall_mem_cons.mpr ⟨lw_p33, List.forall_mem_cons.mpr ⟨lw_p34, List.forall_mem_cons.mpr ⟨lw_p35, List.forall_mem_cons.mpr ⟨lw_p36, List.forall_mem_cons.mpr ⟨lw_p37, List.forall_mem_cons.mpr ⟨lw_p38, List.forall_mem_cons.mpr ⟨lw_p39, List.forall_mem_cons.mpr ⟨lw_p40, List.forall_mem_cons.mpr ⟨lw_p41, List.forall_mem_cons.mpr ⟨lw_p42, List.forall_mem_cons.mpr ⟨lw_p43, List.forall_mem_cons.mpr ⟨lw_p44, List.forall_mem_cons.mpr ⟨lw_p45, List.forall_mem_cons.mpr ⟨lw_p46, List.forall_mem_cons.mpr ⟨lw_p47, fun _ h => absurd h List.not_mem_nil⟩⟩⟩⟩⟩⟩⟩⟩⟩⟩⟩⟩⟩⟩⟩⟩
theorem lw_p48 : lw_okq (⟨"FenceDuelModel", "freeIn", "(I)I"⟩, 19) := ⟨⟨by decide +kernel, by decide +kernel⟩, List.mem_of_getElem? (i := 609) (by decide +kernel), List.mem_of_getElem? (i := 857) (by decide +kernel), List.mem_of_getElem? (i := 858) (by decide +kernel)⟩
theorem lw_p49 : lw_okq (⟨"FenceDuelModel", "lowestIn", "(I)I"⟩, 19) := ⟨⟨by decide +kernel, by decide +kernel⟩, List.mem_of_getElem? (i := 609) (by decide +kernel), List.mem_of_getElem? (i := 861) (by decide +kernel), List.mem_of_getElem? (i := 862) (by decide +kernel)⟩
theorem lw_p50 : lw_okq (⟨"FenceDuelModel", "edgesOf", "(I)I"⟩, 19) := ⟨⟨by decide +kernel, by decide +kernel⟩, List.mem_of_getElem? (i := 609) (by decide +kernel), List.mem_of_getElem? (i := 865) (by decide +kernel), List.mem_of_getElem? (i := 866) (by decide +kernel)⟩
theorem lw_p51 : lw_okq (⟨"FenceDuelModel", "cross", "(II)Z"⟩, 19) := ⟨⟨by decide +kernel, by decide +kernel⟩, List.mem_of_getElem? (i := 609) (by decide +kernel), List.mem_of_getElem? (i := 881) (by decide +kernel), List.mem_of_getElem? (i := 882) (by decide +kernel)⟩
theorem lw_p52 : lw_okq (⟨"FenceDuelModel", "nextLetter", "()I"⟩, 19) := ⟨⟨by decide +kernel, by decide +kernel⟩, List.mem_of_getElem? (i := 609) (by decide +kernel), List.mem_of_getElem? (i := 897) (by decide +kernel), List.mem_of_getElem? (i := 898) (by decide +kernel)⟩
theorem lw_p53 : lw_okq (⟨"FenceDuelModel", "putAside", "()V"⟩, 19) := ⟨⟨by decide +kernel, by decide +kernel⟩, List.mem_of_getElem? (i := 609) (by decide +kernel), List.mem_of_getElem? (i := 905) (by decide +kernel), List.mem_of_getElem? (i := 906) (by decide +kernel)⟩
theorem lw_p54 : lw_okq (⟨"FenceDuelModel", "fieldsOf", "(I)I"⟩, 19) := ⟨⟨by decide +kernel, by decide +kernel⟩, List.mem_of_getElem? (i := 609) (by decide +kernel), List.mem_of_getElem? (i := 909) (by decide +kernel), List.mem_of_getElem? (i := 910) (by decide +kernel)⟩
theorem lw_p55 : lw_okq (⟨"FenceDuelModel", "edgesThat", "(I)I"⟩, 19) := ⟨⟨by decide +kernel, by decide +kernel⟩, List.mem_of_getElem? (i := 609) (by decide +kernel), List.mem_of_getElem? (i := 913) (by decide +kernel), List.mem_of_getElem? (i := 914) (by decide +kernel)⟩
theorem lw_p56 : lw_okq (⟨"FenceDuelModel", "lettersThat", "(I)I"⟩, 19) := ⟨⟨by decide +kernel, by decide +kernel⟩, List.mem_of_getElem? (i := 609) (by decide +kernel), List.mem_of_getElem? (i := 917) (by decide +kernel), List.mem_of_getElem? (i := 918) (by decide +kernel)⟩
theorem lw_p57 : lw_okq (⟨"FenceDuelModel", "putBack", "()V"⟩, 19) := ⟨⟨by decide +kernel, by decide +kernel⟩, List.mem_of_getElem? (i := 609) (by decide +kernel), List.mem_of_getElem? (i := 921) (by decide +kernel), List.mem_of_getElem? (i := 922) (by decide +kernel)⟩
theorem lw_p58 : lw_okq (⟨"FenceDuelModel", "regions", "()I"⟩, 19) := ⟨⟨by decide +kernel, by decide +kernel⟩, List.mem_of_getElem? (i := 609) (by decide +kernel), List.mem_of_getElem? (i := 933) (by decide +kernel), List.mem_of_getElem? (i := 934) (by decide +kernel)⟩
def lw_privs_4 : List (MethodName × Nat) := [(⟨"FenceDuelModel", "freeIn", "(I)I"⟩, 19), (⟨"FenceDuelModel", "lowestIn", "(I)I"⟩, 19), (⟨"FenceDuelModel", "edgesOf", "(I)I"⟩, 19), (⟨"FenceDuelModel", "cross", "(II)Z"⟩, 19), (⟨"FenceDuelModel", "nextLetter", "()I"⟩, 19), (⟨"FenceDuelModel", "putAside", "()V"⟩, 19), (⟨"FenceDuelModel", "fieldsOf", "(I)I"⟩, 19), (⟨"FenceDuelModel", "edgesThat", "(I)I"⟩, 19), (⟨"FenceDuelModel", "lettersThat", "(I)I"⟩, 19), (⟨"FenceDuelModel", "putBack", "()V"⟩, 19), (⟨"FenceDuelModel", "regions", "()I"⟩, 19)]
theorem lw_r4 : ∀ q ∈ lw_privs_4, lw_okq q := List.forall_mem_cons.mpr ⟨lw_p48, List.forall_mem_cons.mpr ⟨lw_p49, List.forall_mem_cons.mpr ⟨lw_p50, List.forall_mem_cons.mpr ⟨lw_p51, List.forall_mem_cons.mpr ⟨lw_p52, List.forall_mem_cons.mpr ⟨lw_p53, List.forall_mem_cons.mpr ⟨lw_p54, List.forall_mem_cons.mpr ⟨lw_p55, List.forall_mem_cons.mpr ⟨lw_p56, List.forall_mem_cons.mpr ⟨lw_p57, List.forall_mem_cons.mpr ⟨lw_p58, fun _ h => absurd h List.not_mem_nil⟩⟩⟩⟩⟩⟩⟩⟩⟩⟩⟩
def lw_privs : List (MethodName × Nat) := lw_privs_1 ++ (lw_privs_2 ++ (lw_privs_3 ++ (lw_privs_4)))
def lw_tbl : List Cond := k2_sels lw_privs ++ tables_1
theorem lw_privs_ok : ∀ q ∈ lw_privs, lw_okq q := by
  show ∀ q ∈ lw_privs_1 ++ (lw_privs_2 ++ (lw_privs_3 ++ (lw_privs_4))), lw_okq q
  exact List.forall_mem_append.mpr ⟨lw_r1, List.forall_mem_append.mpr ⟨lw_r2, List.forall_mem_append.mpr ⟨lw_r3, lw_r4⟩⟩⟩

def RX0 : String := "FenceDuel$Game"
def TX0 : u_T := fun k => match k with
  | 0 => ("FenceDuel$Game", "text", "[C", true)
  | 1 => ("FenceDuel$Game", "length", "I", false)
  | 2 => ("FenceDuel$Game", "at", "I", false)
  | 3 => ("FenceDuel$Game", "things", "I", false)
  | 4 => ("FenceDuel$Game", "kinds", "[I", true)
  | 5 => ("FenceDuel$Game", "players", "[I", true)
  | 6 => ("FenceDuel$Game", "numbers", "[I", true)
  | _ => ("FenceDuel$Game", "sides", "[I", true)
def tyX0 : Nat → FieldType := fun k => match k with
  | 0 => .array .char
  | 1 => .int
  | 2 => .int
  | 3 => .int
  | 4 => .array .int
  | 5 => .array .int
  | 6 => .array .int
  | _ => .array .int
abbrev wsX00 : List Cond := u_ws RX0 TX0 8
theorem nmX0 : ∀ a, a < 8 → ∀ b, b < 8 → a ≠ b → (TX0 a).2.1 ≠ (TX0 b).2.1 := by decide +kernel
theorem tyX0_ok : ∀ k, k < 8 → parseFieldDescriptor (TX0 k).2.2.1 = some (tyX0 k) := by decide +kernel
abbrev cX0_init : ByteArray := prog_2_method_1_code
def yX0_init : MethodName := ⟨RX0, "<init>", "()V"⟩
abbrev cX0_append : ByteArray := prog_2_method_2_code
def yX0_append : MethodName := ⟨RX0, "append", "(C)I"⟩
abbrev cX0_empty : ByteArray := prog_2_method_3_code
def yX0_empty : MethodName := ⟨RX0, "empty", "()I"⟩
abbrev cX0_part : ByteArray := prog_2_method_4_code
def yX0_part : MethodName := ⟨RX0, "part", "([II)I"⟩
abbrev cX0_findFault : ByteArray := prog_2_method_5_code
def yX0_findFault : MethodName := ⟨RX0, "findFault", "()I"⟩
abbrev cX0_readThing : ByteArray := prog_2_method_6_code
def yX0_readThing : MethodName := ⟨RX0, "readThing", "(I)Z"⟩
abbrev cX0_readLetter : ByteArray := prog_2_method_7_code
def yX0_readLetter : MethodName := ⟨RX0, "readLetter", "(I)Z"⟩
abbrev cX0_readNumber : ByteArray := prog_2_method_8_code
def yX0_readNumber : MethodName := ⟨RX0, "readNumber", "(III)Z"⟩
abbrev cX0_readSide : ByteArray := prog_2_method_9_code
def yX0_readSide : MethodName := ⟨RX0, "readSide", "(I)Z"⟩
abbrev cX0_look : ByteArray := prog_2_method_10_code
def yX0_look : MethodName := ⟨RX0, "look", "()I"⟩
abbrev cX0_kindOf : ByteArray := prog_2_method_11_code
def yX0_kindOf : MethodName := ⟨RX0, "kindOf", "(I)I"⟩
abbrev cX0_sideOf : ByteArray := prog_2_method_12_code
def yX0_sideOf : MethodName := ⟨RX0, "sideOf", "(I)I"⟩
abbrev cX0_digitOf : ByteArray := prog_2_method_13_code
def yX0_digitOf : MethodName := ⟨RX0, "digitOf", "(I)I"⟩
def RX1 : String := "FenceDuel$Ground"
def TX1 : u_T := fun k => match k with
  | 0 => ("FenceDuel$Ground", "beside", "[I", true)
  | 1 => ("FenceDuel$Ground", "edgeAt", "[I", true)
  | 2 => ("FenceDuel$Ground", "nearField", "[I", true)
  | _ => ("FenceDuel$Ground", "farField", "[I", true)
def tyX1 : Nat → FieldType := fun k => match k with
  | 0 => .array .int
  | 1 => .array .int
  | 2 => .array .int
  | _ => .array .int
abbrev wsX10 : List Cond := u_ws RX1 TX1 4
theorem nmX1 : ∀ a, a < 4 → ∀ b, b < 4 → a ≠ b → (TX1 a).2.1 ≠ (TX1 b).2.1 := by decide +kernel
theorem tyX1_ok : ∀ k, k < 4 → parseFieldDescriptor (TX1 k).2.2.1 = some (tyX1 k) := by decide +kernel
abbrev cX1_init : ByteArray := prog_3_method_1_code
def yX1_init : MethodName := ⟨RX1, "<init>", "()V"⟩
abbrev cX1_layEdge : ByteArray := prog_3_method_2_code
def yX1_layEdge : MethodName := ⟨RX1, "layEdge", "(IIII)V"⟩
abbrev cX1_edgeNumber : ByteArray := prog_3_method_3_code
def yX1_edgeNumber : MethodName := ⟨RX1, "edgeNumber", "(II)I"⟩
def RX2 : String := "FenceDuel$History"
def TX2 : u_T := fun k => match k with
  | 0 => ("FenceDuel$History", "states", "[LFenceDuel$State;", true)
  | 1 => ("FenceDuel$History", "latest", "I", false)
  | _ => ("FenceDuel$History", "size", "I", false)
def tyX2 : Nat → FieldType := fun k => match k with
  | 0 => .array (.object "FenceDuel$State")
  | 1 => .int
  | _ => .int
abbrev wsX20 : List Cond := u_ws RX2 TX2 3
theorem nmX2 : ∀ a, a < 3 → ∀ b, b < 3 → a ≠ b → (TX2 a).2.1 ≠ (TX2 b).2.1 := by decide +kernel
theorem tyX2_ok : ∀ k, k < 3 → parseFieldDescriptor (TX2 k).2.2.1 = some (tyX2 k) := by decide +kernel
abbrev cX2_init : ByteArray := prog_4_method_1_code
def yX2_init : MethodName := ⟨RX2, "<init>", "()V"⟩
abbrev cX2_add : ByteArray := prog_4_method_2_code
def yX2_add : MethodName := ⟨RX2, "add", "(LFenceDuel$State;)V"⟩
abbrev cX2_takeBack : ByteArray := prog_4_method_3_code
def yX2_takeBack : MethodName := ⟨RX2, "takeBack", "(LFenceDuel$State;)I"⟩
def RX3 : String := "FenceDuel$Post"
def TX3 : u_T := fun k => match k with
  | 0 => ("FenceDuel$Post", "ground", "LFenceDuel$Ground;", true)
  | _ => ("FenceDuel$Post", "regions", "LFenceDuel$Regions;", true)
def tyX3 : Nat → FieldType := fun k => match k with
  | 0 => .object "FenceDuel$Ground"
  | _ => .object "FenceDuel$Regions"
abbrev wsX30 : List Cond := u_ws RX3 TX3 2
theorem nmX3 : ∀ a, a < 2 → ∀ b, b < 2 → a ≠ b → (TX3 a).2.1 ≠ (TX3 b).2.1 := by decide +kernel
theorem tyX3_ok : ∀ k, k < 2 → parseFieldDescriptor (TX3 k).2.2.1 = some (tyX3 k) := by decide +kernel
abbrev cX3_init : ByteArray := prog_5_method_1_code
def yX3_init : MethodName := ⟨RX3, "<init>", "(LFenceDuel$Ground;LFenceDuel$Regions;)V"⟩
abbrev cX3_deliver : ByteArray := prog_5_method_2_code
def yX3_deliver : MethodName := ⟨RX3, "deliver", "(LFenceDuel$State;I)I"⟩
abbrev cX3_bring : ByteArray := prog_5_method_3_code
def yX3_bring : MethodName := ⟨RX3, "bring", "(LFenceDuel$State;I)V"⟩
abbrev cX3_growsHedge : ByteArray := prog_5_method_4_code
def yX3_growsHedge : MethodName := ⟨RX3, "growsHedge", "(LFenceDuel$State;II)Z"⟩
abbrev cX3_makesVoid : ByteArray := prog_5_method_5_code
def yX3_makesVoid : MethodName := ⟨RX3, "makesVoid", "(LFenceDuel$State;II)Z"⟩
abbrev cX3_reasonAgainst : ByteArray := prog_5_method_6_code
def yX3_reasonAgainst : MethodName := ⟨RX3, "reasonAgainst", "(LFenceDuel$State;I)I"⟩
abbrev cX3_reasonAgainstFence : ByteArray := prog_5_method_7_code
def yX3_reasonAgainstFence : MethodName := ⟨RX3, "reasonAgainstFence", "(LFenceDuel$State;I)I"⟩
abbrev cX3_reasonAgainstGap : ByteArray := prog_5_method_8_code
def yX3_reasonAgainstGap : MethodName := ⟨RX3, "reasonAgainstGap", "(LFenceDuel$State;I)I"⟩
abbrev cX3_reasonAgainstClaim : ByteArray := prog_5_method_9_code
def yX3_reasonAgainstClaim : MethodName := ⟨RX3, "reasonAgainstClaim", "(LFenceDuel$State;I)I"⟩
abbrev cX3_carryOut : ByteArray := prog_5_method_10_code
def yX3_carryOut : MethodName := ⟨RX3, "carryOut", "(LFenceDuel$State;I)V"⟩
abbrev cX3_takeRegion : ByteArray := prog_5_method_11_code
def yX3_takeRegion : MethodName := ⟨RX3, "takeRegion", "(LFenceDuel$State;I)V"⟩
abbrev cX3_edgeOf : ByteArray := prog_5_method_12_code
def yX3_edgeOf : MethodName := ⟨RX3, "edgeOf", "(LFenceDuel$State;I)I"⟩
def RX4 : String := "FenceDuel$Regions"
def TX4 : u_T := fun k => match k with
  | 0 => ("FenceDuel$Regions", "ground", "LFenceDuel$Ground;", true)
  | 1 => ("FenceDuel$Regions", "lowest", "[I", true)
  | 2 => ("FenceDuel$Regions", "sizes", "[I", true)
  | 3 => ("FenceDuel$Regions", "free", "[I", true)
  | 4 => ("FenceDuel$Regions", "reached", "[I", true)
  | _ => ("FenceDuel$Regions", "labels", "[I", true)
def tyX4 : Nat → FieldType := fun k => match k with
  | 0 => .object "FenceDuel$Ground"
  | 1 => .array .int
  | 2 => .array .int
  | 3 => .array .int
  | 4 => .array .int
  | _ => .array .int
abbrev wsX40 : List Cond := u_ws RX4 TX4 6
theorem nmX4 : ∀ a, a < 6 → ∀ b, b < 6 → a ≠ b → (TX4 a).2.1 ≠ (TX4 b).2.1 := by decide +kernel
theorem tyX4_ok : ∀ k, k < 6 → parseFieldDescriptor (TX4 k).2.2.1 = some (tyX4 k) := by decide +kernel
abbrev cX4_init : ByteArray := prog_6_method_1_code
def yX4_init : MethodName := ⟨RX4, "<init>", "(LFenceDuel$Ground;)V"⟩
abbrev cX4_survey : ByteArray := prog_6_method_2_code
def yX4_survey : MethodName := ⟨RX4, "survey", "(LFenceDuel$State;)I"⟩
abbrev cX4_spreadFrom : ByteArray := prog_6_method_3_code
def yX4_spreadFrom : MethodName := ⟨RX4, "spreadFrom", "(LFenceDuel$State;I)V"⟩
abbrev cX4_lowestAround : ByteArray := prog_6_method_4_code
def yX4_lowestAround : MethodName := ⟨RX4, "lowestAround", "(I)I"⟩
abbrev cX4_sizeAround : ByteArray := prog_6_method_5_code
def yX4_sizeAround : MethodName := ⟨RX4, "sizeAround", "(I)I"⟩
abbrev cX4_freeAround : ByteArray := prog_6_method_6_code
def yX4_freeAround : MethodName := ⟨RX4, "freeAround", "(I)I"⟩
abbrev cX4_sizeByJoining : ByteArray := prog_6_method_7_code
def yX4_sizeByJoining : MethodName := ⟨RX4, "sizeByJoining", "(LFenceDuel$State;I)I"⟩
abbrev cX4_relabel : ByteArray := prog_6_method_8_code
def yX4_relabel : MethodName := ⟨RX4, "relabel", "(II)V"⟩
abbrev cX4_countLabel : ByteArray := prog_6_method_9_code
def yX4_countLabel : MethodName := ⟨RX4, "countLabel", "(I)I"⟩
def RX5 : String := "FenceDuel$State"
def TX5 : u_T := fun k => match k with
  | 0 => ("FenceDuel$State", "day", "I", false)
  | 1 => ("FenceDuel$State", "written", "I", false)
  | 2 => ("FenceDuel$State", "turns", "I", false)
  | 3 => ("FenceDuel$State", "alone", "I", false)
  | 4 => ("FenceDuel$State", "settings", "[I", true)
  | 5 => ("FenceDuel$State", "truceEnds", "[I", true)
  | 6 => ("FenceDuel$State", "onEdges", "[I", true)
  | 7 => ("FenceDuel$State", "takers", "[I", true)
  | _ => ("FenceDuel$State", "facts", "[I", true)
def tyX5 : Nat → FieldType := fun k => match k with
  | 0 => .int
  | 1 => .int
  | 2 => .int
  | 3 => .int
  | 4 => .array .int
  | 5 => .array .int
  | 6 => .array .int
  | 7 => .array .int
  | _ => .array .int
abbrev wsX50 : List Cond := u_ws RX5 TX5 9
theorem nmX5 : ∀ a, a < 9 → ∀ b, b < 9 → a ≠ b → (TX5 a).2.1 ≠ (TX5 b).2.1 := by decide +kernel
theorem tyX5_ok : ∀ k, k < 9 → parseFieldDescriptor (TX5 k).2.2.1 = some (tyX5 k) := by decide +kernel
abbrev cX5_init : ByteArray := prog_7_method_1_code
def yX5_init : MethodName := ⟨RX5, "<init>", "()V"⟩
abbrev cX5_takeFrom : ByteArray := prog_7_method_2_code
def yX5_takeFrom : MethodName := ⟨RX5, "takeFrom", "(LFenceDuel$State;)V"⟩
abbrev cX5_hasLetter : ByteArray := prog_7_method_3_code
def yX5_hasLetter : MethodName := ⟨RX5, "hasLetter", "(I)Z"⟩
abbrev cX5_told : ByteArray := prog_7_method_4_code
def yX5_told : MethodName := ⟨RX5, "told", "(II)I"⟩
abbrev cX5_mark : ByteArray := prog_7_method_5_code
def yX5_mark : MethodName := ⟨RX5, "mark", "(III)V"⟩
abbrev cX5_addLetter : ByteArray := prog_7_method_6_code
def yX5_addLetter : MethodName := ⟨RX5, "addLetter", "(IIII)I"⟩
abbrev cX5_soonest : ByteArray := prog_7_method_7_code
def yX5_soonest : MethodName := ⟨RX5, "soonest", "()I"⟩
abbrev cX5_haveCrossed : ByteArray := prog_7_method_8_code
def yX5_haveCrossed : MethodName := ⟨RX5, "haveCrossed", "(II)Z"⟩
abbrev cX5_enterTurn : ByteArray := prog_7_method_9_code
def yX5_enterTurn : MethodName := ⟨RX5, "enterTurn", "(I)I"⟩
abbrev cX5_wasDone : ByteArray := prog_7_method_10_code
def yX5_wasDone : MethodName := ⟨RX5, "wasDone", "(II)Z"⟩
abbrev cX5_onEdge : ByteArray := prog_7_method_11_code
def yX5_onEdge : MethodName := ⟨RX5, "onEdge", "(I)I"⟩
abbrev cX5_putOnEdge : ByteArray := prog_7_method_12_code
def yX5_putOnEdge : MethodName := ⟨RX5, "putOnEdge", "(II)V"⟩
abbrev cX5_takerOf : ByteArray := prog_7_method_13_code
def yX5_takerOf : MethodName := ⟨RX5, "takerOf", "(I)I"⟩
abbrev cX5_ownerOf : ByteArray := prog_7_method_14_code
def yX5_ownerOf : MethodName := ⟨RX5, "ownerOf", "(I)I"⟩
abbrev cX5_giveBackFieldsOf : ByteArray := prog_7_method_15_code
def yX5_giveBackFieldsOf : MethodName := ⟨RX5, "giveBackFieldsOf", "(I)V"⟩
abbrev cX5_hasTruce : ByteArray := prog_7_method_16_code
def yX5_hasTruce : MethodName := ⟨RX5, "hasTruce", "()Z"⟩
abbrev cX5_lettersThatAre : ByteArray := prog_7_method_17_code
def yX5_lettersThatAre : MethodName := ⟨RX5, "lettersThatAre", "(I)I"⟩
abbrev cX5_turnsOfTwo : ByteArray := prog_7_method_18_code
def yX5_turnsOfTwo : MethodName := ⟨RX5, "turnsOfTwo", "()I"⟩
abbrev cX5_fieldsOf : ByteArray := prog_7_method_19_code
def yX5_fieldsOf : MethodName := ⟨RX5, "fieldsOf", "(I)I"⟩
abbrev cX5_edgesWith : ByteArray := prog_7_method_20_code
def yX5_edgesWith : MethodName := ⟨RX5, "edgesWith", "(I)I"⟩
def RX6 : String := "FenceDuel"
def TX6 : u_T := fun k => match k with
  | 0 => ("FenceDuel", "ground", "LFenceDuel$Ground;", true)
  | 1 => ("FenceDuel", "regions", "LFenceDuel$Regions;", true)
  | 2 => ("FenceDuel", "post", "LFenceDuel$Post;", true)
  | 3 => ("FenceDuel", "game", "LFenceDuel$Game;", true)
  | 4 => ("FenceDuel", "history", "LFenceDuel$History;", true)
  | 5 => ("FenceDuel", "now", "LFenceDuel$State;", true)
  | 6 => ("FenceDuel", "before", "LFenceDuel$State;", true)
  | 7 => ("FenceDuel", "trial", "LFenceDuel$State;", true)
  | 8 => ("FenceDuel", "snapshot", "LFenceDuel$State;", true)
  | 9 => ("FenceDuel", "hasSnapshot", "Z", false)
  | 10 => ("FenceDuel", "wasStopped", "Z", false)
  | 11 => ("FenceDuel", "stopNumber", "I", false)
  | _ => ("FenceDuel", "stopError", "I", false)
def tyX6 : Nat → FieldType := fun k => match k with
  | 0 => .object "FenceDuel$Ground"
  | 1 => .object "FenceDuel$Regions"
  | 2 => .object "FenceDuel$Post"
  | 3 => .object "FenceDuel$Game"
  | 4 => .object "FenceDuel$History"
  | 5 => .object "FenceDuel$State"
  | 6 => .object "FenceDuel$State"
  | 7 => .object "FenceDuel$State"
  | 8 => .object "FenceDuel$State"
  | 9 => .boolean
  | 10 => .boolean
  | 11 => .int
  | _ => .int
abbrev wsX60 : List Cond := u_ws RX6 TX6 13
theorem nmX6 : ∀ a, a < 13 → ∀ b, b < 13 → a ≠ b → (TX6 a).2.1 ≠ (TX6 b).2.1 := by decide +kernel
theorem tyX6_ok : ∀ k, k < 13 → parseFieldDescriptor (TX6 k).2.2.1 = some (tyX6 k) := by decide +kernel
abbrev cX6_init : ByteArray := prog_1_method_1_code
def yX6_init : MethodName := ⟨RX6, "<init>", "()V"⟩
abbrev cX6_writeEdge : ByteArray := prog_1_method_2_code
def yX6_writeEdge : MethodName := ⟨RX6, "writeEdge", "(IZII)I"⟩
abbrev cX6_writeClaim : ByteArray := prog_1_method_3_code
def yX6_writeClaim : MethodName := ⟨RX6, "writeClaim", "(II)I"⟩
abbrev cX6_writeTruce : ByteArray := prog_1_method_4_code
def yX6_writeTruce : MethodName := ⟨RX6, "writeTruce", "(II)I"⟩
abbrev cX6_callBack : ByteArray := prog_1_method_5_code
def yX6_callBack : MethodName := ⟨RX6, "callBack", "(I)I"⟩
abbrev cX6_pass : ByteArray := prog_1_method_6_code
def yX6_pass : MethodName := ⟨RX6, "pass", "(I)I"⟩
abbrev cX6_set : ByteArray := prog_1_method_7_code
def yX6_set : MethodName := ⟨RX6, "set", "(II)I"⟩
abbrev cX6_type : ByteArray := prog_1_method_8_code
def yX6_type : MethodName := ⟨RX6, "type", "(C)I"⟩
abbrev cX6_clearText : ByteArray := prog_1_method_9_code
def yX6_clearText : MethodName := ⟨RX6, "clearText", "()I"⟩
abbrev cX6_perform : ByteArray := prog_1_method_10_code
def yX6_perform : MethodName := ⟨RX6, "perform", "()I"⟩
abbrev cX6_stopped : ByteArray := prog_1_method_11_code
def yX6_stopped : MethodName := ⟨RX6, "stopped", "(I)I"⟩
abbrev cX6_undo : ByteArray := prog_1_method_12_code
def yX6_undo : MethodName := ⟨RX6, "undo", "()I"⟩
abbrev cX6_keep : ByteArray := prog_1_method_13_code
def yX6_keep : MethodName := ⟨RX6, "keep", "()I"⟩
abbrev cX6_restore : ByteArray := prog_1_method_14_code
def yX6_restore : MethodName := ⟨RX6, "restore", "()I"⟩
abbrev cX6_edge : ByteArray := prog_1_method_15_code
def yX6_edge : MethodName := ⟨RX6, "edge", "(II)I"⟩
abbrev cX6_field : ByteArray := prog_1_method_16_code
def yX6_field : MethodName := ⟨RX6, "field", "(II)I"⟩
abbrev cX6_joined : ByteArray := prog_1_method_17_code
def yX6_joined : MethodName := ⟨RX6, "joined", "(I)I"⟩
abbrev cX6_letter : ByteArray := prog_1_method_18_code
def yX6_letter : MethodName := ⟨RX6, "letter", "(II)I"⟩
abbrev cX6_crossed : ByteArray := prog_1_method_19_code
def yX6_crossed : MethodName := ⟨RX6, "crossed", "(II)I"⟩
abbrev cX6_reasonEdge : ByteArray := prog_1_method_20_code
def yX6_reasonEdge : MethodName := ⟨RX6, "reasonEdge", "(ZII)I"⟩
abbrev cX6_reasonClaim : ByteArray := prog_1_method_21_code
def yX6_reasonClaim : MethodName := ⟨RX6, "reasonClaim", "(I)I"⟩
abbrev cX6_next : ByteArray := prog_1_method_22_code
def yX6_next : MethodName := ⟨RX6, "next", "(I)I"⟩
abbrev cX6_ifAllCome : ByteArray := prog_1_method_23_code
def yX6_ifAllCome : MethodName := ⟨RX6, "ifAllCome", "(I)I"⟩
abbrev cX6_bestClaim : ByteArray := prog_1_method_24_code
def yX6_bestClaim : MethodName := ⟨RX6, "bestClaim", "(I)I"⟩
abbrev cX6_count : ByteArray := prog_1_method_25_code
def yX6_count : MethodName := ⟨RX6, "count", "(I)I"⟩
abbrev cX6_addEdgeLetter : ByteArray := prog_1_method_26_code
def yX6_addEdgeLetter : MethodName := ⟨RX6, "addEdgeLetter", "(IIII)I"⟩
abbrev cX6_addClaim : ByteArray := prog_1_method_27_code
def yX6_addClaim : MethodName := ⟨RX6, "addClaim", "(II)I"⟩
abbrev cX6_addTruce : ByteArray := prog_1_method_28_code
def yX6_addTruce : MethodName := ⟨RX6, "addTruce", "(II)I"⟩
abbrev cX6_addLetterOfGame : ByteArray := prog_1_method_29_code
def yX6_addLetterOfGame : MethodName := ⟨RX6, "addLetterOfGame", "(I)I"⟩
abbrev cX6_letDaysPass : ByteArray := prog_1_method_30_code
def yX6_letDaysPass : MethodName := ⟨RX6, "letDaysPass", "(I)I"⟩
abbrev cX6_recordUnlessError : ByteArray := prog_1_method_31_code
def yX6_recordUnlessError : MethodName := ⟨RX6, "recordUnlessError", "(I)I"⟩
abbrev cX6_edgesWithSomething : ByteArray := prog_1_method_32_code
def yX6_edgesWithSomething : MethodName := ⟨RX6, "edgesWithSomething", "(I)I"⟩
abbrev cX6_isPlayer : ByteArray := prog_1_method_33_code
def yX6_isPlayer : MethodName := ⟨RX6, "isPlayer", "(I)Z"⟩
abbrev cX6_isField : ByteArray := prog_1_method_34_code
def yX6_isField : MethodName := ⟨RX6, "isField", "(I)Z"⟩
abbrev cX6_isEdge : ByteArray := prog_1_method_35_code
def yX6_isEdge : MethodName := ⟨RX6, "isEdge", "(I)Z"⟩
abbrev cX6_fenceOf : ByteArray := prog_1_method_36_code
def yX6_fenceOf : MethodName := ⟨RX6, "fenceOf", "(I)I"⟩
def RX7 : String := "FenceDuelModel"
def TX7 : u_T := fun k => match k with
  | 0 => ("FenceDuelModel", "s", "[I", true)
  | 1 => ("FenceDuelModel", "aside", "[I", true)
  | 2 => ("FenceDuelModel", "ahead", "[I", true)
  | 3 => ("FenceDuelModel", "snapshot", "[I", true)
  | 4 => ("FenceDuelModel", "isKept", "Z", false)
  | 5 => ("FenceDuelModel", "before", "[I", true)
  | 6 => ("FenceDuelModel", "known", "I", false)
  | 7 => ("FenceDuelModel", "text", "[I", true)
  | 8 => ("FenceDuelModel", "length", "I", false)
  | 9 => ("FenceDuelModel", "stopAt", "I", false)
  | 10 => ("FenceDuelModel", "stopBy", "I", false)
  | 11 => ("FenceDuelModel", "isIn", "[Z", true)
  | 12 => ("FenceDuelModel", "position", "I", false)
  | 13 => ("FenceDuelModel", "isWrong", "Z", false)
  | 14 => ("FenceDuelModel", "player", "I", false)
  | 15 => ("FenceDuelModel", "kind", "I", false)
  | 16 => ("FenceDuelModel", "place", "I", false)
  | 17 => ("FenceDuelModel", "side", "I", false)
  | _ => ("FenceDuelModel", "stop", "I", false)
def tyX7 : Nat → FieldType := fun k => match k with
  | 0 => .array .int
  | 1 => .array .int
  | 2 => .array .int
  | 3 => .array .int
  | 4 => .boolean
  | 5 => .array .int
  | 6 => .int
  | 7 => .array .int
  | 8 => .int
  | 9 => .int
  | 10 => .int
  | 11 => .array .boolean
  | 12 => .int
  | 13 => .boolean
  | 14 => .int
  | 15 => .int
  | 16 => .int
  | 17 => .int
  | _ => .int
abbrev wsX70 : List Cond := u_ws RX7 TX7 19
theorem nmX7 : ∀ a, a < 19 → ∀ b, b < 19 → a ≠ b → (TX7 a).2.1 ≠ (TX7 b).2.1 := by decide +kernel
theorem tyX7_ok : ∀ k, k < 19 → parseFieldDescriptor (TX7 k).2.2.1 = some (tyX7 k) := by decide +kernel
abbrev cX7_init : ByteArray := prog_9_method_1_code
def yX7_init : MethodName := ⟨RX7, "<init>", "()V"⟩
abbrev cX7_in : ByteArray := prog_9_method_3_code
def yX7_in : MethodName := ⟨RX7, "in", "(III)Z"⟩
abbrev cX7_isPlayer : ByteArray := prog_9_method_4_code
def yX7_isPlayer : MethodName := ⟨RX7, "isPlayer", "(I)Z"⟩
abbrev cX7_isField : ByteArray := prog_9_method_5_code
def yX7_isField : MethodName := ⟨RX7, "isField", "(I)Z"⟩
abbrev cX7_isLetter : ByteArray := prog_9_method_6_code
def yX7_isLetter : MethodName := ⟨RX7, "isLetter", "(I)Z"⟩
abbrev cX7_at : ByteArray := prog_9_method_7_code
def yX7_at : MethodName := ⟨RX7, "at", "(II)I"⟩
abbrev cX7_of : ByteArray := prog_9_method_8_code
def yX7_of : MethodName := ⟨RX7, "of", "(II)I"⟩
abbrev cX7_looks : ByteArray := prog_9_method_9_code
def yX7_looks : MethodName := ⟨RX7, "looks", "()V"⟩
abbrev cX7_records : ByteArray := prog_9_method_10_code
def yX7_records : MethodName := ⟨RX7, "records", "()V"⟩
abbrev cX7_putAside : ByteArray := prog_9_method_11_code
def yX7_putAside : MethodName := ⟨RX7, "putAside", "()V"⟩
abbrev cX7_putBack : ByteArray := prog_9_method_12_code
def yX7_putBack : MethodName := ⟨RX7, "putBack", "()V"⟩
abbrev cX7_edgeAt : ByteArray := prog_9_method_13_code
def yX7_edgeAt : MethodName := ⟨RX7, "edgeAt", "(II)I"⟩
abbrev cX7_oneOf : ByteArray := prog_9_method_14_code
def yX7_oneOf : MethodName := ⟨RX7, "oneOf", "(I)I"⟩
abbrev cX7_otherOf : ByteArray := prog_9_method_15_code
def yX7_otherOf : MethodName := ⟨RX7, "otherOf", "(I)I"⟩
abbrev cX7_mark : ByteArray := prog_9_method_16_code
def yX7_mark : MethodName := ⟨RX7, "mark", "(I)I"⟩
abbrev cX7_freeIn : ByteArray := prog_9_method_17_code
def yX7_freeIn : MethodName := ⟨RX7, "freeIn", "(I)I"⟩
abbrev cX7_lowestIn : ByteArray := prog_9_method_18_code
def yX7_lowestIn : MethodName := ⟨RX7, "lowestIn", "(I)I"⟩
abbrev cX7_isTruce : ByteArray := prog_9_method_19_code
def yX7_isTruce : MethodName := ⟨RX7, "isTruce", "()Z"⟩
abbrev cX7_whyEdge : ByteArray := prog_9_method_20_code
def yX7_whyEdge : MethodName := ⟨RX7, "whyEdge", "(ZI)I"⟩
abbrev cX7_whyClaim : ByteArray := prog_9_method_21_code
def yX7_whyClaim : MethodName := ⟨RX7, "whyClaim", "(I)I"⟩
abbrev cX7_isTaken : ByteArray := prog_9_method_22_code
def yX7_isTaken : MethodName := ⟨RX7, "isTaken", "(I)Z"⟩
abbrev cX7_forgetsTaken : ByteArray := prog_9_method_23_code
def yX7_forgetsTaken : MethodName := ⟨RX7, "forgetsTaken", "()V"⟩
abbrev cX7_isSecond : ByteArray := prog_9_method_24_code
def yX7_isSecond : MethodName := ⟨RX7, "isSecond", "(I)Z"⟩
abbrev cX7_edgeOf : ByteArray := prog_9_method_25_code
def yX7_edgeOf : MethodName := ⟨RX7, "edgeOf", "(I)I"⟩
abbrev cX7_does : ByteArray := prog_9_method_26_code
def yX7_does : MethodName := ⟨RX7, "does", "(I)I"⟩
abbrev cX7_doesSecond : ByteArray := prog_9_method_27_code
def yX7_doesSecond : MethodName := ⟨RX7, "doesSecond", "(I)I"⟩
abbrev cX7_comes : ByteArray := prog_9_method_28_code
def yX7_comes : MethodName := ⟨RX7, "comes", "(I)V"⟩
abbrev cX7_day : ByteArray := prog_9_method_29_code
def yX7_day : MethodName := ⟨RX7, "day", "()I"⟩
abbrev cX7_passes : ByteArray := prog_9_method_30_code
def yX7_passes : MethodName := ⟨RX7, "passes", "(I)I"⟩
abbrev cX7_writes : ByteArray := prog_9_method_31_code
def yX7_writes : MethodName := ⟨RX7, "writes", "(IIII)I"⟩
abbrev cX7_acted : ByteArray := prog_9_method_32_code
def yX7_acted : MethodName := ⟨RX7, "acted", "(I)I"⟩
abbrev cX7_writeEdge : ByteArray := prog_9_method_33_code
def yX7_writeEdge : MethodName := ⟨RX7, "writeEdge", "(IZII)I"⟩
abbrev cX7_writeClaim : ByteArray := prog_9_method_34_code
def yX7_writeClaim : MethodName := ⟨RX7, "writeClaim", "(II)I"⟩
abbrev cX7_writeTruce : ByteArray := prog_9_method_35_code
def yX7_writeTruce : MethodName := ⟨RX7, "writeTruce", "(II)I"⟩
abbrev cX7_callBack : ByteArray := prog_9_method_36_code
def yX7_callBack : MethodName := ⟨RX7, "callBack", "(I)I"⟩
abbrev cX7_pass : ByteArray := prog_9_method_37_code
def yX7_pass : MethodName := ⟨RX7, "pass", "(I)I"⟩
abbrev cX7_set : ByteArray := prog_9_method_38_code
def yX7_set : MethodName := ⟨RX7, "set", "(II)I"⟩
abbrev cX7_type : ByteArray := prog_9_method_39_code
def yX7_type : MethodName := ⟨RX7, "type", "(C)I"⟩
abbrev cX7_clearText : ByteArray := prog_9_method_40_code
def yX7_clearText : MethodName := ⟨RX7, "clearText", "()I"⟩
abbrev cX7_isNext : ByteArray := prog_9_method_41_code
def yX7_isNext : MethodName := ⟨RX7, "isNext", "(II)Z"⟩
abbrev cX7_takes : ByteArray := prog_9_method_42_code
def yX7_takes : MethodName := ⟨RX7, "takes", "(II)I"⟩
abbrev cX7_takesNumber : ByteArray := prog_9_method_43_code
def yX7_takesNumber : MethodName := ⟨RX7, "takesNumber", "(II)I"⟩
abbrev cX7_takesSign : ByteArray := prog_9_method_44_code
def yX7_takesSign : MethodName := ⟨RX7, "takesSign", "(II)I"⟩
abbrev cX7_readThing : ByteArray := prog_9_method_45_code
def yX7_readThing : MethodName := ⟨RX7, "readThing", "()V"⟩
abbrev cX7_runs : ByteArray := prog_9_method_46_code
def yX7_runs : MethodName := ⟨RX7, "runs", "(Z)I"⟩
abbrev cX7_perform : ByteArray := prog_9_method_47_code
def yX7_perform : MethodName := ⟨RX7, "perform", "()I"⟩
abbrev cX7_stopped : ByteArray := prog_9_method_48_code
def yX7_stopped : MethodName := ⟨RX7, "stopped", "(I)I"⟩
abbrev cX7_undo : ByteArray := prog_9_method_49_code
def yX7_undo : MethodName := ⟨RX7, "undo", "()I"⟩
abbrev cX7_keep : ByteArray := prog_9_method_50_code
def yX7_keep : MethodName := ⟨RX7, "keep", "()I"⟩
abbrev cX7_restore : ByteArray := prog_9_method_51_code
def yX7_restore : MethodName := ⟨RX7, "restore", "()I"⟩
abbrev cX7_edge : ByteArray := prog_9_method_52_code
def yX7_edge : MethodName := ⟨RX7, "edge", "(II)I"⟩
abbrev cX7_edgesOf : ByteArray := prog_9_method_53_code
def yX7_edgesOf : MethodName := ⟨RX7, "edgesOf", "(I)I"⟩
abbrev cX7_field : ByteArray := prog_9_method_54_code
def yX7_field : MethodName := ⟨RX7, "field", "(II)I"⟩
abbrev cX7_joined : ByteArray := prog_9_method_55_code
def yX7_joined : MethodName := ⟨RX7, "joined", "(I)I"⟩
abbrev cX7_letter : ByteArray := prog_9_method_56_code
def yX7_letter : MethodName := ⟨RX7, "letter", "(II)I"⟩
abbrev cX7_cross : ByteArray := prog_9_method_57_code
def yX7_cross : MethodName := ⟨RX7, "cross", "(II)Z"⟩
abbrev cX7_crossed : ByteArray := prog_9_method_58_code
def yX7_crossed : MethodName := ⟨RX7, "crossed", "(II)I"⟩
abbrev cX7_reasonEdge : ByteArray := prog_9_method_59_code
def yX7_reasonEdge : MethodName := ⟨RX7, "reasonEdge", "(ZII)I"⟩
abbrev cX7_reasonClaim : ByteArray := prog_9_method_60_code
def yX7_reasonClaim : MethodName := ⟨RX7, "reasonClaim", "(I)I"⟩
abbrev cX7_nextLetter : ByteArray := prog_9_method_61_code
def yX7_nextLetter : MethodName := ⟨RX7, "nextLetter", "()I"⟩
abbrev cX7_next : ByteArray := prog_9_method_62_code
def yX7_next : MethodName := ⟨RX7, "next", "(I)I"⟩
abbrev cX7_lettersThat : ByteArray := prog_9_method_63_code
def yX7_lettersThat : MethodName := ⟨RX7, "lettersThat", "(I)I"⟩
abbrev cX7_edgesThat : ByteArray := prog_9_method_64_code
def yX7_edgesThat : MethodName := ⟨RX7, "edgesThat", "(I)I"⟩
abbrev cX7_fieldsOf : ByteArray := prog_9_method_65_code
def yX7_fieldsOf : MethodName := ⟨RX7, "fieldsOf", "(I)I"⟩
abbrev cX7_ifAllCome : ByteArray := prog_9_method_66_code
def yX7_ifAllCome : MethodName := ⟨RX7, "ifAllCome", "(I)I"⟩
abbrev cX7_bestClaim : ByteArray := prog_9_method_67_code
def yX7_bestClaim : MethodName := ⟨RX7, "bestClaim", "(I)I"⟩
abbrev cX7_regions : ByteArray := prog_9_method_68_code
def yX7_regions : MethodName := ⟨RX7, "regions", "()I"⟩
abbrev cX7_count : ByteArray := prog_9_method_69_code
def yX7_count : MethodName := ⟨RX7, "count", "(I)I"⟩
def RJ10 : String := "java/lang/System"
def RJ7 : String := "java/util/Arrays"
abbrev cJ7_fill_53178 : ByteArray := prog_11_method_103_code
def yJ7_fill_53178 : MethodName := ⟨RJ7, "fill", "([II)V"⟩
def RL : String := "FenceDuelLaw"
abbrev cL_law : ByteArray := code
def yL_law : MethodName := ⟨RL, "law", "([I)Z"⟩
abbrev vwCl : List vw_C := [(RX0, TX0, 8), (RX1, TX1, 4), (RX2, TX2, 3), (RX3, TX3, 2), (RX4, TX4, 6), (RX5, TX5, 9), (RX6, TX6, 13), (RX7, TX7, 19)]
end
section
theorem dX0_init_0 : decode cX0_init 0 = .ok (.aload_n 0, 1) := by decide +kernel
theorem dX0_init_1 : decode cX0_init 1 = .ok (.invokespecial 3, 3) := by decide +kernel
theorem dX0_init_4 : decode cX0_init 4 = .ok (.aload_n 0, 1) := by decide +kernel
theorem dX0_init_5 : decode cX0_init 5 = .ok (.bipush 60, 2) := by decide +kernel
theorem dX0_init_7 : decode cX0_init 7 = .ok (.newarray .char, 2) := by decide +kernel
theorem dX0_init_9 : decode cX0_init 9 = .ok (.putfield 9, 3) := by decide +kernel
theorem dX0_init_12 : decode cX0_init 12 = .ok (.aload_n 0, 1) := by decide +kernel
theorem dX0_init_13 : decode cX0_init 13 = .ok (.bipush 60, 2) := by decide +kernel
theorem dX0_init_15 : decode cX0_init 15 = .ok (.newarray .int, 2) := by decide +kernel
theorem dX0_init_17 : decode cX0_init 17 = .ok (.putfield 15, 3) := by decide +kernel
theorem dX0_init_20 : decode cX0_init 20 = .ok (.aload_n 0, 1) := by decide +kernel
theorem dX0_init_21 : decode cX0_init 21 = .ok (.bipush 60, 2) := by decide +kernel
theorem dX0_init_23 : decode cX0_init 23 = .ok (.newarray .int, 2) := by decide +kernel
theorem dX0_init_25 : decode cX0_init 25 = .ok (.putfield 19, 3) := by decide +kernel
theorem dX0_init_28 : decode cX0_init 28 = .ok (.aload_n 0, 1) := by decide +kernel
theorem dX0_init_29 : decode cX0_init 29 = .ok (.bipush 60, 2) := by decide +kernel
theorem dX0_init_31 : decode cX0_init 31 = .ok (.newarray .int, 2) := by decide +kernel
theorem dX0_init_33 : decode cX0_init 33 = .ok (.putfield 22, 3) := by decide +kernel
theorem dX0_init_36 : decode cX0_init 36 = .ok (.aload_n 0, 1) := by decide +kernel
theorem dX0_init_37 : decode cX0_init 37 = .ok (.bipush 60, 2) := by decide +kernel
theorem dX0_init_39 : decode cX0_init 39 = .ok (.newarray .int, 2) := by decide +kernel
theorem dX0_init_41 : decode cX0_init 41 = .ok (.putfield 25, 3) := by decide +kernel
theorem dX0_init_44 : decode cX0_init 44 = .ok (.return_, 1) := by decide +kernel
theorem dX0_append_0 : decode cX0_append 0 = .ok (.aload_n 0, 1) := by decide +kernel
theorem dX0_append_1 : decode cX0_append 1 = .ok (.getfield 28, 3) := by decide +kernel
theorem dX0_append_4 : decode cX0_append 4 = .ok (.bipush 60, 2) := by decide +kernel
theorem dX0_append_6 : decode cX0_append 6 = .ok (.if_icmp .lt 6, 3) := by decide +kernel
theorem dX0_append_9 : decode cX0_append 9 = .ok (.bipush (-3), 2) := by decide +kernel
theorem dX0_append_11 : decode cX0_append 11 = .ok (.ireturn, 1) := by decide +kernel
theorem dX0_append_12 : decode cX0_append 12 = .ok (.aload_n 0, 1) := by decide +kernel
theorem dX0_append_13 : decode cX0_append 13 = .ok (.getfield 9, 3) := by decide +kernel
theorem dX0_append_16 : decode cX0_append 16 = .ok (.aload_n 0, 1) := by decide +kernel
theorem dX0_append_17 : decode cX0_append 17 = .ok (.getfield 28, 3) := by decide +kernel
theorem dX0_append_20 : decode cX0_append 20 = .ok (.iload_n 1, 1) := by decide +kernel
theorem dX0_append_21 : decode cX0_append 21 = .ok (.castore, 1) := by decide +kernel
theorem dX0_append_22 : decode cX0_append 22 = .ok (.aload_n 0, 1) := by decide +kernel
theorem dX0_append_23 : decode cX0_append 23 = .ok (.dup, 1) := by decide +kernel
theorem dX0_append_24 : decode cX0_append 24 = .ok (.getfield 28, 3) := by decide +kernel
theorem dX0_append_27 : decode cX0_append 27 = .ok (.iconst 1, 1) := by decide +kernel
theorem dX0_append_28 : decode cX0_append 28 = .ok (.iadd, 1) := by decide +kernel
theorem dX0_append_29 : decode cX0_append 29 = .ok (.putfield 28, 3) := by decide +kernel
theorem dX0_append_32 : decode cX0_append 32 = .ok (.aload_n 0, 1) := by decide +kernel
theorem dX0_append_33 : decode cX0_append 33 = .ok (.getfield 28, 3) := by decide +kernel
theorem dX0_append_36 : decode cX0_append 36 = .ok (.ireturn, 1) := by decide +kernel
theorem dX0_empty_0 : decode cX0_empty 0 = .ok (.aload_n 0, 1) := by decide +kernel
theorem dX0_empty_1 : decode cX0_empty 1 = .ok (.getfield 28, 3) := by decide +kernel
theorem dX0_empty_4 : decode cX0_empty 4 = .ok (.istore_n 1, 1) := by decide +kernel
theorem dX0_empty_5 : decode cX0_empty 5 = .ok (.aload_n 0, 1) := by decide +kernel
theorem dX0_empty_6 : decode cX0_empty 6 = .ok (.iconst 0, 1) := by decide +kernel
theorem dX0_empty_7 : decode cX0_empty 7 = .ok (.putfield 28, 3) := by decide +kernel
theorem dX0_empty_10 : decode cX0_empty 10 = .ok (.iload_n 1, 1) := by decide +kernel
theorem dX0_empty_11 : decode cX0_empty 11 = .ok (.ireturn, 1) := by decide +kernel
theorem dX0_part_0 : decode cX0_part 0 = .ok (.iload_n 2, 1) := by decide +kernel
theorem dX0_part_1 : decode cX0_part 1 = .ok (.ifCond .lt 15, 3) := by decide +kernel
theorem dX0_part_4 : decode cX0_part 4 = .ok (.iload_n 2, 1) := by decide +kernel
theorem dX0_part_5 : decode cX0_part 5 = .ok (.aload_n 1, 1) := by decide +kernel
theorem dX0_part_6 : decode cX0_part 6 = .ok (.arraylength, 1) := by decide +kernel
theorem dX0_part_7 : decode cX0_part 7 = .ok (.if_icmp .ge 9, 3) := by decide +kernel
theorem dX0_part_10 : decode cX0_part 10 = .ok (.aload_n 1, 1) := by decide +kernel
theorem dX0_part_11 : decode cX0_part 11 = .ok (.iload_n 2, 1) := by decide +kernel
theorem dX0_part_12 : decode cX0_part 12 = .ok (.iaload, 1) := by decide +kernel
theorem dX0_part_13 : decode cX0_part 13 = .ok (.goto 5, 3) := by decide +kernel
theorem dX0_part_16 : decode cX0_part 16 = .ok (.bipush (-5), 2) := by decide +kernel
theorem dX0_part_18 : decode cX0_part 18 = .ok (.ireturn, 1) := by decide +kernel
theorem dX0_findFault_0 : decode cX0_findFault 0 = .ok (.aload_n 0, 1) := by decide +kernel
theorem dX0_findFault_1 : decode cX0_findFault 1 = .ok (.iconst 0, 1) := by decide +kernel
theorem dX0_findFault_2 : decode cX0_findFault 2 = .ok (.putfield 32, 3) := by decide +kernel
theorem dX0_findFault_5 : decode cX0_findFault 5 = .ok (.aload_n 0, 1) := by decide +kernel
theorem dX0_findFault_6 : decode cX0_findFault 6 = .ok (.iconst 0, 1) := by decide +kernel
theorem dX0_findFault_7 : decode cX0_findFault 7 = .ok (.putfield 35, 3) := by decide +kernel
theorem dX0_findFault_10 : decode cX0_findFault 10 = .ok (.iconst 0, 1) := by decide +kernel
theorem dX0_findFault_11 : decode cX0_findFault 11 = .ok (.istore_n 1, 1) := by decide +kernel
theorem dX0_findFault_12 : decode cX0_findFault 12 = .ok (.iload_n 1, 1) := by decide +kernel
theorem dX0_findFault_13 : decode cX0_findFault 13 = .ok (.bipush 60, 2) := by decide +kernel
theorem dX0_findFault_15 : decode cX0_findFault 15 = .ok (.if_icmp .ge 70, 3) := by decide +kernel
theorem dX0_findFault_18 : decode cX0_findFault 18 = .ok (.aload_n 0, 1) := by decide +kernel
theorem dX0_findFault_19 : decode cX0_findFault 19 = .ok (.iload_n 1, 1) := by decide +kernel
theorem dX0_findFault_20 : decode cX0_findFault 20 = .ok (.invokevirtual 38, 3) := by decide +kernel
theorem dX0_findFault_23 : decode cX0_findFault 23 = .ok (.ifCond .ne 8, 3) := by decide +kernel
theorem dX0_findFault_26 : decode cX0_findFault 26 = .ok (.aload_n 0, 1) := by decide +kernel
theorem dX0_findFault_27 : decode cX0_findFault 27 = .ok (.getfield 32, 3) := by decide +kernel
theorem dX0_findFault_30 : decode cX0_findFault 30 = .ok (.ireturn, 1) := by decide +kernel
theorem dX0_findFault_31 : decode cX0_findFault 31 = .ok (.aload_n 0, 1) := by decide +kernel
theorem dX0_findFault_32 : decode cX0_findFault 32 = .ok (.dup, 1) := by decide +kernel
theorem dX0_findFault_33 : decode cX0_findFault 33 = .ok (.getfield 35, 3) := by decide +kernel
theorem dX0_findFault_36 : decode cX0_findFault 36 = .ok (.iconst 1, 1) := by decide +kernel
theorem dX0_findFault_37 : decode cX0_findFault 37 = .ok (.iadd, 1) := by decide +kernel
theorem dX0_findFault_38 : decode cX0_findFault 38 = .ok (.putfield 35, 3) := by decide +kernel
theorem dX0_findFault_41 : decode cX0_findFault 41 = .ok (.aload_n 0, 1) := by decide +kernel
theorem dX0_findFault_42 : decode cX0_findFault 42 = .ok (.getfield 32, 3) := by decide +kernel
theorem dX0_findFault_45 : decode cX0_findFault 45 = .ok (.aload_n 0, 1) := by decide +kernel
theorem dX0_findFault_46 : decode cX0_findFault 46 = .ok (.getfield 28, 3) := by decide +kernel
theorem dX0_findFault_49 : decode cX0_findFault 49 = .ok (.if_icmp .ne 6, 3) := by decide +kernel
theorem dX0_findFault_52 : decode cX0_findFault 52 = .ok (.bipush (-5), 2) := by decide +kernel
theorem dX0_findFault_54 : decode cX0_findFault 54 = .ok (.ireturn, 1) := by decide +kernel
theorem dX0_findFault_55 : decode cX0_findFault 55 = .ok (.aload_n 0, 1) := by decide +kernel
theorem dX0_findFault_56 : decode cX0_findFault 56 = .ok (.invokevirtual 42, 3) := by decide +kernel
theorem dX0_findFault_59 : decode cX0_findFault 59 = .ok (.bipush 59, 2) := by decide +kernel
theorem dX0_findFault_61 : decode cX0_findFault 61 = .ok (.if_icmp .eq 8, 3) := by decide +kernel
theorem dX0_findFault_64 : decode cX0_findFault 64 = .ok (.aload_n 0, 1) := by decide +kernel
theorem dX0_findFault_65 : decode cX0_findFault 65 = .ok (.getfield 32, 3) := by decide +kernel
theorem dX0_findFault_68 : decode cX0_findFault 68 = .ok (.ireturn, 1) := by decide +kernel
theorem dX0_findFault_69 : decode cX0_findFault 69 = .ok (.aload_n 0, 1) := by decide +kernel
theorem dX0_findFault_70 : decode cX0_findFault 70 = .ok (.dup, 1) := by decide +kernel
theorem dX0_findFault_71 : decode cX0_findFault 71 = .ok (.getfield 32, 3) := by decide +kernel
theorem dX0_findFault_74 : decode cX0_findFault 74 = .ok (.iconst 1, 1) := by decide +kernel
theorem dX0_findFault_75 : decode cX0_findFault 75 = .ok (.iadd, 1) := by decide +kernel
theorem dX0_findFault_76 : decode cX0_findFault 76 = .ok (.putfield 32, 3) := by decide +kernel
theorem dX0_findFault_79 : decode cX0_findFault 79 = .ok (.iinc 1 1, 3) := by decide +kernel
theorem dX0_findFault_82 : decode cX0_findFault 82 = .ok (.goto (-70), 3) := by decide +kernel
theorem dX0_findFault_85 : decode cX0_findFault 85 = .ok (.aload_n 0, 1) := by decide +kernel
theorem dX0_findFault_86 : decode cX0_findFault 86 = .ok (.getfield 32, 3) := by decide +kernel
theorem dX0_findFault_89 : decode cX0_findFault 89 = .ok (.ireturn, 1) := by decide +kernel
theorem dX0_readThing_0 : decode cX0_readThing 0 = .ok (.aload_n 0, 1) := by decide +kernel
theorem dX0_readThing_1 : decode cX0_readThing 1 = .ok (.invokevirtual 42, 3) := by decide +kernel
theorem dX0_readThing_4 : decode cX0_readThing 4 = .ok (.istore_n 2, 1) := by decide +kernel
theorem dX0_readThing_5 : decode cX0_readThing 5 = .ok (.iload_n 2, 1) := by decide +kernel
theorem dX0_readThing_6 : decode cX0_readThing 6 = .ok (.bipush 46, 2) := by decide +kernel
theorem dX0_readThing_8 : decode cX0_readThing 8 = .ok (.if_icmp .ne 29, 3) := by decide +kernel
theorem dX0_readThing_11 : decode cX0_readThing 11 = .ok (.aload_n 0, 1) := by decide +kernel
theorem dX0_readThing_12 : decode cX0_readThing 12 = .ok (.dup, 1) := by decide +kernel
theorem dX0_readThing_13 : decode cX0_readThing 13 = .ok (.getfield 32, 3) := by decide +kernel
theorem dX0_readThing_16 : decode cX0_readThing 16 = .ok (.iconst 1, 1) := by decide +kernel
theorem dX0_readThing_17 : decode cX0_readThing 17 = .ok (.iadd, 1) := by decide +kernel
theorem dX0_readThing_18 : decode cX0_readThing 18 = .ok (.putfield 32, 3) := by decide +kernel
theorem dX0_readThing_21 : decode cX0_readThing 21 = .ok (.aload_n 0, 1) := by decide +kernel
theorem dX0_readThing_22 : decode cX0_readThing 22 = .ok (.getfield 15, 3) := by decide +kernel
theorem dX0_readThing_25 : decode cX0_readThing 25 = .ok (.iload_n 1, 1) := by decide +kernel
theorem dX0_readThing_26 : decode cX0_readThing 26 = .ok (.iconst 4, 1) := by decide +kernel
theorem dX0_readThing_27 : decode cX0_readThing 27 = .ok (.iastore, 1) := by decide +kernel
theorem dX0_readThing_28 : decode cX0_readThing 28 = .ok (.aload_n 0, 1) := by decide +kernel
theorem dX0_readThing_29 : decode cX0_readThing 29 = .ok (.iload_n 1, 1) := by decide +kernel
theorem dX0_readThing_30 : decode cX0_readThing 30 = .ok (.iconst 1, 1) := by decide +kernel
theorem dX0_readThing_31 : decode cX0_readThing 31 = .ok (.bipush 99, 2) := by decide +kernel
theorem dX0_readThing_33 : decode cX0_readThing 33 = .ok (.invokevirtual 46, 3) := by decide +kernel
theorem dX0_readThing_36 : decode cX0_readThing 36 = .ok (.ireturn, 1) := by decide +kernel
theorem dX0_readThing_37 : decode cX0_readThing 37 = .ok (.iload_n 2, 1) := by decide +kernel
theorem dX0_readThing_38 : decode cX0_readThing 38 = .ok (.bipush 48, 2) := by decide +kernel
theorem dX0_readThing_40 : decode cX0_readThing 40 = .ok (.if_icmp .eq 11, 3) := by decide +kernel
theorem dX0_readThing_43 : decode cX0_readThing 43 = .ok (.iload_n 2, 1) := by decide +kernel
theorem dX0_readThing_44 : decode cX0_readThing 44 = .ok (.bipush 49, 2) := by decide +kernel
theorem dX0_readThing_46 : decode cX0_readThing 46 = .ok (.if_icmp .eq 5, 3) := by decide +kernel
theorem dX0_readThing_49 : decode cX0_readThing 49 = .ok (.iconst 0, 1) := by decide +kernel
theorem dX0_readThing_50 : decode cX0_readThing 50 = .ok (.ireturn, 1) := by decide +kernel
theorem dX0_readThing_51 : decode cX0_readThing 51 = .ok (.aload_n 0, 1) := by decide +kernel
theorem dX0_readThing_52 : decode cX0_readThing 52 = .ok (.dup, 1) := by decide +kernel
theorem dX0_readThing_53 : decode cX0_readThing 53 = .ok (.getfield 32, 3) := by decide +kernel
theorem dX0_readThing_56 : decode cX0_readThing 56 = .ok (.iconst 1, 1) := by decide +kernel
theorem dX0_readThing_57 : decode cX0_readThing 57 = .ok (.iadd, 1) := by decide +kernel
theorem dX0_readThing_58 : decode cX0_readThing 58 = .ok (.putfield 32, 3) := by decide +kernel
theorem dX0_readThing_61 : decode cX0_readThing 61 = .ok (.aload_n 0, 1) := by decide +kernel
theorem dX0_readThing_62 : decode cX0_readThing 62 = .ok (.getfield 19, 3) := by decide +kernel
theorem dX0_readThing_65 : decode cX0_readThing 65 = .ok (.iload_n 1, 1) := by decide +kernel
theorem dX0_readThing_66 : decode cX0_readThing 66 = .ok (.iload_n 2, 1) := by decide +kernel
theorem dX0_readThing_67 : decode cX0_readThing 67 = .ok (.bipush 48, 2) := by decide +kernel
theorem dX0_readThing_69 : decode cX0_readThing 69 = .ok (.isub, 1) := by decide +kernel
theorem dX0_readThing_70 : decode cX0_readThing 70 = .ok (.iastore, 1) := by decide +kernel
theorem dX0_readThing_71 : decode cX0_readThing 71 = .ok (.aload_n 0, 1) := by decide +kernel
theorem dX0_readThing_72 : decode cX0_readThing 72 = .ok (.iload_n 1, 1) := by decide +kernel
theorem dX0_readThing_73 : decode cX0_readThing 73 = .ok (.invokevirtual 50, 3) := by decide +kernel
theorem dX0_readThing_76 : decode cX0_readThing 76 = .ok (.ireturn, 1) := by decide +kernel
theorem dX0_readLetter_0 : decode cX0_readLetter 0 = .ok (.aload_n 0, 1) := by decide +kernel
theorem dX0_readLetter_1 : decode cX0_readLetter 1 = .ok (.invokevirtual 42, 3) := by decide +kernel
theorem dX0_readLetter_4 : decode cX0_readLetter 4 = .ok (.invokestatic 53, 3) := by decide +kernel
theorem dX0_readLetter_7 : decode cX0_readLetter 7 = .ok (.istore_n 2, 1) := by decide +kernel
theorem dX0_readLetter_8 : decode cX0_readLetter 8 = .ok (.iload_n 2, 1) := by decide +kernel
theorem dX0_readLetter_9 : decode cX0_readLetter 9 = .ok (.bipush (-5), 2) := by decide +kernel
theorem dX0_readLetter_11 : decode cX0_readLetter 11 = .ok (.if_icmp .ne 5, 3) := by decide +kernel
theorem dX0_readLetter_14 : decode cX0_readLetter 14 = .ok (.iconst 0, 1) := by decide +kernel
theorem dX0_readLetter_15 : decode cX0_readLetter 15 = .ok (.ireturn, 1) := by decide +kernel
theorem dX0_readLetter_16 : decode cX0_readLetter 16 = .ok (.aload_n 0, 1) := by decide +kernel
theorem dX0_readLetter_17 : decode cX0_readLetter 17 = .ok (.dup, 1) := by decide +kernel
theorem dX0_readLetter_18 : decode cX0_readLetter 18 = .ok (.getfield 32, 3) := by decide +kernel
theorem dX0_readLetter_21 : decode cX0_readLetter 21 = .ok (.iconst 1, 1) := by decide +kernel
theorem dX0_readLetter_22 : decode cX0_readLetter 22 = .ok (.iadd, 1) := by decide +kernel
theorem dX0_readLetter_23 : decode cX0_readLetter 23 = .ok (.putfield 32, 3) := by decide +kernel
theorem dX0_readLetter_26 : decode cX0_readLetter 26 = .ok (.aload_n 0, 1) := by decide +kernel
theorem dX0_readLetter_27 : decode cX0_readLetter 27 = .ok (.getfield 15, 3) := by decide +kernel
theorem dX0_readLetter_30 : decode cX0_readLetter 30 = .ok (.iload_n 1, 1) := by decide +kernel
theorem dX0_readLetter_31 : decode cX0_readLetter 31 = .ok (.iload_n 2, 1) := by decide +kernel
theorem dX0_readLetter_32 : decode cX0_readLetter 32 = .ok (.iastore, 1) := by decide +kernel
theorem dX0_readLetter_33 : decode cX0_readLetter 33 = .ok (.iload_n 2, 1) := by decide +kernel
theorem dX0_readLetter_34 : decode cX0_readLetter 34 = .ok (.lookupswitch 44 #[(2, 26), (3, 35)], 26) := by decide +kernel
theorem dX0_readLetter_60 : decode cX0_readLetter 60 = .ok (.aload_n 0, 1) := by decide +kernel
theorem dX0_readLetter_61 : decode cX0_readLetter 61 = .ok (.iload_n 1, 1) := by decide +kernel
theorem dX0_readLetter_62 : decode cX0_readLetter 62 = .ok (.iconst 0, 1) := by decide +kernel
theorem dX0_readLetter_63 : decode cX0_readLetter 63 = .ok (.bipush 47, 2) := by decide +kernel
theorem dX0_readLetter_65 : decode cX0_readLetter 65 = .ok (.invokevirtual 46, 3) := by decide +kernel
theorem dX0_readLetter_68 : decode cX0_readLetter 68 = .ok (.ireturn, 1) := by decide +kernel
theorem dX0_readLetter_69 : decode cX0_readLetter 69 = .ok (.aload_n 0, 1) := by decide +kernel
theorem dX0_readLetter_70 : decode cX0_readLetter 70 = .ok (.iload_n 1, 1) := by decide +kernel
theorem dX0_readLetter_71 : decode cX0_readLetter 71 = .ok (.iconst 1, 1) := by decide +kernel
theorem dX0_readLetter_72 : decode cX0_readLetter 72 = .ok (.bipush 99, 2) := by decide +kernel
theorem dX0_readLetter_74 : decode cX0_readLetter 74 = .ok (.invokevirtual 46, 3) := by decide +kernel
theorem dX0_readLetter_77 : decode cX0_readLetter 77 = .ok (.ireturn, 1) := by decide +kernel
theorem dX0_readLetter_78 : decode cX0_readLetter 78 = .ok (.aload_n 0, 1) := by decide +kernel
theorem dX0_readLetter_79 : decode cX0_readLetter 79 = .ok (.iload_n 1, 1) := by decide +kernel
theorem dX0_readLetter_80 : decode cX0_readLetter 80 = .ok (.iconst 0, 1) := by decide +kernel
theorem dX0_readLetter_81 : decode cX0_readLetter 81 = .ok (.bipush 47, 2) := by decide +kernel
theorem dX0_readLetter_83 : decode cX0_readLetter 83 = .ok (.invokevirtual 46, 3) := by decide +kernel
theorem dX0_readLetter_86 : decode cX0_readLetter 86 = .ok (.ifCond .eq 15, 3) := by decide +kernel
theorem dX0_readLetter_89 : decode cX0_readLetter 89 = .ok (.aload_n 0, 1) := by decide +kernel
theorem dX0_readLetter_90 : decode cX0_readLetter 90 = .ok (.iload_n 1, 1) := by decide +kernel
theorem dX0_readLetter_91 : decode cX0_readLetter 91 = .ok (.invokevirtual 57, 3) := by decide +kernel
theorem dX0_readLetter_94 : decode cX0_readLetter 94 = .ok (.ifCond .eq 7, 3) := by decide +kernel
theorem dX0_readLetter_97 : decode cX0_readLetter 97 = .ok (.iconst 1, 1) := by decide +kernel
theorem dX0_readLetter_98 : decode cX0_readLetter 98 = .ok (.goto 4, 3) := by decide +kernel
theorem dX0_readLetter_101 : decode cX0_readLetter 101 = .ok (.iconst 0, 1) := by decide +kernel
theorem dX0_readLetter_102 : decode cX0_readLetter 102 = .ok (.ireturn, 1) := by decide +kernel
theorem dX0_readNumber_0 : decode cX0_readNumber 0 = .ok (.aload_n 0, 1) := by decide +kernel
theorem dX0_readNumber_1 : decode cX0_readNumber 1 = .ok (.invokevirtual 42, 3) := by decide +kernel
theorem dX0_readNumber_4 : decode cX0_readNumber 4 = .ok (.invokestatic 60, 3) := by decide +kernel
theorem dX0_readNumber_7 : decode cX0_readNumber 7 = .ok (.istore 4, 2) := by decide +kernel
theorem dX0_readNumber_9 : decode cX0_readNumber 9 = .ok (.iload 4, 2) := by decide +kernel
theorem dX0_readNumber_11 : decode cX0_readNumber 11 = .ok (.iload_n 2, 1) := by decide +kernel
theorem dX0_readNumber_12 : decode cX0_readNumber 12 = .ok (.if_icmp .ge 5, 3) := by decide +kernel
theorem dX0_readNumber_15 : decode cX0_readNumber 15 = .ok (.iconst 0, 1) := by decide +kernel
theorem dX0_readNumber_16 : decode cX0_readNumber 16 = .ok (.ireturn, 1) := by decide +kernel
theorem dX0_readNumber_17 : decode cX0_readNumber 17 = .ok (.aload_n 0, 1) := by decide +kernel
theorem dX0_readNumber_18 : decode cX0_readNumber 18 = .ok (.dup, 1) := by decide +kernel
theorem dX0_readNumber_19 : decode cX0_readNumber 19 = .ok (.getfield 32, 3) := by decide +kernel
theorem dX0_readNumber_22 : decode cX0_readNumber 22 = .ok (.iconst 1, 1) := by decide +kernel
theorem dX0_readNumber_23 : decode cX0_readNumber 23 = .ok (.iadd, 1) := by decide +kernel
theorem dX0_readNumber_24 : decode cX0_readNumber 24 = .ok (.putfield 32, 3) := by decide +kernel
theorem dX0_readNumber_27 : decode cX0_readNumber 27 = .ok (.aload_n 0, 1) := by decide +kernel
theorem dX0_readNumber_28 : decode cX0_readNumber 28 = .ok (.invokevirtual 42, 3) := by decide +kernel
theorem dX0_readNumber_31 : decode cX0_readNumber 31 = .ok (.invokestatic 60, 3) := by decide +kernel
theorem dX0_readNumber_34 : decode cX0_readNumber 34 = .ok (.istore 5, 2) := by decide +kernel
theorem dX0_readNumber_36 : decode cX0_readNumber 36 = .ok (.iload 4, 2) := by decide +kernel
theorem dX0_readNumber_38 : decode cX0_readNumber 38 = .ok (.ifCond .le 40, 3) := by decide +kernel
theorem dX0_readNumber_41 : decode cX0_readNumber 41 = .ok (.iload 5, 2) := by decide +kernel
theorem dX0_readNumber_43 : decode cX0_readNumber 43 = .ok (.ifCond .lt 35, 3) := by decide +kernel
theorem dX0_readNumber_46 : decode cX0_readNumber 46 = .ok (.iload 4, 2) := by decide +kernel
theorem dX0_readNumber_48 : decode cX0_readNumber 48 = .ok (.bipush 10, 2) := by decide +kernel
theorem dX0_readNumber_50 : decode cX0_readNumber 50 = .ok (.imul, 1) := by decide +kernel
theorem dX0_readNumber_51 : decode cX0_readNumber 51 = .ok (.iload 5, 2) := by decide +kernel
theorem dX0_readNumber_53 : decode cX0_readNumber 53 = .ok (.iadd, 1) := by decide +kernel
theorem dX0_readNumber_54 : decode cX0_readNumber 54 = .ok (.iload_n 3, 1) := by decide +kernel
theorem dX0_readNumber_55 : decode cX0_readNumber 55 = .ok (.if_icmp .gt 23, 3) := by decide +kernel
theorem dX0_readNumber_58 : decode cX0_readNumber 58 = .ok (.aload_n 0, 1) := by decide +kernel
theorem dX0_readNumber_59 : decode cX0_readNumber 59 = .ok (.dup, 1) := by decide +kernel
theorem dX0_readNumber_60 : decode cX0_readNumber 60 = .ok (.getfield 32, 3) := by decide +kernel
theorem dX0_readNumber_63 : decode cX0_readNumber 63 = .ok (.iconst 1, 1) := by decide +kernel
theorem dX0_readNumber_64 : decode cX0_readNumber 64 = .ok (.iadd, 1) := by decide +kernel
theorem dX0_readNumber_65 : decode cX0_readNumber 65 = .ok (.putfield 32, 3) := by decide +kernel
theorem dX0_readNumber_68 : decode cX0_readNumber 68 = .ok (.iload 4, 2) := by decide +kernel
theorem dX0_readNumber_70 : decode cX0_readNumber 70 = .ok (.bipush 10, 2) := by decide +kernel
theorem dX0_readNumber_72 : decode cX0_readNumber 72 = .ok (.imul, 1) := by decide +kernel
theorem dX0_readNumber_73 : decode cX0_readNumber 73 = .ok (.iload 5, 2) := by decide +kernel
theorem dX0_readNumber_75 : decode cX0_readNumber 75 = .ok (.iadd, 1) := by decide +kernel
theorem dX0_readNumber_76 : decode cX0_readNumber 76 = .ok (.istore 4, 2) := by decide +kernel
theorem dX0_readNumber_78 : decode cX0_readNumber 78 = .ok (.aload_n 0, 1) := by decide +kernel
theorem dX0_readNumber_79 : decode cX0_readNumber 79 = .ok (.getfield 22, 3) := by decide +kernel
theorem dX0_readNumber_82 : decode cX0_readNumber 82 = .ok (.iload_n 1, 1) := by decide +kernel
theorem dX0_readNumber_83 : decode cX0_readNumber 83 = .ok (.iload 4, 2) := by decide +kernel
theorem dX0_readNumber_85 : decode cX0_readNumber 85 = .ok (.iastore, 1) := by decide +kernel
theorem dX0_readNumber_86 : decode cX0_readNumber 86 = .ok (.iconst 1, 1) := by decide +kernel
theorem dX0_readNumber_87 : decode cX0_readNumber 87 = .ok (.ireturn, 1) := by decide +kernel
theorem dX0_readSide_0 : decode cX0_readSide 0 = .ok (.aload_n 0, 1) := by decide +kernel
theorem dX0_readSide_1 : decode cX0_readSide 1 = .ok (.invokevirtual 42, 3) := by decide +kernel
theorem dX0_readSide_4 : decode cX0_readSide 4 = .ok (.invokestatic 63, 3) := by decide +kernel
theorem dX0_readSide_7 : decode cX0_readSide 7 = .ok (.istore_n 2, 1) := by decide +kernel
theorem dX0_readSide_8 : decode cX0_readSide 8 = .ok (.iload_n 2, 1) := by decide +kernel
theorem dX0_readSide_9 : decode cX0_readSide 9 = .ok (.bipush (-5), 2) := by decide +kernel
theorem dX0_readSide_11 : decode cX0_readSide 11 = .ok (.if_icmp .ne 5, 3) := by decide +kernel
theorem dX0_readSide_14 : decode cX0_readSide 14 = .ok (.iconst 0, 1) := by decide +kernel
theorem dX0_readSide_15 : decode cX0_readSide 15 = .ok (.ireturn, 1) := by decide +kernel
theorem dX0_readSide_16 : decode cX0_readSide 16 = .ok (.aload_n 0, 1) := by decide +kernel
theorem dX0_readSide_17 : decode cX0_readSide 17 = .ok (.dup, 1) := by decide +kernel
theorem dX0_readSide_18 : decode cX0_readSide 18 = .ok (.getfield 32, 3) := by decide +kernel
theorem dX0_readSide_21 : decode cX0_readSide 21 = .ok (.iconst 1, 1) := by decide +kernel
theorem dX0_readSide_22 : decode cX0_readSide 22 = .ok (.iadd, 1) := by decide +kernel
theorem dX0_readSide_23 : decode cX0_readSide 23 = .ok (.putfield 32, 3) := by decide +kernel
theorem dX0_readSide_26 : decode cX0_readSide 26 = .ok (.aload_n 0, 1) := by decide +kernel
theorem dX0_readSide_27 : decode cX0_readSide 27 = .ok (.getfield 25, 3) := by decide +kernel
theorem dX0_readSide_30 : decode cX0_readSide 30 = .ok (.iload_n 1, 1) := by decide +kernel
theorem dX0_readSide_31 : decode cX0_readSide 31 = .ok (.iload_n 2, 1) := by decide +kernel
theorem dX0_readSide_32 : decode cX0_readSide 32 = .ok (.iastore, 1) := by decide +kernel
theorem dX0_readSide_33 : decode cX0_readSide 33 = .ok (.iconst 1, 1) := by decide +kernel
theorem dX0_readSide_34 : decode cX0_readSide 34 = .ok (.ireturn, 1) := by decide +kernel
theorem dX0_look_0 : decode cX0_look 0 = .ok (.aload_n 0, 1) := by decide +kernel
theorem dX0_look_1 : decode cX0_look 1 = .ok (.getfield 32, 3) := by decide +kernel
theorem dX0_look_4 : decode cX0_look 4 = .ok (.ifCond .lt 35, 3) := by decide +kernel
theorem dX0_look_7 : decode cX0_look 7 = .ok (.aload_n 0, 1) := by decide +kernel
theorem dX0_look_8 : decode cX0_look 8 = .ok (.getfield 32, 3) := by decide +kernel
theorem dX0_look_11 : decode cX0_look 11 = .ok (.aload_n 0, 1) := by decide +kernel
theorem dX0_look_12 : decode cX0_look 12 = .ok (.getfield 28, 3) := by decide +kernel
theorem dX0_look_15 : decode cX0_look 15 = .ok (.if_icmp .ge 24, 3) := by decide +kernel
theorem dX0_look_18 : decode cX0_look 18 = .ok (.aload_n 0, 1) := by decide +kernel
theorem dX0_look_19 : decode cX0_look 19 = .ok (.getfield 32, 3) := by decide +kernel
theorem dX0_look_22 : decode cX0_look 22 = .ok (.bipush 60, 2) := by decide +kernel
theorem dX0_look_24 : decode cX0_look 24 = .ok (.if_icmp .ge 15, 3) := by decide +kernel
theorem dX0_look_27 : decode cX0_look 27 = .ok (.aload_n 0, 1) := by decide +kernel
theorem dX0_look_28 : decode cX0_look 28 = .ok (.getfield 9, 3) := by decide +kernel
theorem dX0_look_31 : decode cX0_look 31 = .ok (.aload_n 0, 1) := by decide +kernel
theorem dX0_look_32 : decode cX0_look 32 = .ok (.getfield 32, 3) := by decide +kernel
theorem dX0_look_35 : decode cX0_look 35 = .ok (.caload, 1) := by decide +kernel
theorem dX0_look_36 : decode cX0_look 36 = .ok (.goto 5, 3) := by decide +kernel
theorem dX0_look_39 : decode cX0_look 39 = .ok (.bipush (-5), 2) := by decide +kernel
theorem dX0_look_41 : decode cX0_look 41 = .ok (.ireturn, 1) := by decide +kernel
theorem dX0_kindOf_0 : decode cX0_kindOf 0 = .ok (.iload_n 0, 1) := by decide +kernel
theorem dX0_kindOf_1 : decode cX0_kindOf 1 = .ok (.lookupswitch 51 #[(99, 47), (102, 43), (103, 45), (116, 49)], 43) := by decide +kernel
theorem dX0_kindOf_44 : decode cX0_kindOf 44 = .ok (.iconst 0, 1) := by decide +kernel
theorem dX0_kindOf_45 : decode cX0_kindOf 45 = .ok (.ireturn, 1) := by decide +kernel
theorem dX0_kindOf_46 : decode cX0_kindOf 46 = .ok (.iconst 1, 1) := by decide +kernel
theorem dX0_kindOf_47 : decode cX0_kindOf 47 = .ok (.ireturn, 1) := by decide +kernel
theorem dX0_kindOf_48 : decode cX0_kindOf 48 = .ok (.iconst 2, 1) := by decide +kernel
theorem dX0_kindOf_49 : decode cX0_kindOf 49 = .ok (.ireturn, 1) := by decide +kernel
theorem dX0_kindOf_50 : decode cX0_kindOf 50 = .ok (.iconst 3, 1) := by decide +kernel
theorem dX0_kindOf_51 : decode cX0_kindOf 51 = .ok (.ireturn, 1) := by decide +kernel
theorem dX0_kindOf_52 : decode cX0_kindOf 52 = .ok (.bipush (-5), 2) := by decide +kernel
theorem dX0_kindOf_54 : decode cX0_kindOf 54 = .ok (.ireturn, 1) := by decide +kernel
theorem dX0_sideOf_0 : decode cX0_sideOf 0 = .ok (.iload_n 0, 1) := by decide +kernel
theorem dX0_sideOf_1 : decode cX0_sideOf 1 = .ok (.lookupswitch 51 #[(101, 45), (110, 43), (115, 47), (119, 49)], 43) := by decide +kernel
theorem dX0_sideOf_44 : decode cX0_sideOf 44 = .ok (.iconst 0, 1) := by decide +kernel
theorem dX0_sideOf_45 : decode cX0_sideOf 45 = .ok (.ireturn, 1) := by decide +kernel
theorem dX0_sideOf_46 : decode cX0_sideOf 46 = .ok (.iconst 1, 1) := by decide +kernel
theorem dX0_sideOf_47 : decode cX0_sideOf 47 = .ok (.ireturn, 1) := by decide +kernel
theorem dX0_sideOf_48 : decode cX0_sideOf 48 = .ok (.iconst 2, 1) := by decide +kernel
theorem dX0_sideOf_49 : decode cX0_sideOf 49 = .ok (.ireturn, 1) := by decide +kernel
theorem dX0_sideOf_50 : decode cX0_sideOf 50 = .ok (.iconst 3, 1) := by decide +kernel
theorem dX0_sideOf_51 : decode cX0_sideOf 51 = .ok (.ireturn, 1) := by decide +kernel
theorem dX0_sideOf_52 : decode cX0_sideOf 52 = .ok (.bipush (-5), 2) := by decide +kernel
theorem dX0_sideOf_54 : decode cX0_sideOf 54 = .ok (.ireturn, 1) := by decide +kernel
theorem dX0_digitOf_0 : decode cX0_digitOf 0 = .ok (.iload_n 0, 1) := by decide +kernel
theorem dX0_digitOf_1 : decode cX0_digitOf 1 = .ok (.bipush 48, 2) := by decide +kernel
theorem dX0_digitOf_3 : decode cX0_digitOf 3 = .ok (.if_icmp .lt 16, 3) := by decide +kernel
theorem dX0_digitOf_6 : decode cX0_digitOf 6 = .ok (.iload_n 0, 1) := by decide +kernel
theorem dX0_digitOf_7 : decode cX0_digitOf 7 = .ok (.bipush 57, 2) := by decide +kernel
theorem dX0_digitOf_9 : decode cX0_digitOf 9 = .ok (.if_icmp .gt 10, 3) := by decide +kernel
theorem dX0_digitOf_12 : decode cX0_digitOf 12 = .ok (.iload_n 0, 1) := by decide +kernel
theorem dX0_digitOf_13 : decode cX0_digitOf 13 = .ok (.bipush 48, 2) := by decide +kernel
theorem dX0_digitOf_15 : decode cX0_digitOf 15 = .ok (.isub, 1) := by decide +kernel
theorem dX0_digitOf_16 : decode cX0_digitOf 16 = .ok (.goto 5, 3) := by decide +kernel
theorem dX0_digitOf_19 : decode cX0_digitOf 19 = .ok (.bipush (-5), 2) := by decide +kernel
theorem dX0_digitOf_21 : decode cX0_digitOf 21 = .ok (.ireturn, 1) := by decide +kernel
theorem dX1_init_0 : decode cX1_init 0 = .ok (.aload_n 0, 1) := by decide +kernel
theorem dX1_init_1 : decode cX1_init 1 = .ok (.invokespecial 3, 3) := by decide +kernel
theorem dX1_init_4 : decode cX1_init 4 = .ok (.aload_n 0, 1) := by decide +kernel
theorem dX1_init_5 : decode cX1_init 5 = .ok (.sipush 192, 3) := by decide +kernel
theorem dX1_init_8 : decode cX1_init 8 = .ok (.newarray .int, 2) := by decide +kernel
theorem dX1_init_10 : decode cX1_init 10 = .ok (.putfield 9, 3) := by decide +kernel
theorem dX1_init_13 : decode cX1_init 13 = .ok (.aload_n 0, 1) := by decide +kernel
theorem dX1_init_14 : decode cX1_init 14 = .ok (.sipush 192, 3) := by decide +kernel
theorem dX1_init_17 : decode cX1_init 17 = .ok (.newarray .int, 2) := by decide +kernel
theorem dX1_init_19 : decode cX1_init 19 = .ok (.putfield 15, 3) := by decide +kernel
theorem dX1_init_22 : decode cX1_init 22 = .ok (.aload_n 0, 1) := by decide +kernel
theorem dX1_init_23 : decode cX1_init 23 = .ok (.bipush 82, 2) := by decide +kernel
theorem dX1_init_25 : decode cX1_init 25 = .ok (.newarray .int, 2) := by decide +kernel
theorem dX1_init_27 : decode cX1_init 27 = .ok (.putfield 18, 3) := by decide +kernel
theorem dX1_init_30 : decode cX1_init 30 = .ok (.aload_n 0, 1) := by decide +kernel
theorem dX1_init_31 : decode cX1_init 31 = .ok (.bipush 82, 2) := by decide +kernel
theorem dX1_init_33 : decode cX1_init 33 = .ok (.newarray .int, 2) := by decide +kernel
theorem dX1_init_35 : decode cX1_init 35 = .ok (.putfield 21, 3) := by decide +kernel
theorem dX1_init_38 : decode cX1_init 38 = .ok (.aload_n 0, 1) := by decide +kernel
theorem dX1_init_39 : decode cX1_init 39 = .ok (.getfield 9, 3) := by decide +kernel
theorem dX1_init_42 : decode cX1_init 42 = .ok (.bipush (-5), 2) := by decide +kernel
theorem dX1_init_44 : decode cX1_init 44 = .ok (.invokestatic 24, 3) := by decide +kernel
theorem dX1_init_47 : decode cX1_init 47 = .ok (.aload_n 0, 1) := by decide +kernel
theorem dX1_init_48 : decode cX1_init 48 = .ok (.getfield 15, 3) := by decide +kernel
theorem dX1_init_51 : decode cX1_init 51 = .ok (.bipush (-5), 2) := by decide +kernel
theorem dX1_init_53 : decode cX1_init 53 = .ok (.invokestatic 24, 3) := by decide +kernel
theorem dX1_init_56 : decode cX1_init 56 = .ok (.iconst 0, 1) := by decide +kernel
theorem dX1_init_57 : decode cX1_init 57 = .ok (.istore_n 1, 1) := by decide +kernel
theorem dX1_init_58 : decode cX1_init 58 = .ok (.iconst 0, 1) := by decide +kernel
theorem dX1_init_59 : decode cX1_init 59 = .ok (.istore_n 2, 1) := by decide +kernel
theorem dX1_init_60 : decode cX1_init 60 = .ok (.iload_n 2, 1) := by decide +kernel
theorem dX1_init_61 : decode cX1_init 61 = .ok (.bipush 48, 2) := by decide +kernel
theorem dX1_init_63 : decode cX1_init 63 = .ok (.if_icmp .ge 54, 3) := by decide +kernel
theorem dX1_init_66 : decode cX1_init 66 = .ok (.iload_n 2, 1) := by decide +kernel
theorem dX1_init_67 : decode cX1_init 67 = .ok (.bipush 8, 2) := by decide +kernel
theorem dX1_init_69 : decode cX1_init 69 = .ok (.irem, 1) := by decide +kernel
theorem dX1_init_70 : decode cX1_init 70 = .ok (.bipush 7, 2) := by decide +kernel
theorem dX1_init_72 : decode cX1_init 72 = .ok (.if_icmp .ge 16, 3) := by decide +kernel
theorem dX1_init_75 : decode cX1_init 75 = .ok (.aload_n 0, 1) := by decide +kernel
theorem dX1_init_76 : decode cX1_init 76 = .ok (.iload_n 1, 1) := by decide +kernel
theorem dX1_init_77 : decode cX1_init 77 = .ok (.iload_n 2, 1) := by decide +kernel
theorem dX1_init_78 : decode cX1_init 78 = .ok (.iconst 1, 1) := by decide +kernel
theorem dX1_init_79 : decode cX1_init 79 = .ok (.iload_n 2, 1) := by decide +kernel
theorem dX1_init_80 : decode cX1_init 80 = .ok (.iconst 1, 1) := by decide +kernel
theorem dX1_init_81 : decode cX1_init 81 = .ok (.iadd, 1) := by decide +kernel
theorem dX1_init_82 : decode cX1_init 82 = .ok (.invokevirtual 30, 3) := by decide +kernel
theorem dX1_init_85 : decode cX1_init 85 = .ok (.iinc 1 1, 3) := by decide +kernel
theorem dX1_init_88 : decode cX1_init 88 = .ok (.iload_n 2, 1) := by decide +kernel
theorem dX1_init_89 : decode cX1_init 89 = .ok (.bipush 8, 2) := by decide +kernel
theorem dX1_init_91 : decode cX1_init 91 = .ok (.iadd, 1) := by decide +kernel
theorem dX1_init_92 : decode cX1_init 92 = .ok (.bipush 48, 2) := by decide +kernel
theorem dX1_init_94 : decode cX1_init 94 = .ok (.if_icmp .ge 17, 3) := by decide +kernel
theorem dX1_init_97 : decode cX1_init 97 = .ok (.aload_n 0, 1) := by decide +kernel
theorem dX1_init_98 : decode cX1_init 98 = .ok (.iload_n 1, 1) := by decide +kernel
theorem dX1_init_99 : decode cX1_init 99 = .ok (.iload_n 2, 1) := by decide +kernel
theorem dX1_init_100 : decode cX1_init 100 = .ok (.iconst 2, 1) := by decide +kernel
theorem dX1_init_101 : decode cX1_init 101 = .ok (.iload_n 2, 1) := by decide +kernel
theorem dX1_init_102 : decode cX1_init 102 = .ok (.bipush 8, 2) := by decide +kernel
theorem dX1_init_104 : decode cX1_init 104 = .ok (.iadd, 1) := by decide +kernel
theorem dX1_init_105 : decode cX1_init 105 = .ok (.invokevirtual 30, 3) := by decide +kernel
theorem dX1_init_108 : decode cX1_init 108 = .ok (.iinc 1 1, 3) := by decide +kernel
theorem dX1_init_111 : decode cX1_init 111 = .ok (.iinc 2 1, 3) := by decide +kernel
theorem dX1_init_114 : decode cX1_init 114 = .ok (.goto (-54), 3) := by decide +kernel
theorem dX1_init_117 : decode cX1_init 117 = .ok (.return_, 1) := by decide +kernel
theorem dX1_layEdge_0 : decode cX1_layEdge 0 = .ok (.iload_n 1, 1) := by decide +kernel
theorem dX1_layEdge_1 : decode cX1_layEdge 1 = .ok (.invokestatic 34, 3) := by decide +kernel
theorem dX1_layEdge_4 : decode cX1_layEdge 4 = .ok (.ifCond .eq 18, 3) := by decide +kernel
theorem dX1_layEdge_7 : decode cX1_layEdge 7 = .ok (.iload_n 2, 1) := by decide +kernel
theorem dX1_layEdge_8 : decode cX1_layEdge 8 = .ok (.invokestatic 38, 3) := by decide +kernel
theorem dX1_layEdge_11 : decode cX1_layEdge 11 = .ok (.ifCond .eq 11, 3) := by decide +kernel
theorem dX1_layEdge_14 : decode cX1_layEdge 14 = .ok (.iload 4, 2) := by decide +kernel
theorem dX1_layEdge_16 : decode cX1_layEdge 16 = .ok (.invokestatic 38, 3) := by decide +kernel
theorem dX1_layEdge_19 : decode cX1_layEdge 19 = .ok (.ifCond .ne 4, 3) := by decide +kernel
theorem dX1_layEdge_22 : decode cX1_layEdge 22 = .ok (.return_, 1) := by decide +kernel
theorem dX1_layEdge_23 : decode cX1_layEdge 23 = .ok (.iload_n 2, 1) := by decide +kernel
theorem dX1_layEdge_24 : decode cX1_layEdge 24 = .ok (.iconst 4, 1) := by decide +kernel
theorem dX1_layEdge_25 : decode cX1_layEdge 25 = .ok (.imul, 1) := by decide +kernel
theorem dX1_layEdge_26 : decode cX1_layEdge 26 = .ok (.iload_n 3, 1) := by decide +kernel
theorem dX1_layEdge_27 : decode cX1_layEdge 27 = .ok (.iadd, 1) := by decide +kernel
theorem dX1_layEdge_28 : decode cX1_layEdge 28 = .ok (.istore 5, 2) := by decide +kernel
theorem dX1_layEdge_30 : decode cX1_layEdge 30 = .ok (.iload 4, 2) := by decide +kernel
theorem dX1_layEdge_32 : decode cX1_layEdge 32 = .ok (.iconst 4, 1) := by decide +kernel
theorem dX1_layEdge_33 : decode cX1_layEdge 33 = .ok (.imul, 1) := by decide +kernel
theorem dX1_layEdge_34 : decode cX1_layEdge 34 = .ok (.iload_n 3, 1) := by decide +kernel
theorem dX1_layEdge_35 : decode cX1_layEdge 35 = .ok (.iconst 2, 1) := by decide +kernel
theorem dX1_layEdge_36 : decode cX1_layEdge 36 = .ok (.iadd, 1) := by decide +kernel
theorem dX1_layEdge_37 : decode cX1_layEdge 37 = .ok (.iconst 4, 1) := by decide +kernel
theorem dX1_layEdge_38 : decode cX1_layEdge 38 = .ok (.irem, 1) := by decide +kernel
theorem dX1_layEdge_39 : decode cX1_layEdge 39 = .ok (.iadd, 1) := by decide +kernel
theorem dX1_layEdge_40 : decode cX1_layEdge 40 = .ok (.istore 6, 2) := by decide +kernel
theorem dX1_layEdge_42 : decode cX1_layEdge 42 = .ok (.aload_n 0, 1) := by decide +kernel
theorem dX1_layEdge_43 : decode cX1_layEdge 43 = .ok (.getfield 9, 3) := by decide +kernel
theorem dX1_layEdge_46 : decode cX1_layEdge 46 = .ok (.iload 5, 2) := by decide +kernel
theorem dX1_layEdge_48 : decode cX1_layEdge 48 = .ok (.iload 4, 2) := by decide +kernel
theorem dX1_layEdge_50 : decode cX1_layEdge 50 = .ok (.iastore, 1) := by decide +kernel
theorem dX1_layEdge_51 : decode cX1_layEdge 51 = .ok (.aload_n 0, 1) := by decide +kernel
theorem dX1_layEdge_52 : decode cX1_layEdge 52 = .ok (.getfield 9, 3) := by decide +kernel
theorem dX1_layEdge_55 : decode cX1_layEdge 55 = .ok (.iload 6, 2) := by decide +kernel
theorem dX1_layEdge_57 : decode cX1_layEdge 57 = .ok (.iload_n 2, 1) := by decide +kernel
theorem dX1_layEdge_58 : decode cX1_layEdge 58 = .ok (.iastore, 1) := by decide +kernel
theorem dX1_layEdge_59 : decode cX1_layEdge 59 = .ok (.aload_n 0, 1) := by decide +kernel
theorem dX1_layEdge_60 : decode cX1_layEdge 60 = .ok (.getfield 15, 3) := by decide +kernel
theorem dX1_layEdge_63 : decode cX1_layEdge 63 = .ok (.iload 5, 2) := by decide +kernel
theorem dX1_layEdge_65 : decode cX1_layEdge 65 = .ok (.iload_n 1, 1) := by decide +kernel
theorem dX1_layEdge_66 : decode cX1_layEdge 66 = .ok (.iastore, 1) := by decide +kernel
theorem dX1_layEdge_67 : decode cX1_layEdge 67 = .ok (.aload_n 0, 1) := by decide +kernel
theorem dX1_layEdge_68 : decode cX1_layEdge 68 = .ok (.getfield 15, 3) := by decide +kernel
theorem dX1_layEdge_71 : decode cX1_layEdge 71 = .ok (.iload 6, 2) := by decide +kernel
theorem dX1_layEdge_73 : decode cX1_layEdge 73 = .ok (.iload_n 1, 1) := by decide +kernel
theorem dX1_layEdge_74 : decode cX1_layEdge 74 = .ok (.iastore, 1) := by decide +kernel
theorem dX1_layEdge_75 : decode cX1_layEdge 75 = .ok (.aload_n 0, 1) := by decide +kernel
theorem dX1_layEdge_76 : decode cX1_layEdge 76 = .ok (.getfield 18, 3) := by decide +kernel
theorem dX1_layEdge_79 : decode cX1_layEdge 79 = .ok (.iload_n 1, 1) := by decide +kernel
theorem dX1_layEdge_80 : decode cX1_layEdge 80 = .ok (.iload_n 2, 1) := by decide +kernel
theorem dX1_layEdge_81 : decode cX1_layEdge 81 = .ok (.iastore, 1) := by decide +kernel
theorem dX1_layEdge_82 : decode cX1_layEdge 82 = .ok (.aload_n 0, 1) := by decide +kernel
theorem dX1_layEdge_83 : decode cX1_layEdge 83 = .ok (.getfield 21, 3) := by decide +kernel
theorem dX1_layEdge_86 : decode cX1_layEdge 86 = .ok (.iload_n 1, 1) := by decide +kernel
theorem dX1_layEdge_87 : decode cX1_layEdge 87 = .ok (.iload 4, 2) := by decide +kernel
theorem dX1_layEdge_89 : decode cX1_layEdge 89 = .ok (.iastore, 1) := by decide +kernel
theorem dX1_layEdge_90 : decode cX1_layEdge 90 = .ok (.return_, 1) := by decide +kernel
theorem dX1_edgeNumber_0 : decode cX1_edgeNumber 0 = .ok (.iload_n 1, 1) := by decide +kernel
theorem dX1_edgeNumber_1 : decode cX1_edgeNumber 1 = .ok (.invokestatic 38, 3) := by decide +kernel
theorem dX1_edgeNumber_4 : decode cX1_edgeNumber 4 = .ok (.ifCond .eq 12, 3) := by decide +kernel
theorem dX1_edgeNumber_7 : decode cX1_edgeNumber 7 = .ok (.iload_n 2, 1) := by decide +kernel
theorem dX1_edgeNumber_8 : decode cX1_edgeNumber 8 = .ok (.ifCond .lt 8, 3) := by decide +kernel
theorem dX1_edgeNumber_11 : decode cX1_edgeNumber 11 = .ok (.iload_n 2, 1) := by decide +kernel
theorem dX1_edgeNumber_12 : decode cX1_edgeNumber 12 = .ok (.iconst 4, 1) := by decide +kernel
theorem dX1_edgeNumber_13 : decode cX1_edgeNumber 13 = .ok (.if_icmp .lt 6, 3) := by decide +kernel
theorem dX1_edgeNumber_16 : decode cX1_edgeNumber 16 = .ok (.bipush (-5), 2) := by decide +kernel
theorem dX1_edgeNumber_18 : decode cX1_edgeNumber 18 = .ok (.ireturn, 1) := by decide +kernel
theorem dX1_edgeNumber_19 : decode cX1_edgeNumber 19 = .ok (.aload_n 0, 1) := by decide +kernel
theorem dX1_edgeNumber_20 : decode cX1_edgeNumber 20 = .ok (.getfield 15, 3) := by decide +kernel
theorem dX1_edgeNumber_23 : decode cX1_edgeNumber 23 = .ok (.iload_n 1, 1) := by decide +kernel
theorem dX1_edgeNumber_24 : decode cX1_edgeNumber 24 = .ok (.iconst 4, 1) := by decide +kernel
theorem dX1_edgeNumber_25 : decode cX1_edgeNumber 25 = .ok (.imul, 1) := by decide +kernel
theorem dX1_edgeNumber_26 : decode cX1_edgeNumber 26 = .ok (.iload_n 2, 1) := by decide +kernel
theorem dX1_edgeNumber_27 : decode cX1_edgeNumber 27 = .ok (.iadd, 1) := by decide +kernel
theorem dX1_edgeNumber_28 : decode cX1_edgeNumber 28 = .ok (.iaload, 1) := by decide +kernel
theorem dX1_edgeNumber_29 : decode cX1_edgeNumber 29 = .ok (.ireturn, 1) := by decide +kernel
theorem dX2_init_0 : decode cX2_init 0 = .ok (.aload_n 0, 1) := by decide +kernel
theorem dX2_init_1 : decode cX2_init 1 = .ok (.invokespecial 3, 3) := by decide +kernel
theorem dX2_init_4 : decode cX2_init 4 = .ok (.aload_n 0, 1) := by decide +kernel
theorem dX2_init_5 : decode cX2_init 5 = .ok (.iconst 4, 1) := by decide +kernel
theorem dX2_init_6 : decode cX2_init 6 = .ok (.anewarray 9, 3) := by decide +kernel
theorem dX2_init_9 : decode cX2_init 9 = .ok (.dup, 1) := by decide +kernel
theorem dX2_init_10 : decode cX2_init 10 = .ok (.iconst 0, 1) := by decide +kernel
theorem dX2_init_11 : decode cX2_init 11 = .ok (.new 9, 3) := by decide +kernel
theorem dX2_init_14 : decode cX2_init 14 = .ok (.dup, 1) := by decide +kernel
theorem dX2_init_15 : decode cX2_init 15 = .ok (.invokespecial 11, 3) := by decide +kernel
theorem dX2_init_18 : decode cX2_init 18 = .ok (.aastore, 1) := by decide +kernel
theorem dX2_init_19 : decode cX2_init 19 = .ok (.dup, 1) := by decide +kernel
theorem dX2_init_20 : decode cX2_init 20 = .ok (.iconst 1, 1) := by decide +kernel
theorem dX2_init_21 : decode cX2_init 21 = .ok (.new 9, 3) := by decide +kernel
theorem dX2_init_24 : decode cX2_init 24 = .ok (.dup, 1) := by decide +kernel
theorem dX2_init_25 : decode cX2_init 25 = .ok (.invokespecial 11, 3) := by decide +kernel
theorem dX2_init_28 : decode cX2_init 28 = .ok (.aastore, 1) := by decide +kernel
theorem dX2_init_29 : decode cX2_init 29 = .ok (.dup, 1) := by decide +kernel
theorem dX2_init_30 : decode cX2_init 30 = .ok (.iconst 2, 1) := by decide +kernel
theorem dX2_init_31 : decode cX2_init 31 = .ok (.new 9, 3) := by decide +kernel
theorem dX2_init_34 : decode cX2_init 34 = .ok (.dup, 1) := by decide +kernel
theorem dX2_init_35 : decode cX2_init 35 = .ok (.invokespecial 11, 3) := by decide +kernel
theorem dX2_init_38 : decode cX2_init 38 = .ok (.aastore, 1) := by decide +kernel
theorem dX2_init_39 : decode cX2_init 39 = .ok (.dup, 1) := by decide +kernel
theorem dX2_init_40 : decode cX2_init 40 = .ok (.iconst 3, 1) := by decide +kernel
theorem dX2_init_41 : decode cX2_init 41 = .ok (.new 9, 3) := by decide +kernel
theorem dX2_init_44 : decode cX2_init 44 = .ok (.dup, 1) := by decide +kernel
theorem dX2_init_45 : decode cX2_init 45 = .ok (.invokespecial 11, 3) := by decide +kernel
theorem dX2_init_48 : decode cX2_init 48 = .ok (.aastore, 1) := by decide +kernel
theorem dX2_init_49 : decode cX2_init 49 = .ok (.putfield 12, 3) := by decide +kernel
theorem dX2_init_52 : decode cX2_init 52 = .ok (.aload_n 0, 1) := by decide +kernel
theorem dX2_init_53 : decode cX2_init 53 = .ok (.iconst 3, 1) := by decide +kernel
theorem dX2_init_54 : decode cX2_init 54 = .ok (.putfield 18, 3) := by decide +kernel
theorem dX2_init_57 : decode cX2_init 57 = .ok (.return_, 1) := by decide +kernel
theorem dX2_add_0 : decode cX2_add 0 = .ok (.aload_n 0, 1) := by decide +kernel
theorem dX2_add_1 : decode cX2_add 1 = .ok (.aload_n 0, 1) := by decide +kernel
theorem dX2_add_2 : decode cX2_add 2 = .ok (.getfield 18, 3) := by decide +kernel
theorem dX2_add_5 : decode cX2_add 5 = .ok (.iconst 1, 1) := by decide +kernel
theorem dX2_add_6 : decode cX2_add 6 = .ok (.iadd, 1) := by decide +kernel
theorem dX2_add_7 : decode cX2_add 7 = .ok (.iconst 4, 1) := by decide +kernel
theorem dX2_add_8 : decode cX2_add 8 = .ok (.irem, 1) := by decide +kernel
theorem dX2_add_9 : decode cX2_add 9 = .ok (.putfield 18, 3) := by decide +kernel
theorem dX2_add_12 : decode cX2_add 12 = .ok (.aload_n 0, 1) := by decide +kernel
theorem dX2_add_13 : decode cX2_add 13 = .ok (.getfield 12, 3) := by decide +kernel
theorem dX2_add_16 : decode cX2_add 16 = .ok (.aload_n 0, 1) := by decide +kernel
theorem dX2_add_17 : decode cX2_add 17 = .ok (.getfield 18, 3) := by decide +kernel
theorem dX2_add_20 : decode cX2_add 20 = .ok (.aaload, 1) := by decide +kernel
theorem dX2_add_21 : decode cX2_add 21 = .ok (.aload_n 1, 1) := by decide +kernel
theorem dX2_add_22 : decode cX2_add 22 = .ok (.invokevirtual 22, 3) := by decide +kernel
theorem dX2_add_25 : decode cX2_add 25 = .ok (.aload_n 0, 1) := by decide +kernel
theorem dX2_add_26 : decode cX2_add 26 = .ok (.getfield 26, 3) := by decide +kernel
theorem dX2_add_29 : decode cX2_add 29 = .ok (.iconst 4, 1) := by decide +kernel
theorem dX2_add_30 : decode cX2_add 30 = .ok (.if_icmp .ge 13, 3) := by decide +kernel
theorem dX2_add_33 : decode cX2_add 33 = .ok (.aload_n 0, 1) := by decide +kernel
theorem dX2_add_34 : decode cX2_add 34 = .ok (.dup, 1) := by decide +kernel
theorem dX2_add_35 : decode cX2_add 35 = .ok (.getfield 26, 3) := by decide +kernel
theorem dX2_add_38 : decode cX2_add 38 = .ok (.iconst 1, 1) := by decide +kernel
theorem dX2_add_39 : decode cX2_add 39 = .ok (.iadd, 1) := by decide +kernel
theorem dX2_add_40 : decode cX2_add 40 = .ok (.putfield 26, 3) := by decide +kernel
theorem dX2_add_43 : decode cX2_add 43 = .ok (.return_, 1) := by decide +kernel
theorem dX2_takeBack_0 : decode cX2_takeBack 0 = .ok (.aload_n 0, 1) := by decide +kernel
theorem dX2_takeBack_1 : decode cX2_takeBack 1 = .ok (.getfield 26, 3) := by decide +kernel
theorem dX2_takeBack_4 : decode cX2_takeBack 4 = .ok (.ifCond .ne 6, 3) := by decide +kernel
theorem dX2_takeBack_7 : decode cX2_takeBack 7 = .ok (.bipush (-5), 2) := by decide +kernel
theorem dX2_takeBack_9 : decode cX2_takeBack 9 = .ok (.ireturn, 1) := by decide +kernel
theorem dX2_takeBack_10 : decode cX2_takeBack 10 = .ok (.aload_n 1, 1) := by decide +kernel
theorem dX2_takeBack_11 : decode cX2_takeBack 11 = .ok (.aload_n 0, 1) := by decide +kernel
theorem dX2_takeBack_12 : decode cX2_takeBack 12 = .ok (.getfield 12, 3) := by decide +kernel
theorem dX2_takeBack_15 : decode cX2_takeBack 15 = .ok (.aload_n 0, 1) := by decide +kernel
theorem dX2_takeBack_16 : decode cX2_takeBack 16 = .ok (.getfield 18, 3) := by decide +kernel
theorem dX2_takeBack_19 : decode cX2_takeBack 19 = .ok (.aaload, 1) := by decide +kernel
theorem dX2_takeBack_20 : decode cX2_takeBack 20 = .ok (.invokevirtual 22, 3) := by decide +kernel
theorem dX2_takeBack_23 : decode cX2_takeBack 23 = .ok (.aload_n 0, 1) := by decide +kernel
theorem dX2_takeBack_24 : decode cX2_takeBack 24 = .ok (.aload_n 0, 1) := by decide +kernel
theorem dX2_takeBack_25 : decode cX2_takeBack 25 = .ok (.getfield 18, 3) := by decide +kernel
theorem dX2_takeBack_28 : decode cX2_takeBack 28 = .ok (.iconst 4, 1) := by decide +kernel
theorem dX2_takeBack_29 : decode cX2_takeBack 29 = .ok (.iadd, 1) := by decide +kernel
theorem dX2_takeBack_30 : decode cX2_takeBack 30 = .ok (.iconst 1, 1) := by decide +kernel
theorem dX2_takeBack_31 : decode cX2_takeBack 31 = .ok (.isub, 1) := by decide +kernel
theorem dX2_takeBack_32 : decode cX2_takeBack 32 = .ok (.iconst 4, 1) := by decide +kernel
theorem dX2_takeBack_33 : decode cX2_takeBack 33 = .ok (.irem, 1) := by decide +kernel
theorem dX2_takeBack_34 : decode cX2_takeBack 34 = .ok (.putfield 18, 3) := by decide +kernel
theorem dX2_takeBack_37 : decode cX2_takeBack 37 = .ok (.aload_n 0, 1) := by decide +kernel
theorem dX2_takeBack_38 : decode cX2_takeBack 38 = .ok (.dup, 1) := by decide +kernel
theorem dX2_takeBack_39 : decode cX2_takeBack 39 = .ok (.getfield 26, 3) := by decide +kernel
theorem dX2_takeBack_42 : decode cX2_takeBack 42 = .ok (.iconst 1, 1) := by decide +kernel
theorem dX2_takeBack_43 : decode cX2_takeBack 43 = .ok (.isub, 1) := by decide +kernel
theorem dX2_takeBack_44 : decode cX2_takeBack 44 = .ok (.putfield 26, 3) := by decide +kernel
theorem dX2_takeBack_47 : decode cX2_takeBack 47 = .ok (.aload_n 0, 1) := by decide +kernel
theorem dX2_takeBack_48 : decode cX2_takeBack 48 = .ok (.getfield 26, 3) := by decide +kernel
theorem dX2_takeBack_51 : decode cX2_takeBack 51 = .ok (.ireturn, 1) := by decide +kernel
theorem dX3_init_0 : decode cX3_init 0 = .ok (.aload_n 0, 1) := by decide +kernel
theorem dX3_init_1 : decode cX3_init 1 = .ok (.invokespecial 3, 3) := by decide +kernel
theorem dX3_init_4 : decode cX3_init 4 = .ok (.aload_n 0, 1) := by decide +kernel
theorem dX3_init_5 : decode cX3_init 5 = .ok (.aload_n 1, 1) := by decide +kernel
theorem dX3_init_6 : decode cX3_init 6 = .ok (.putfield 9, 3) := by decide +kernel
theorem dX3_init_9 : decode cX3_init 9 = .ok (.aload_n 0, 1) := by decide +kernel
theorem dX3_init_10 : decode cX3_init 10 = .ok (.aload_n 2, 1) := by decide +kernel
theorem dX3_init_11 : decode cX3_init 11 = .ok (.putfield 15, 3) := by decide +kernel
theorem dX3_init_14 : decode cX3_init 14 = .ok (.return_, 1) := by decide +kernel
theorem dX3_deliver_0 : decode cX3_deliver 0 = .ok (.iconst 0, 1) := by decide +kernel
theorem dX3_deliver_1 : decode cX3_deliver 1 = .ok (.istore_n 3, 1) := by decide +kernel
theorem dX3_deliver_2 : decode cX3_deliver 2 = .ok (.iconst 0, 1) := by decide +kernel
theorem dX3_deliver_3 : decode cX3_deliver 3 = .ok (.istore 4, 2) := by decide +kernel
theorem dX3_deliver_5 : decode cX3_deliver 5 = .ok (.iload 4, 2) := by decide +kernel
theorem dX3_deliver_7 : decode cX3_deliver 7 = .ok (.bipush 60, 2) := by decide +kernel
theorem dX3_deliver_9 : decode cX3_deliver 9 = .ok (.if_icmp .ge 57, 3) := by decide +kernel
theorem dX3_deliver_12 : decode cX3_deliver 12 = .ok (.aload_n 1, 1) := by decide +kernel
theorem dX3_deliver_13 : decode cX3_deliver 13 = .ok (.invokevirtual 19, 3) := by decide +kernel
theorem dX3_deliver_16 : decode cX3_deliver 16 = .ok (.istore 5, 2) := by decide +kernel
theorem dX3_deliver_18 : decode cX3_deliver 18 = .ok (.iload 5, 2) := by decide +kernel
theorem dX3_deliver_20 : decode cX3_deliver 20 = .ok (.bipush (-5), 2) := by decide +kernel
theorem dX3_deliver_22 : decode cX3_deliver 22 = .ok (.if_icmp .eq 44, 3) := by decide +kernel
theorem dX3_deliver_25 : decode cX3_deliver 25 = .ok (.aload_n 1, 1) := by decide +kernel
theorem dX3_deliver_26 : decode cX3_deliver 26 = .ok (.iload 5, 2) := by decide +kernel
theorem dX3_deliver_28 : decode cX3_deliver 28 = .ok (.iconst 5, 1) := by decide +kernel
theorem dX3_deliver_29 : decode cX3_deliver 29 = .ok (.invokevirtual 25, 3) := by decide +kernel
theorem dX3_deliver_32 : decode cX3_deliver 32 = .ok (.iload_n 2, 1) := by decide +kernel
theorem dX3_deliver_33 : decode cX3_deliver 33 = .ok (.if_icmp .le 6, 3) := by decide +kernel
theorem dX3_deliver_36 : decode cX3_deliver 36 = .ok (.goto 30, 3) := by decide +kernel
theorem dX3_deliver_39 : decode cX3_deliver 39 = .ok (.aload_n 1, 1) := by decide +kernel
theorem dX3_deliver_40 : decode cX3_deliver 40 = .ok (.aload_n 1, 1) := by decide +kernel
theorem dX3_deliver_41 : decode cX3_deliver 41 = .ok (.iload 5, 2) := by decide +kernel
theorem dX3_deliver_43 : decode cX3_deliver 43 = .ok (.iconst 5, 1) := by decide +kernel
theorem dX3_deliver_44 : decode cX3_deliver 44 = .ok (.invokevirtual 25, 3) := by decide +kernel
theorem dX3_deliver_47 : decode cX3_deliver 47 = .ok (.putfield 29, 3) := by decide +kernel
theorem dX3_deliver_50 : decode cX3_deliver 50 = .ok (.aload_n 0, 1) := by decide +kernel
theorem dX3_deliver_51 : decode cX3_deliver 51 = .ok (.aload_n 1, 1) := by decide +kernel
theorem dX3_deliver_52 : decode cX3_deliver 52 = .ok (.iload 5, 2) := by decide +kernel
theorem dX3_deliver_54 : decode cX3_deliver 54 = .ok (.invokevirtual 33, 3) := by decide +kernel
theorem dX3_deliver_57 : decode cX3_deliver 57 = .ok (.iinc 3 1, 3) := by decide +kernel
theorem dX3_deliver_60 : decode cX3_deliver 60 = .ok (.iinc 4 1, 3) := by decide +kernel
theorem dX3_deliver_63 : decode cX3_deliver 63 = .ok (.goto (-58), 3) := by decide +kernel
theorem dX3_deliver_66 : decode cX3_deliver 66 = .ok (.aload_n 1, 1) := by decide +kernel
theorem dX3_deliver_67 : decode cX3_deliver 67 = .ok (.iload_n 2, 1) := by decide +kernel
theorem dX3_deliver_68 : decode cX3_deliver 68 = .ok (.putfield 29, 3) := by decide +kernel
theorem dX3_deliver_71 : decode cX3_deliver 71 = .ok (.iload_n 3, 1) := by decide +kernel
theorem dX3_deliver_72 : decode cX3_deliver 72 = .ok (.ireturn, 1) := by decide +kernel
theorem dX3_bring_0 : decode cX3_bring 0 = .ok (.aload_n 1, 1) := by decide +kernel
theorem dX3_bring_1 : decode cX3_bring 1 = .ok (.iload_n 2, 1) := by decide +kernel
theorem dX3_bring_2 : decode cX3_bring 2 = .ok (.invokevirtual 37, 3) := by decide +kernel
theorem dX3_bring_5 : decode cX3_bring 5 = .ok (.istore_n 3, 1) := by decide +kernel
theorem dX3_bring_6 : decode cX3_bring 6 = .ok (.iconst 0, 1) := by decide +kernel
theorem dX3_bring_7 : decode cX3_bring 7 = .ok (.istore 4, 2) := by decide +kernel
theorem dX3_bring_9 : decode cX3_bring 9 = .ok (.aload_n 0, 1) := by decide +kernel
theorem dX3_bring_10 : decode cX3_bring 10 = .ok (.aload_n 1, 1) := by decide +kernel
theorem dX3_bring_11 : decode cX3_bring 11 = .ok (.iload_n 3, 1) := by decide +kernel
theorem dX3_bring_12 : decode cX3_bring 12 = .ok (.iload_n 2, 1) := by decide +kernel
theorem dX3_bring_13 : decode cX3_bring 13 = .ok (.invokevirtual 41, 3) := by decide +kernel
theorem dX3_bring_16 : decode cX3_bring 16 = .ok (.ifCond .eq 17, 3) := by decide +kernel
theorem dX3_bring_19 : decode cX3_bring 19 = .ok (.aload_n 1, 1) := by decide +kernel
theorem dX3_bring_20 : decode cX3_bring 20 = .ok (.aload_n 0, 1) := by decide +kernel
theorem dX3_bring_21 : decode cX3_bring 21 = .ok (.aload_n 1, 1) := by decide +kernel
theorem dX3_bring_22 : decode cX3_bring 22 = .ok (.iload_n 2, 1) := by decide +kernel
theorem dX3_bring_23 : decode cX3_bring 23 = .ok (.invokevirtual 45, 3) := by decide +kernel
theorem dX3_bring_26 : decode cX3_bring 26 = .ok (.iconst 3, 1) := by decide +kernel
theorem dX3_bring_27 : decode cX3_bring 27 = .ok (.invokevirtual 49, 3) := by decide +kernel
theorem dX3_bring_30 : decode cX3_bring 30 = .ok (.goto 44, 3) := by decide +kernel
theorem dX3_bring_33 : decode cX3_bring 33 = .ok (.aload_n 0, 1) := by decide +kernel
theorem dX3_bring_34 : decode cX3_bring 34 = .ok (.aload_n 1, 1) := by decide +kernel
theorem dX3_bring_35 : decode cX3_bring 35 = .ok (.iload_n 3, 1) := by decide +kernel
theorem dX3_bring_36 : decode cX3_bring 36 = .ok (.iload_n 2, 1) := by decide +kernel
theorem dX3_bring_37 : decode cX3_bring 37 = .ok (.invokevirtual 53, 3) := by decide +kernel
theorem dX3_bring_40 : decode cX3_bring 40 = .ok (.ifCond .eq 15, 3) := by decide +kernel
theorem dX3_bring_43 : decode cX3_bring 43 = .ok (.aload_n 1, 1) := by decide +kernel
theorem dX3_bring_44 : decode cX3_bring 44 = .ok (.iload_n 3, 1) := by decide +kernel
theorem dX3_bring_45 : decode cX3_bring 45 = .ok (.invokevirtual 56, 3) := by decide +kernel
theorem dX3_bring_48 : decode cX3_bring 48 = .ok (.bipush 6, 2) := by decide +kernel
theorem dX3_bring_50 : decode cX3_bring 50 = .ok (.istore 4, 2) := by decide +kernel
theorem dX3_bring_52 : decode cX3_bring 52 = .ok (.goto 22, 3) := by decide +kernel
theorem dX3_bring_55 : decode cX3_bring 55 = .ok (.aload_n 0, 1) := by decide +kernel
theorem dX3_bring_56 : decode cX3_bring 56 = .ok (.aload_n 1, 1) := by decide +kernel
theorem dX3_bring_57 : decode cX3_bring 57 = .ok (.iload_n 2, 1) := by decide +kernel
theorem dX3_bring_58 : decode cX3_bring 58 = .ok (.invokevirtual 60, 3) := by decide +kernel
theorem dX3_bring_61 : decode cX3_bring 61 = .ok (.istore 4, 2) := by decide +kernel
theorem dX3_bring_63 : decode cX3_bring 63 = .ok (.iload 4, 2) := by decide +kernel
theorem dX3_bring_65 : decode cX3_bring 65 = .ok (.ifCond .ne 9, 3) := by decide +kernel
theorem dX3_bring_68 : decode cX3_bring 68 = .ok (.aload_n 0, 1) := by decide +kernel
theorem dX3_bring_69 : decode cX3_bring 69 = .ok (.aload_n 1, 1) := by decide +kernel
theorem dX3_bring_70 : decode cX3_bring 70 = .ok (.iload_n 2, 1) := by decide +kernel
theorem dX3_bring_71 : decode cX3_bring 71 = .ok (.invokevirtual 63, 3) := by decide +kernel
theorem dX3_bring_74 : decode cX3_bring 74 = .ok (.aload_n 1, 1) := by decide +kernel
theorem dX3_bring_75 : decode cX3_bring 75 = .ok (.iload_n 2, 1) := by decide +kernel
theorem dX3_bring_76 : decode cX3_bring 76 = .ok (.bipush 7, 2) := by decide +kernel
theorem dX3_bring_78 : decode cX3_bring 78 = .ok (.iload 4, 2) := by decide +kernel
theorem dX3_bring_80 : decode cX3_bring 80 = .ok (.invokevirtual 66, 3) := by decide +kernel
theorem dX3_bring_83 : decode cX3_bring 83 = .ok (.aload_n 1, 1) := by decide +kernel
theorem dX3_bring_84 : decode cX3_bring 84 = .ok (.iload_n 2, 1) := by decide +kernel
theorem dX3_bring_85 : decode cX3_bring 85 = .ok (.bipush 6, 2) := by decide +kernel
theorem dX3_bring_87 : decode cX3_bring 87 = .ok (.iload 4, 2) := by decide +kernel
theorem dX3_bring_89 : decode cX3_bring 89 = .ok (.ifCond .ne 7, 3) := by decide +kernel
theorem dX3_bring_92 : decode cX3_bring 92 = .ok (.iconst 1, 1) := by decide +kernel
theorem dX3_bring_93 : decode cX3_bring 93 = .ok (.goto 4, 3) := by decide +kernel
theorem dX3_bring_96 : decode cX3_bring 96 = .ok (.iconst 2, 1) := by decide +kernel
theorem dX3_bring_97 : decode cX3_bring 97 = .ok (.invokevirtual 66, 3) := by decide +kernel
theorem dX3_bring_100 : decode cX3_bring 100 = .ok (.return_, 1) := by decide +kernel
theorem dX3_growsHedge_0 : decode cX3_growsHedge 0 = .ok (.aload_n 1, 1) := by decide +kernel
theorem dX3_growsHedge_1 : decode cX3_growsHedge 1 = .ok (.iload_n 2, 1) := by decide +kernel
theorem dX3_growsHedge_2 : decode cX3_growsHedge 2 = .ok (.iconst 0, 1) := by decide +kernel
theorem dX3_growsHedge_3 : decode cX3_growsHedge 3 = .ok (.invokevirtual 70, 3) := by decide +kernel
theorem dX3_growsHedge_6 : decode cX3_growsHedge 6 = .ok (.ifCond .eq 12, 3) := by decide +kernel
theorem dX3_growsHedge_9 : decode cX3_growsHedge 9 = .ok (.aload_n 1, 1) := by decide +kernel
theorem dX3_growsHedge_10 : decode cX3_growsHedge 10 = .ok (.iload_n 3, 1) := by decide +kernel
theorem dX3_growsHedge_11 : decode cX3_growsHedge 11 = .ok (.iconst 1, 1) := by decide +kernel
theorem dX3_growsHedge_12 : decode cX3_growsHedge 12 = .ok (.invokevirtual 25, 3) := by decide +kernel
theorem dX3_growsHedge_15 : decode cX3_growsHedge 15 = .ok (.ifCond .eq 5, 3) := by decide +kernel
theorem dX3_growsHedge_18 : decode cX3_growsHedge 18 = .ok (.iconst 0, 1) := by decide +kernel
theorem dX3_growsHedge_19 : decode cX3_growsHedge 19 = .ok (.ireturn, 1) := by decide +kernel
theorem dX3_growsHedge_20 : decode cX3_growsHedge 20 = .ok (.aload_n 0, 1) := by decide +kernel
theorem dX3_growsHedge_21 : decode cX3_growsHedge 21 = .ok (.aload_n 1, 1) := by decide +kernel
theorem dX3_growsHedge_22 : decode cX3_growsHedge 22 = .ok (.iload_n 2, 1) := by decide +kernel
theorem dX3_growsHedge_23 : decode cX3_growsHedge 23 = .ok (.invokevirtual 45, 3) := by decide +kernel
theorem dX3_growsHedge_26 : decode cX3_growsHedge 26 = .ok (.istore 4, 2) := by decide +kernel
theorem dX3_growsHedge_28 : decode cX3_growsHedge 28 = .ok (.iload 4, 2) := by decide +kernel
theorem dX3_growsHedge_30 : decode cX3_growsHedge 30 = .ok (.aload_n 0, 1) := by decide +kernel
theorem dX3_growsHedge_31 : decode cX3_growsHedge 31 = .ok (.aload_n 1, 1) := by decide +kernel
theorem dX3_growsHedge_32 : decode cX3_growsHedge 32 = .ok (.iload_n 3, 1) := by decide +kernel
theorem dX3_growsHedge_33 : decode cX3_growsHedge 33 = .ok (.invokevirtual 45, 3) := by decide +kernel
theorem dX3_growsHedge_36 : decode cX3_growsHedge 36 = .ok (.if_icmp .ne 25, 3) := by decide +kernel
theorem dX3_growsHedge_39 : decode cX3_growsHedge 39 = .ok (.aload_n 1, 1) := by decide +kernel
theorem dX3_growsHedge_40 : decode cX3_growsHedge 40 = .ok (.iload 4, 2) := by decide +kernel
theorem dX3_growsHedge_42 : decode cX3_growsHedge 42 = .ok (.invokevirtual 74, 3) := by decide +kernel
theorem dX3_growsHedge_45 : decode cX3_growsHedge 45 = .ok (.aload_n 1, 1) := by decide +kernel
theorem dX3_growsHedge_46 : decode cX3_growsHedge 46 = .ok (.iload_n 2, 1) := by decide +kernel
theorem dX3_growsHedge_47 : decode cX3_growsHedge 47 = .ok (.iconst 0, 1) := by decide +kernel
theorem dX3_growsHedge_48 : decode cX3_growsHedge 48 = .ok (.invokevirtual 25, 3) := by decide +kernel
theorem dX3_growsHedge_51 : decode cX3_growsHedge 51 = .ok (.invokestatic 77, 3) := by decide +kernel
theorem dX3_growsHedge_54 : decode cX3_growsHedge 54 = .ok (.if_icmp .ne 7, 3) := by decide +kernel
theorem dX3_growsHedge_57 : decode cX3_growsHedge 57 = .ok (.iconst 1, 1) := by decide +kernel
theorem dX3_growsHedge_58 : decode cX3_growsHedge 58 = .ok (.goto 4, 3) := by decide +kernel
theorem dX3_growsHedge_61 : decode cX3_growsHedge 61 = .ok (.iconst 0, 1) := by decide +kernel
theorem dX3_growsHedge_62 : decode cX3_growsHedge 62 = .ok (.ireturn, 1) := by decide +kernel
theorem dX3_makesVoid_0 : decode cX3_makesVoid 0 = .ok (.aload_n 1, 1) := by decide +kernel
theorem dX3_makesVoid_1 : decode cX3_makesVoid 1 = .ok (.iload_n 2, 1) := by decide +kernel
theorem dX3_makesVoid_2 : decode cX3_makesVoid 2 = .ok (.iconst 2, 1) := by decide +kernel
theorem dX3_makesVoid_3 : decode cX3_makesVoid 3 = .ok (.invokevirtual 70, 3) := by decide +kernel
theorem dX3_makesVoid_6 : decode cX3_makesVoid 6 = .ok (.ifCond .eq 31, 3) := by decide +kernel
theorem dX3_makesVoid_9 : decode cX3_makesVoid 9 = .ok (.aload_n 1, 1) := by decide +kernel
theorem dX3_makesVoid_10 : decode cX3_makesVoid 10 = .ok (.iload_n 3, 1) := by decide +kernel
theorem dX3_makesVoid_11 : decode cX3_makesVoid 11 = .ok (.iconst 1, 1) := by decide +kernel
theorem dX3_makesVoid_12 : decode cX3_makesVoid 12 = .ok (.invokevirtual 25, 3) := by decide +kernel
theorem dX3_makesVoid_15 : decode cX3_makesVoid 15 = .ok (.iconst 2, 1) := by decide +kernel
theorem dX3_makesVoid_16 : decode cX3_makesVoid 16 = .ok (.if_icmp .ne 21, 3) := by decide +kernel
theorem dX3_makesVoid_19 : decode cX3_makesVoid 19 = .ok (.aload_n 1, 1) := by decide +kernel
theorem dX3_makesVoid_20 : decode cX3_makesVoid 20 = .ok (.aload_n 1, 1) := by decide +kernel
theorem dX3_makesVoid_21 : decode cX3_makesVoid 21 = .ok (.iload_n 3, 1) := by decide +kernel
theorem dX3_makesVoid_22 : decode cX3_makesVoid 22 = .ok (.iconst 2, 1) := by decide +kernel
theorem dX3_makesVoid_23 : decode cX3_makesVoid 23 = .ok (.invokevirtual 25, 3) := by decide +kernel
theorem dX3_makesVoid_26 : decode cX3_makesVoid 26 = .ok (.invokevirtual 80, 3) := by decide +kernel
theorem dX3_makesVoid_29 : decode cX3_makesVoid 29 = .ok (.iload_n 2, 1) := by decide +kernel
theorem dX3_makesVoid_30 : decode cX3_makesVoid 30 = .ok (.if_icmp .ne 7, 3) := by decide +kernel
theorem dX3_makesVoid_33 : decode cX3_makesVoid 33 = .ok (.iconst 1, 1) := by decide +kernel
theorem dX3_makesVoid_34 : decode cX3_makesVoid 34 = .ok (.goto 4, 3) := by decide +kernel
theorem dX3_makesVoid_37 : decode cX3_makesVoid 37 = .ok (.iconst 0, 1) := by decide +kernel
theorem dX3_makesVoid_38 : decode cX3_makesVoid 38 = .ok (.ireturn, 1) := by decide +kernel
theorem dX3_reasonAgainst_0 : decode cX3_reasonAgainst 0 = .ok (.aload_n 1, 1) := by decide +kernel
theorem dX3_reasonAgainst_1 : decode cX3_reasonAgainst 1 = .ok (.iload_n 2, 1) := by decide +kernel
theorem dX3_reasonAgainst_2 : decode cX3_reasonAgainst 2 = .ok (.iconst 1, 1) := by decide +kernel
theorem dX3_reasonAgainst_3 : decode cX3_reasonAgainst 3 = .ok (.invokevirtual 25, 3) := by decide +kernel
theorem dX3_reasonAgainst_6 : decode cX3_reasonAgainst 6 = .ok (.tableswitch 71 0 2 #[26, 38, 50], 26) := by decide +kernel
theorem dX3_reasonAgainst_32 : decode cX3_reasonAgainst 32 = .ok (.aload_n 0, 1) := by decide +kernel
theorem dX3_reasonAgainst_33 : decode cX3_reasonAgainst 33 = .ok (.aload_n 1, 1) := by decide +kernel
theorem dX3_reasonAgainst_34 : decode cX3_reasonAgainst 34 = .ok (.aload_n 0, 1) := by decide +kernel
theorem dX3_reasonAgainst_35 : decode cX3_reasonAgainst 35 = .ok (.aload_n 1, 1) := by decide +kernel
theorem dX3_reasonAgainst_36 : decode cX3_reasonAgainst 36 = .ok (.iload_n 2, 1) := by decide +kernel
theorem dX3_reasonAgainst_37 : decode cX3_reasonAgainst 37 = .ok (.invokevirtual 45, 3) := by decide +kernel
theorem dX3_reasonAgainst_40 : decode cX3_reasonAgainst 40 = .ok (.invokevirtual 83, 3) := by decide +kernel
theorem dX3_reasonAgainst_43 : decode cX3_reasonAgainst 43 = .ok (.ireturn, 1) := by decide +kernel
theorem dX3_reasonAgainst_44 : decode cX3_reasonAgainst 44 = .ok (.aload_n 0, 1) := by decide +kernel
theorem dX3_reasonAgainst_45 : decode cX3_reasonAgainst 45 = .ok (.aload_n 1, 1) := by decide +kernel
theorem dX3_reasonAgainst_46 : decode cX3_reasonAgainst 46 = .ok (.aload_n 0, 1) := by decide +kernel
theorem dX3_reasonAgainst_47 : decode cX3_reasonAgainst 47 = .ok (.aload_n 1, 1) := by decide +kernel
theorem dX3_reasonAgainst_48 : decode cX3_reasonAgainst 48 = .ok (.iload_n 2, 1) := by decide +kernel
theorem dX3_reasonAgainst_49 : decode cX3_reasonAgainst 49 = .ok (.invokevirtual 45, 3) := by decide +kernel
theorem dX3_reasonAgainst_52 : decode cX3_reasonAgainst 52 = .ok (.invokevirtual 86, 3) := by decide +kernel
theorem dX3_reasonAgainst_55 : decode cX3_reasonAgainst 55 = .ok (.ireturn, 1) := by decide +kernel
theorem dX3_reasonAgainst_56 : decode cX3_reasonAgainst 56 = .ok (.aload_n 0, 1) := by decide +kernel
theorem dX3_reasonAgainst_57 : decode cX3_reasonAgainst 57 = .ok (.getfield 15, 3) := by decide +kernel
theorem dX3_reasonAgainst_60 : decode cX3_reasonAgainst 60 = .ok (.aload_n 1, 1) := by decide +kernel
theorem dX3_reasonAgainst_61 : decode cX3_reasonAgainst 61 = .ok (.invokevirtual 89, 3) := by decide +kernel
theorem dX3_reasonAgainst_64 : decode cX3_reasonAgainst 64 = .ok (.pop, 1) := by decide +kernel
theorem dX3_reasonAgainst_65 : decode cX3_reasonAgainst 65 = .ok (.aload_n 0, 1) := by decide +kernel
theorem dX3_reasonAgainst_66 : decode cX3_reasonAgainst 66 = .ok (.aload_n 1, 1) := by decide +kernel
theorem dX3_reasonAgainst_67 : decode cX3_reasonAgainst 67 = .ok (.aload_n 1, 1) := by decide +kernel
theorem dX3_reasonAgainst_68 : decode cX3_reasonAgainst 68 = .ok (.iload_n 2, 1) := by decide +kernel
theorem dX3_reasonAgainst_69 : decode cX3_reasonAgainst 69 = .ok (.iconst 2, 1) := by decide +kernel
theorem dX3_reasonAgainst_70 : decode cX3_reasonAgainst 70 = .ok (.invokevirtual 25, 3) := by decide +kernel
theorem dX3_reasonAgainst_73 : decode cX3_reasonAgainst 73 = .ok (.invokevirtual 95, 3) := by decide +kernel
theorem dX3_reasonAgainst_76 : decode cX3_reasonAgainst 76 = .ok (.ireturn, 1) := by decide +kernel
theorem dX3_reasonAgainst_77 : decode cX3_reasonAgainst 77 = .ok (.iconst 0, 1) := by decide +kernel
theorem dX3_reasonAgainst_78 : decode cX3_reasonAgainst 78 = .ok (.ireturn, 1) := by decide +kernel
theorem dX3_reasonAgainstFence_0 : decode cX3_reasonAgainstFence 0 = .ok (.aload_n 1, 1) := by decide +kernel
theorem dX3_reasonAgainstFence_1 : decode cX3_reasonAgainstFence 1 = .ok (.iload_n 2, 1) := by decide +kernel
theorem dX3_reasonAgainstFence_2 : decode cX3_reasonAgainstFence 2 = .ok (.invokevirtual 74, 3) := by decide +kernel
theorem dX3_reasonAgainstFence_5 : decode cX3_reasonAgainstFence 5 = .ok (.ifCond .ne 7, 3) := by decide +kernel
theorem dX3_reasonAgainstFence_8 : decode cX3_reasonAgainstFence 8 = .ok (.iconst 0, 1) := by decide +kernel
theorem dX3_reasonAgainstFence_9 : decode cX3_reasonAgainstFence 9 = .ok (.goto 4, 3) := by decide +kernel
theorem dX3_reasonAgainstFence_12 : decode cX3_reasonAgainstFence 12 = .ok (.iconst 1, 1) := by decide +kernel
theorem dX3_reasonAgainstFence_13 : decode cX3_reasonAgainstFence 13 = .ok (.ireturn, 1) := by decide +kernel
theorem dX3_reasonAgainstGap_0 : decode cX3_reasonAgainstGap 0 = .ok (.aload_n 1, 1) := by decide +kernel
theorem dX3_reasonAgainstGap_1 : decode cX3_reasonAgainstGap 1 = .ok (.iload_n 2, 1) := by decide +kernel
theorem dX3_reasonAgainstGap_2 : decode cX3_reasonAgainstGap 2 = .ok (.invokevirtual 74, 3) := by decide +kernel
theorem dX3_reasonAgainstGap_5 : decode cX3_reasonAgainstGap 5 = .ok (.istore_n 3, 1) := by decide +kernel
theorem dX3_reasonAgainstGap_6 : decode cX3_reasonAgainstGap 6 = .ok (.iload_n 3, 1) := by decide +kernel
theorem dX3_reasonAgainstGap_7 : decode cX3_reasonAgainstGap 7 = .ok (.ifCond .eq 8, 3) := by decide +kernel
theorem dX3_reasonAgainstGap_10 : decode cX3_reasonAgainstGap 10 = .ok (.iload_n 3, 1) := by decide +kernel
theorem dX3_reasonAgainstGap_11 : decode cX3_reasonAgainstGap 11 = .ok (.iconst 3, 1) := by decide +kernel
theorem dX3_reasonAgainstGap_12 : decode cX3_reasonAgainstGap 12 = .ok (.if_icmp .ne 5, 3) := by decide +kernel
theorem dX3_reasonAgainstGap_15 : decode cX3_reasonAgainstGap 15 = .ok (.iconst 2, 1) := by decide +kernel
theorem dX3_reasonAgainstGap_16 : decode cX3_reasonAgainstGap 16 = .ok (.ireturn, 1) := by decide +kernel
theorem dX3_reasonAgainstGap_17 : decode cX3_reasonAgainstGap 17 = .ok (.aload_n 1, 1) := by decide +kernel
theorem dX3_reasonAgainstGap_18 : decode cX3_reasonAgainstGap 18 = .ok (.invokevirtual 98, 3) := by decide +kernel
theorem dX3_reasonAgainstGap_21 : decode cX3_reasonAgainstGap 21 = .ok (.ifCond .eq 7, 3) := by decide +kernel
theorem dX3_reasonAgainstGap_24 : decode cX3_reasonAgainstGap 24 = .ok (.iconst 3, 1) := by decide +kernel
theorem dX3_reasonAgainstGap_25 : decode cX3_reasonAgainstGap 25 = .ok (.goto 4, 3) := by decide +kernel
theorem dX3_reasonAgainstGap_28 : decode cX3_reasonAgainstGap 28 = .ok (.iconst 0, 1) := by decide +kernel
theorem dX3_reasonAgainstGap_29 : decode cX3_reasonAgainstGap 29 = .ok (.ireturn, 1) := by decide +kernel
theorem dX3_reasonAgainstClaim_0 : decode cX3_reasonAgainstClaim 0 = .ok (.aload_n 1, 1) := by decide +kernel
theorem dX3_reasonAgainstClaim_1 : decode cX3_reasonAgainstClaim 1 = .ok (.iload_n 2, 1) := by decide +kernel
theorem dX3_reasonAgainstClaim_2 : decode cX3_reasonAgainstClaim 2 = .ok (.invokevirtual 80, 3) := by decide +kernel
theorem dX3_reasonAgainstClaim_5 : decode cX3_reasonAgainstClaim 5 = .ok (.bipush (-5), 2) := by decide +kernel
theorem dX3_reasonAgainstClaim_7 : decode cX3_reasonAgainstClaim 7 = .ok (.if_icmp .eq 5, 3) := by decide +kernel
theorem dX3_reasonAgainstClaim_10 : decode cX3_reasonAgainstClaim 10 = .ok (.iconst 4, 1) := by decide +kernel
theorem dX3_reasonAgainstClaim_11 : decode cX3_reasonAgainstClaim 11 = .ok (.ireturn, 1) := by decide +kernel
theorem dX3_reasonAgainstClaim_12 : decode cX3_reasonAgainstClaim 12 = .ok (.aload_n 0, 1) := by decide +kernel
theorem dX3_reasonAgainstClaim_13 : decode cX3_reasonAgainstClaim 13 = .ok (.getfield 15, 3) := by decide +kernel
theorem dX3_reasonAgainstClaim_16 : decode cX3_reasonAgainstClaim 16 = .ok (.iload_n 2, 1) := by decide +kernel
theorem dX3_reasonAgainstClaim_17 : decode cX3_reasonAgainstClaim 17 = .ok (.invokevirtual 102, 3) := by decide +kernel
theorem dX3_reasonAgainstClaim_20 : decode cX3_reasonAgainstClaim 20 = .ok (.aload_n 1, 1) := by decide +kernel
theorem dX3_reasonAgainstClaim_21 : decode cX3_reasonAgainstClaim 21 = .ok (.getfield 105, 3) := by decide +kernel
theorem dX3_reasonAgainstClaim_24 : decode cX3_reasonAgainstClaim 24 = .ok (.iconst 1, 1) := by decide +kernel
theorem dX3_reasonAgainstClaim_25 : decode cX3_reasonAgainstClaim 25 = .ok (.iaload, 1) := by decide +kernel
theorem dX3_reasonAgainstClaim_26 : decode cX3_reasonAgainstClaim 26 = .ok (.if_icmp .le 7, 3) := by decide +kernel
theorem dX3_reasonAgainstClaim_29 : decode cX3_reasonAgainstClaim 29 = .ok (.iconst 5, 1) := by decide +kernel
theorem dX3_reasonAgainstClaim_30 : decode cX3_reasonAgainstClaim 30 = .ok (.goto 4, 3) := by decide +kernel
theorem dX3_reasonAgainstClaim_33 : decode cX3_reasonAgainstClaim 33 = .ok (.iconst 0, 1) := by decide +kernel
theorem dX3_reasonAgainstClaim_34 : decode cX3_reasonAgainstClaim 34 = .ok (.ireturn, 1) := by decide +kernel
theorem dX3_carryOut_0 : decode cX3_carryOut 0 = .ok (.aload_n 1, 1) := by decide +kernel
theorem dX3_carryOut_1 : decode cX3_carryOut 1 = .ok (.iload_n 2, 1) := by decide +kernel
theorem dX3_carryOut_2 : decode cX3_carryOut 2 = .ok (.iconst 0, 1) := by decide +kernel
theorem dX3_carryOut_3 : decode cX3_carryOut 3 = .ok (.invokevirtual 25, 3) := by decide +kernel
theorem dX3_carryOut_6 : decode cX3_carryOut 6 = .ok (.istore_n 3, 1) := by decide +kernel
theorem dX3_carryOut_7 : decode cX3_carryOut 7 = .ok (.aload_n 1, 1) := by decide +kernel
theorem dX3_carryOut_8 : decode cX3_carryOut 8 = .ok (.iload_n 2, 1) := by decide +kernel
theorem dX3_carryOut_9 : decode cX3_carryOut 9 = .ok (.iconst 1, 1) := by decide +kernel
theorem dX3_carryOut_10 : decode cX3_carryOut 10 = .ok (.invokevirtual 25, 3) := by decide +kernel
theorem dX3_carryOut_13 : decode cX3_carryOut 13 = .ok (.tableswitch 67 0 2 #[27, 44, 58], 27) := by decide +kernel
theorem dX3_carryOut_40 : decode cX3_carryOut 40 = .ok (.aload_n 1, 1) := by decide +kernel
theorem dX3_carryOut_41 : decode cX3_carryOut 41 = .ok (.aload_n 0, 1) := by decide +kernel
theorem dX3_carryOut_42 : decode cX3_carryOut 42 = .ok (.aload_n 1, 1) := by decide +kernel
theorem dX3_carryOut_43 : decode cX3_carryOut 43 = .ok (.iload_n 2, 1) := by decide +kernel
theorem dX3_carryOut_44 : decode cX3_carryOut 44 = .ok (.invokevirtual 45, 3) := by decide +kernel
theorem dX3_carryOut_47 : decode cX3_carryOut 47 = .ok (.iload_n 3, 1) := by decide +kernel
theorem dX3_carryOut_48 : decode cX3_carryOut 48 = .ok (.invokestatic 77, 3) := by decide +kernel
theorem dX3_carryOut_51 : decode cX3_carryOut 51 = .ok (.invokevirtual 49, 3) := by decide +kernel
theorem dX3_carryOut_54 : decode cX3_carryOut 54 = .ok (.goto 50, 3) := by decide +kernel
theorem dX3_carryOut_57 : decode cX3_carryOut 57 = .ok (.aload_n 1, 1) := by decide +kernel
theorem dX3_carryOut_58 : decode cX3_carryOut 58 = .ok (.aload_n 0, 1) := by decide +kernel
theorem dX3_carryOut_59 : decode cX3_carryOut 59 = .ok (.aload_n 1, 1) := by decide +kernel
theorem dX3_carryOut_60 : decode cX3_carryOut 60 = .ok (.iload_n 2, 1) := by decide +kernel
theorem dX3_carryOut_61 : decode cX3_carryOut 61 = .ok (.invokevirtual 45, 3) := by decide +kernel
theorem dX3_carryOut_64 : decode cX3_carryOut 64 = .ok (.iconst 0, 1) := by decide +kernel
theorem dX3_carryOut_65 : decode cX3_carryOut 65 = .ok (.invokevirtual 49, 3) := by decide +kernel
theorem dX3_carryOut_68 : decode cX3_carryOut 68 = .ok (.goto 36, 3) := by decide +kernel
theorem dX3_carryOut_71 : decode cX3_carryOut 71 = .ok (.aload_n 0, 1) := by decide +kernel
theorem dX3_carryOut_72 : decode cX3_carryOut 72 = .ok (.aload_n 1, 1) := by decide +kernel
theorem dX3_carryOut_73 : decode cX3_carryOut 73 = .ok (.iload_n 2, 1) := by decide +kernel
theorem dX3_carryOut_74 : decode cX3_carryOut 74 = .ok (.invokevirtual 109, 3) := by decide +kernel
theorem dX3_carryOut_77 : decode cX3_carryOut 77 = .ok (.goto 27, 3) := by decide +kernel
theorem dX3_carryOut_80 : decode cX3_carryOut 80 = .ok (.iload_n 3, 1) := by decide +kernel
theorem dX3_carryOut_81 : decode cX3_carryOut 81 = .ok (.invokestatic 112, 3) := by decide +kernel
theorem dX3_carryOut_84 : decode cX3_carryOut 84 = .ok (.ifCond .eq 20, 3) := by decide +kernel
theorem dX3_carryOut_87 : decode cX3_carryOut 87 = .ok (.aload_n 1, 1) := by decide +kernel
theorem dX3_carryOut_88 : decode cX3_carryOut 88 = .ok (.getfield 116, 3) := by decide +kernel
theorem dX3_carryOut_91 : decode cX3_carryOut 91 = .ok (.iload_n 3, 1) := by decide +kernel
theorem dX3_carryOut_92 : decode cX3_carryOut 92 = .ok (.aload_n 1, 1) := by decide +kernel
theorem dX3_carryOut_93 : decode cX3_carryOut 93 = .ok (.getfield 29, 3) := by decide +kernel
theorem dX3_carryOut_96 : decode cX3_carryOut 96 = .ok (.aload_n 1, 1) := by decide +kernel
theorem dX3_carryOut_97 : decode cX3_carryOut 97 = .ok (.iload_n 2, 1) := by decide +kernel
theorem dX3_carryOut_98 : decode cX3_carryOut 98 = .ok (.iconst 3, 1) := by decide +kernel
theorem dX3_carryOut_99 : decode cX3_carryOut 99 = .ok (.invokevirtual 25, 3) := by decide +kernel
theorem dX3_carryOut_102 : decode cX3_carryOut 102 = .ok (.iadd, 1) := by decide +kernel
theorem dX3_carryOut_103 : decode cX3_carryOut 103 = .ok (.iastore, 1) := by decide +kernel
theorem dX3_carryOut_104 : decode cX3_carryOut 104 = .ok (.return_, 1) := by decide +kernel
theorem dX3_takeRegion_0 : decode cX3_takeRegion 0 = .ok (.aload_n 0, 1) := by decide +kernel
theorem dX3_takeRegion_1 : decode cX3_takeRegion 1 = .ok (.getfield 15, 3) := by decide +kernel
theorem dX3_takeRegion_4 : decode cX3_takeRegion 4 = .ok (.aload_n 1, 1) := by decide +kernel
theorem dX3_takeRegion_5 : decode cX3_takeRegion 5 = .ok (.iload_n 2, 1) := by decide +kernel
theorem dX3_takeRegion_6 : decode cX3_takeRegion 6 = .ok (.iconst 2, 1) := by decide +kernel
theorem dX3_takeRegion_7 : decode cX3_takeRegion 7 = .ok (.invokevirtual 25, 3) := by decide +kernel
theorem dX3_takeRegion_10 : decode cX3_takeRegion 10 = .ok (.invokevirtual 119, 3) := by decide +kernel
theorem dX3_takeRegion_13 : decode cX3_takeRegion 13 = .ok (.istore_n 3, 1) := by decide +kernel
theorem dX3_takeRegion_14 : decode cX3_takeRegion 14 = .ok (.iconst 0, 1) := by decide +kernel
theorem dX3_takeRegion_15 : decode cX3_takeRegion 15 = .ok (.istore 4, 2) := by decide +kernel
theorem dX3_takeRegion_17 : decode cX3_takeRegion 17 = .ok (.iload 4, 2) := by decide +kernel
theorem dX3_takeRegion_19 : decode cX3_takeRegion 19 = .ok (.bipush 48, 2) := by decide +kernel
theorem dX3_takeRegion_21 : decode cX3_takeRegion 21 = .ok (.if_icmp .ge 42, 3) := by decide +kernel
theorem dX3_takeRegion_24 : decode cX3_takeRegion 24 = .ok (.aload_n 0, 1) := by decide +kernel
theorem dX3_takeRegion_25 : decode cX3_takeRegion 25 = .ok (.getfield 15, 3) := by decide +kernel
theorem dX3_takeRegion_28 : decode cX3_takeRegion 28 = .ok (.iload 4, 2) := by decide +kernel
theorem dX3_takeRegion_30 : decode cX3_takeRegion 30 = .ok (.invokevirtual 119, 3) := by decide +kernel
theorem dX3_takeRegion_33 : decode cX3_takeRegion 33 = .ok (.iload_n 3, 1) := by decide +kernel
theorem dX3_takeRegion_34 : decode cX3_takeRegion 34 = .ok (.if_icmp .ne 23, 3) := by decide +kernel
theorem dX3_takeRegion_37 : decode cX3_takeRegion 37 = .ok (.aload_n 1, 1) := by decide +kernel
theorem dX3_takeRegion_38 : decode cX3_takeRegion 38 = .ok (.getfield 122, 3) := by decide +kernel
theorem dX3_takeRegion_41 : decode cX3_takeRegion 41 = .ok (.iload 4, 2) := by decide +kernel
theorem dX3_takeRegion_43 : decode cX3_takeRegion 43 = .ok (.iaload, 1) := by decide +kernel
theorem dX3_takeRegion_44 : decode cX3_takeRegion 44 = .ok (.bipush (-5), 2) := by decide +kernel
theorem dX3_takeRegion_46 : decode cX3_takeRegion 46 = .ok (.if_icmp .ne 11, 3) := by decide +kernel
theorem dX3_takeRegion_49 : decode cX3_takeRegion 49 = .ok (.aload_n 1, 1) := by decide +kernel
theorem dX3_takeRegion_50 : decode cX3_takeRegion 50 = .ok (.getfield 122, 3) := by decide +kernel
theorem dX3_takeRegion_53 : decode cX3_takeRegion 53 = .ok (.iload 4, 2) := by decide +kernel
theorem dX3_takeRegion_55 : decode cX3_takeRegion 55 = .ok (.iload_n 2, 1) := by decide +kernel
theorem dX3_takeRegion_56 : decode cX3_takeRegion 56 = .ok (.iastore, 1) := by decide +kernel
theorem dX3_takeRegion_57 : decode cX3_takeRegion 57 = .ok (.iinc 4 1, 3) := by decide +kernel
theorem dX3_takeRegion_60 : decode cX3_takeRegion 60 = .ok (.goto (-43), 3) := by decide +kernel
theorem dX3_takeRegion_63 : decode cX3_takeRegion 63 = .ok (.return_, 1) := by decide +kernel
theorem dX3_edgeOf_0 : decode cX3_edgeOf 0 = .ok (.aload_n 0, 1) := by decide +kernel
theorem dX3_edgeOf_1 : decode cX3_edgeOf 1 = .ok (.getfield 9, 3) := by decide +kernel
theorem dX3_edgeOf_4 : decode cX3_edgeOf 4 = .ok (.aload_n 1, 1) := by decide +kernel
theorem dX3_edgeOf_5 : decode cX3_edgeOf 5 = .ok (.iload_n 2, 1) := by decide +kernel
theorem dX3_edgeOf_6 : decode cX3_edgeOf 6 = .ok (.iconst 2, 1) := by decide +kernel
theorem dX3_edgeOf_7 : decode cX3_edgeOf 7 = .ok (.invokevirtual 25, 3) := by decide +kernel
theorem dX3_edgeOf_10 : decode cX3_edgeOf 10 = .ok (.aload_n 1, 1) := by decide +kernel
theorem dX3_edgeOf_11 : decode cX3_edgeOf 11 = .ok (.iload_n 2, 1) := by decide +kernel
theorem dX3_edgeOf_12 : decode cX3_edgeOf 12 = .ok (.iconst 3, 1) := by decide +kernel
theorem dX3_edgeOf_13 : decode cX3_edgeOf 13 = .ok (.invokevirtual 25, 3) := by decide +kernel
theorem dX3_edgeOf_16 : decode cX3_edgeOf 16 = .ok (.invokevirtual 125, 3) := by decide +kernel
theorem dX3_edgeOf_19 : decode cX3_edgeOf 19 = .ok (.ireturn, 1) := by decide +kernel
theorem dX4_init_0 : decode cX4_init 0 = .ok (.aload_n 0, 1) := by decide +kernel
theorem dX4_init_1 : decode cX4_init 1 = .ok (.invokespecial 3, 3) := by decide +kernel
theorem dX4_init_4 : decode cX4_init 4 = .ok (.aload_n 0, 1) := by decide +kernel
theorem dX4_init_5 : decode cX4_init 5 = .ok (.bipush 48, 2) := by decide +kernel
theorem dX4_init_7 : decode cX4_init 7 = .ok (.newarray .int, 2) := by decide +kernel
theorem dX4_init_9 : decode cX4_init 9 = .ok (.putfield 9, 3) := by decide +kernel
theorem dX4_init_12 : decode cX4_init 12 = .ok (.aload_n 0, 1) := by decide +kernel
theorem dX4_init_13 : decode cX4_init 13 = .ok (.bipush 48, 2) := by decide +kernel
theorem dX4_init_15 : decode cX4_init 15 = .ok (.newarray .int, 2) := by decide +kernel
theorem dX4_init_17 : decode cX4_init 17 = .ok (.putfield 15, 3) := by decide +kernel
theorem dX4_init_20 : decode cX4_init 20 = .ok (.aload_n 0, 1) := by decide +kernel
theorem dX4_init_21 : decode cX4_init 21 = .ok (.bipush 48, 2) := by decide +kernel
theorem dX4_init_23 : decode cX4_init 23 = .ok (.newarray .int, 2) := by decide +kernel
theorem dX4_init_25 : decode cX4_init 25 = .ok (.putfield 18, 3) := by decide +kernel
theorem dX4_init_28 : decode cX4_init 28 = .ok (.aload_n 0, 1) := by decide +kernel
theorem dX4_init_29 : decode cX4_init 29 = .ok (.bipush 48, 2) := by decide +kernel
theorem dX4_init_31 : decode cX4_init 31 = .ok (.newarray .int, 2) := by decide +kernel
theorem dX4_init_33 : decode cX4_init 33 = .ok (.putfield 21, 3) := by decide +kernel
theorem dX4_init_36 : decode cX4_init 36 = .ok (.aload_n 0, 1) := by decide +kernel
theorem dX4_init_37 : decode cX4_init 37 = .ok (.bipush 48, 2) := by decide +kernel
theorem dX4_init_39 : decode cX4_init 39 = .ok (.newarray .int, 2) := by decide +kernel
theorem dX4_init_41 : decode cX4_init 41 = .ok (.putfield 24, 3) := by decide +kernel
theorem dX4_init_44 : decode cX4_init 44 = .ok (.aload_n 0, 1) := by decide +kernel
theorem dX4_init_45 : decode cX4_init 45 = .ok (.aload_n 1, 1) := by decide +kernel
theorem dX4_init_46 : decode cX4_init 46 = .ok (.putfield 27, 3) := by decide +kernel
theorem dX4_init_49 : decode cX4_init 49 = .ok (.return_, 1) := by decide +kernel
theorem dX4_survey_0 : decode cX4_survey 0 = .ok (.aload_n 0, 1) := by decide +kernel
theorem dX4_survey_1 : decode cX4_survey 1 = .ok (.getfield 9, 3) := by decide +kernel
theorem dX4_survey_4 : decode cX4_survey 4 = .ok (.bipush (-5), 2) := by decide +kernel
theorem dX4_survey_6 : decode cX4_survey 6 = .ok (.invokestatic 31, 3) := by decide +kernel
theorem dX4_survey_9 : decode cX4_survey 9 = .ok (.iconst 0, 1) := by decide +kernel
theorem dX4_survey_10 : decode cX4_survey 10 = .ok (.istore_n 2, 1) := by decide +kernel
theorem dX4_survey_11 : decode cX4_survey 11 = .ok (.iconst 0, 1) := by decide +kernel
theorem dX4_survey_12 : decode cX4_survey 12 = .ok (.istore_n 3, 1) := by decide +kernel
theorem dX4_survey_13 : decode cX4_survey 13 = .ok (.iload_n 3, 1) := by decide +kernel
theorem dX4_survey_14 : decode cX4_survey 14 = .ok (.bipush 48, 2) := by decide +kernel
theorem dX4_survey_16 : decode cX4_survey 16 = .ok (.if_icmp .ge 29, 3) := by decide +kernel
theorem dX4_survey_19 : decode cX4_survey 19 = .ok (.aload_n 0, 1) := by decide +kernel
theorem dX4_survey_20 : decode cX4_survey 20 = .ok (.getfield 9, 3) := by decide +kernel
theorem dX4_survey_23 : decode cX4_survey 23 = .ok (.iload_n 3, 1) := by decide +kernel
theorem dX4_survey_24 : decode cX4_survey 24 = .ok (.iaload, 1) := by decide +kernel
theorem dX4_survey_25 : decode cX4_survey 25 = .ok (.bipush (-5), 2) := by decide +kernel
theorem dX4_survey_27 : decode cX4_survey 27 = .ok (.if_icmp .ne 12, 3) := by decide +kernel
theorem dX4_survey_30 : decode cX4_survey 30 = .ok (.aload_n 0, 1) := by decide +kernel
theorem dX4_survey_31 : decode cX4_survey 31 = .ok (.aload_n 1, 1) := by decide +kernel
theorem dX4_survey_32 : decode cX4_survey 32 = .ok (.iload_n 3, 1) := by decide +kernel
theorem dX4_survey_33 : decode cX4_survey 33 = .ok (.invokevirtual 37, 3) := by decide +kernel
theorem dX4_survey_36 : decode cX4_survey 36 = .ok (.iinc 2 1, 3) := by decide +kernel
theorem dX4_survey_39 : decode cX4_survey 39 = .ok (.iinc 3 1, 3) := by decide +kernel
theorem dX4_survey_42 : decode cX4_survey 42 = .ok (.goto (-29), 3) := by decide +kernel
theorem dX4_survey_45 : decode cX4_survey 45 = .ok (.iload_n 2, 1) := by decide +kernel
theorem dX4_survey_46 : decode cX4_survey 46 = .ok (.ireturn, 1) := by decide +kernel
theorem dX4_spreadFrom_0 : decode cX4_spreadFrom 0 = .ok (.aload_n 0, 1) := by decide +kernel
theorem dX4_spreadFrom_1 : decode cX4_spreadFrom 1 = .ok (.getfield 9, 3) := by decide +kernel
theorem dX4_spreadFrom_4 : decode cX4_spreadFrom 4 = .ok (.iload_n 2, 1) := by decide +kernel
theorem dX4_spreadFrom_5 : decode cX4_spreadFrom 5 = .ok (.iload_n 2, 1) := by decide +kernel
theorem dX4_spreadFrom_6 : decode cX4_spreadFrom 6 = .ok (.iastore, 1) := by decide +kernel
theorem dX4_spreadFrom_7 : decode cX4_spreadFrom 7 = .ok (.aload_n 0, 1) := by decide +kernel
theorem dX4_spreadFrom_8 : decode cX4_spreadFrom 8 = .ok (.getfield 21, 3) := by decide +kernel
theorem dX4_spreadFrom_11 : decode cX4_spreadFrom 11 = .ok (.iconst 0, 1) := by decide +kernel
theorem dX4_spreadFrom_12 : decode cX4_spreadFrom 12 = .ok (.iload_n 2, 1) := by decide +kernel
theorem dX4_spreadFrom_13 : decode cX4_spreadFrom 13 = .ok (.iastore, 1) := by decide +kernel
theorem dX4_spreadFrom_14 : decode cX4_spreadFrom 14 = .ok (.iconst 1, 1) := by decide +kernel
theorem dX4_spreadFrom_15 : decode cX4_spreadFrom 15 = .ok (.istore_n 3, 1) := by decide +kernel
theorem dX4_spreadFrom_16 : decode cX4_spreadFrom 16 = .ok (.iconst 0, 1) := by decide +kernel
theorem dX4_spreadFrom_17 : decode cX4_spreadFrom 17 = .ok (.istore 4, 2) := by decide +kernel
theorem dX4_spreadFrom_19 : decode cX4_spreadFrom 19 = .ok (.iconst 0, 1) := by decide +kernel
theorem dX4_spreadFrom_20 : decode cX4_spreadFrom 20 = .ok (.istore 5, 2) := by decide +kernel
theorem dX4_spreadFrom_22 : decode cX4_spreadFrom 22 = .ok (.iload 5, 2) := by decide +kernel
theorem dX4_spreadFrom_24 : decode cX4_spreadFrom 24 = .ok (.iload_n 3, 1) := by decide +kernel
theorem dX4_spreadFrom_25 : decode cX4_spreadFrom 25 = .ok (.if_icmp .ge 164, 3) := by decide +kernel
theorem dX4_spreadFrom_28 : decode cX4_spreadFrom 28 = .ok (.iload 5, 2) := by decide +kernel
theorem dX4_spreadFrom_30 : decode cX4_spreadFrom 30 = .ok (.bipush 48, 2) := by decide +kernel
theorem dX4_spreadFrom_32 : decode cX4_spreadFrom 32 = .ok (.if_icmp .ge 157, 3) := by decide +kernel
theorem dX4_spreadFrom_35 : decode cX4_spreadFrom 35 = .ok (.aload_n 0, 1) := by decide +kernel
theorem dX4_spreadFrom_36 : decode cX4_spreadFrom 36 = .ok (.getfield 21, 3) := by decide +kernel
theorem dX4_spreadFrom_39 : decode cX4_spreadFrom 39 = .ok (.iload 5, 2) := by decide +kernel
theorem dX4_spreadFrom_41 : decode cX4_spreadFrom 41 = .ok (.iaload, 1) := by decide +kernel
theorem dX4_spreadFrom_42 : decode cX4_spreadFrom 42 = .ok (.istore 6, 2) := by decide +kernel
theorem dX4_spreadFrom_44 : decode cX4_spreadFrom 44 = .ok (.aload_n 1, 1) := by decide +kernel
theorem dX4_spreadFrom_45 : decode cX4_spreadFrom 45 = .ok (.getfield 41, 3) := by decide +kernel
theorem dX4_spreadFrom_48 : decode cX4_spreadFrom 48 = .ok (.iload 6, 2) := by decide +kernel
theorem dX4_spreadFrom_50 : decode cX4_spreadFrom 50 = .ok (.iaload, 1) := by decide +kernel
theorem dX4_spreadFrom_51 : decode cX4_spreadFrom 51 = .ok (.bipush (-5), 2) := by decide +kernel
theorem dX4_spreadFrom_53 : decode cX4_spreadFrom 53 = .ok (.if_icmp .ne 6, 3) := by decide +kernel
theorem dX4_spreadFrom_56 : decode cX4_spreadFrom 56 = .ok (.iinc 4 1, 3) := by decide +kernel
theorem dX4_spreadFrom_59 : decode cX4_spreadFrom 59 = .ok (.iconst 0, 1) := by decide +kernel
theorem dX4_spreadFrom_60 : decode cX4_spreadFrom 60 = .ok (.istore 7, 2) := by decide +kernel
theorem dX4_spreadFrom_62 : decode cX4_spreadFrom 62 = .ok (.iload 7, 2) := by decide +kernel
theorem dX4_spreadFrom_64 : decode cX4_spreadFrom 64 = .ok (.iconst 4, 1) := by decide +kernel
theorem dX4_spreadFrom_65 : decode cX4_spreadFrom 65 = .ok (.if_icmp .ge 118, 3) := by decide +kernel
theorem dX4_spreadFrom_68 : decode cX4_spreadFrom 68 = .ok (.aload_n 0, 1) := by decide +kernel
theorem dX4_spreadFrom_69 : decode cX4_spreadFrom 69 = .ok (.getfield 27, 3) := by decide +kernel
theorem dX4_spreadFrom_72 : decode cX4_spreadFrom 72 = .ok (.getfield 46, 3) := by decide +kernel
theorem dX4_spreadFrom_75 : decode cX4_spreadFrom 75 = .ok (.iload 6, 2) := by decide +kernel
theorem dX4_spreadFrom_77 : decode cX4_spreadFrom 77 = .ok (.iconst 4, 1) := by decide +kernel
theorem dX4_spreadFrom_78 : decode cX4_spreadFrom 78 = .ok (.imul, 1) := by decide +kernel
theorem dX4_spreadFrom_79 : decode cX4_spreadFrom 79 = .ok (.iload 7, 2) := by decide +kernel
theorem dX4_spreadFrom_81 : decode cX4_spreadFrom 81 = .ok (.iadd, 1) := by decide +kernel
theorem dX4_spreadFrom_82 : decode cX4_spreadFrom 82 = .ok (.iaload, 1) := by decide +kernel
theorem dX4_spreadFrom_83 : decode cX4_spreadFrom 83 = .ok (.istore 8, 2) := by decide +kernel
theorem dX4_spreadFrom_85 : decode cX4_spreadFrom 85 = .ok (.aload_n 0, 1) := by decide +kernel
theorem dX4_spreadFrom_86 : decode cX4_spreadFrom 86 = .ok (.getfield 27, 3) := by decide +kernel
theorem dX4_spreadFrom_89 : decode cX4_spreadFrom 89 = .ok (.getfield 51, 3) := by decide +kernel
theorem dX4_spreadFrom_92 : decode cX4_spreadFrom 92 = .ok (.iload 6, 2) := by decide +kernel
theorem dX4_spreadFrom_94 : decode cX4_spreadFrom 94 = .ok (.iconst 4, 1) := by decide +kernel
theorem dX4_spreadFrom_95 : decode cX4_spreadFrom 95 = .ok (.imul, 1) := by decide +kernel
theorem dX4_spreadFrom_96 : decode cX4_spreadFrom 96 = .ok (.iload 7, 2) := by decide +kernel
theorem dX4_spreadFrom_98 : decode cX4_spreadFrom 98 = .ok (.iadd, 1) := by decide +kernel
theorem dX4_spreadFrom_99 : decode cX4_spreadFrom 99 = .ok (.iaload, 1) := by decide +kernel
theorem dX4_spreadFrom_100 : decode cX4_spreadFrom 100 = .ok (.istore 9, 2) := by decide +kernel
theorem dX4_spreadFrom_102 : decode cX4_spreadFrom 102 = .ok (.iload 8, 2) := by decide +kernel
theorem dX4_spreadFrom_104 : decode cX4_spreadFrom 104 = .ok (.invokestatic 54, 3) := by decide +kernel
theorem dX4_spreadFrom_107 : decode cX4_spreadFrom 107 = .ok (.ifCond .eq 25, 3) := by decide +kernel
theorem dX4_spreadFrom_110 : decode cX4_spreadFrom 110 = .ok (.iload 9, 2) := by decide +kernel
theorem dX4_spreadFrom_112 : decode cX4_spreadFrom 112 = .ok (.invokestatic 58, 3) := by decide +kernel
theorem dX4_spreadFrom_115 : decode cX4_spreadFrom 115 = .ok (.ifCond .eq 17, 3) := by decide +kernel
theorem dX4_spreadFrom_118 : decode cX4_spreadFrom 118 = .ok (.aload_n 1, 1) := by decide +kernel
theorem dX4_spreadFrom_119 : decode cX4_spreadFrom 119 = .ok (.getfield 61, 3) := by decide +kernel
theorem dX4_spreadFrom_122 : decode cX4_spreadFrom 122 = .ok (.iload 8, 2) := by decide +kernel
theorem dX4_spreadFrom_124 : decode cX4_spreadFrom 124 = .ok (.iaload, 1) := by decide +kernel
theorem dX4_spreadFrom_125 : decode cX4_spreadFrom 125 = .ok (.ifCond .ne 7, 3) := by decide +kernel
theorem dX4_spreadFrom_128 : decode cX4_spreadFrom 128 = .ok (.iconst 1, 1) := by decide +kernel
theorem dX4_spreadFrom_129 : decode cX4_spreadFrom 129 = .ok (.goto 4, 3) := by decide +kernel
theorem dX4_spreadFrom_132 : decode cX4_spreadFrom 132 = .ok (.iconst 0, 1) := by decide +kernel
theorem dX4_spreadFrom_133 : decode cX4_spreadFrom 133 = .ok (.istore 10, 2) := by decide +kernel
theorem dX4_spreadFrom_135 : decode cX4_spreadFrom 135 = .ok (.iload 10, 2) := by decide +kernel
theorem dX4_spreadFrom_137 : decode cX4_spreadFrom 137 = .ok (.ifCond .eq 40, 3) := by decide +kernel
theorem dX4_spreadFrom_140 : decode cX4_spreadFrom 140 = .ok (.aload_n 0, 1) := by decide +kernel
theorem dX4_spreadFrom_141 : decode cX4_spreadFrom 141 = .ok (.getfield 9, 3) := by decide +kernel
theorem dX4_spreadFrom_144 : decode cX4_spreadFrom 144 = .ok (.iload 9, 2) := by decide +kernel
theorem dX4_spreadFrom_146 : decode cX4_spreadFrom 146 = .ok (.iaload, 1) := by decide +kernel
theorem dX4_spreadFrom_147 : decode cX4_spreadFrom 147 = .ok (.bipush (-5), 2) := by decide +kernel
theorem dX4_spreadFrom_149 : decode cX4_spreadFrom 149 = .ok (.if_icmp .ne 28, 3) := by decide +kernel
theorem dX4_spreadFrom_152 : decode cX4_spreadFrom 152 = .ok (.iload_n 3, 1) := by decide +kernel
theorem dX4_spreadFrom_153 : decode cX4_spreadFrom 153 = .ok (.bipush 48, 2) := by decide +kernel
theorem dX4_spreadFrom_155 : decode cX4_spreadFrom 155 = .ok (.if_icmp .ge 22, 3) := by decide +kernel
theorem dX4_spreadFrom_158 : decode cX4_spreadFrom 158 = .ok (.aload_n 0, 1) := by decide +kernel
theorem dX4_spreadFrom_159 : decode cX4_spreadFrom 159 = .ok (.getfield 9, 3) := by decide +kernel
theorem dX4_spreadFrom_162 : decode cX4_spreadFrom 162 = .ok (.iload 9, 2) := by decide +kernel
theorem dX4_spreadFrom_164 : decode cX4_spreadFrom 164 = .ok (.iload_n 2, 1) := by decide +kernel
theorem dX4_spreadFrom_165 : decode cX4_spreadFrom 165 = .ok (.iastore, 1) := by decide +kernel
theorem dX4_spreadFrom_166 : decode cX4_spreadFrom 166 = .ok (.aload_n 0, 1) := by decide +kernel
theorem dX4_spreadFrom_167 : decode cX4_spreadFrom 167 = .ok (.getfield 21, 3) := by decide +kernel
theorem dX4_spreadFrom_170 : decode cX4_spreadFrom 170 = .ok (.iload_n 3, 1) := by decide +kernel
theorem dX4_spreadFrom_171 : decode cX4_spreadFrom 171 = .ok (.iload 9, 2) := by decide +kernel
theorem dX4_spreadFrom_173 : decode cX4_spreadFrom 173 = .ok (.iastore, 1) := by decide +kernel
theorem dX4_spreadFrom_174 : decode cX4_spreadFrom 174 = .ok (.iinc 3 1, 3) := by decide +kernel
theorem dX4_spreadFrom_177 : decode cX4_spreadFrom 177 = .ok (.iinc 7 1, 3) := by decide +kernel
theorem dX4_spreadFrom_180 : decode cX4_spreadFrom 180 = .ok (.goto (-118), 3) := by decide +kernel
theorem dX4_spreadFrom_183 : decode cX4_spreadFrom 183 = .ok (.iinc 5 1, 3) := by decide +kernel
theorem dX4_spreadFrom_186 : decode cX4_spreadFrom 186 = .ok (.goto (-164), 3) := by decide +kernel
theorem dX4_spreadFrom_189 : decode cX4_spreadFrom 189 = .ok (.iconst 0, 1) := by decide +kernel
theorem dX4_spreadFrom_190 : decode cX4_spreadFrom 190 = .ok (.istore 5, 2) := by decide +kernel
theorem dX4_spreadFrom_192 : decode cX4_spreadFrom 192 = .ok (.iload 5, 2) := by decide +kernel
theorem dX4_spreadFrom_194 : decode cX4_spreadFrom 194 = .ok (.iload_n 3, 1) := by decide +kernel
theorem dX4_spreadFrom_195 : decode cX4_spreadFrom 195 = .ok (.if_icmp .ge 43, 3) := by decide +kernel
theorem dX4_spreadFrom_198 : decode cX4_spreadFrom 198 = .ok (.iload 5, 2) := by decide +kernel
theorem dX4_spreadFrom_200 : decode cX4_spreadFrom 200 = .ok (.bipush 48, 2) := by decide +kernel
theorem dX4_spreadFrom_202 : decode cX4_spreadFrom 202 = .ok (.if_icmp .ge 36, 3) := by decide +kernel
theorem dX4_spreadFrom_205 : decode cX4_spreadFrom 205 = .ok (.aload_n 0, 1) := by decide +kernel
theorem dX4_spreadFrom_206 : decode cX4_spreadFrom 206 = .ok (.getfield 15, 3) := by decide +kernel
theorem dX4_spreadFrom_209 : decode cX4_spreadFrom 209 = .ok (.aload_n 0, 1) := by decide +kernel
theorem dX4_spreadFrom_210 : decode cX4_spreadFrom 210 = .ok (.getfield 21, 3) := by decide +kernel
theorem dX4_spreadFrom_213 : decode cX4_spreadFrom 213 = .ok (.iload 5, 2) := by decide +kernel
theorem dX4_spreadFrom_215 : decode cX4_spreadFrom 215 = .ok (.iaload, 1) := by decide +kernel
theorem dX4_spreadFrom_216 : decode cX4_spreadFrom 216 = .ok (.iload_n 3, 1) := by decide +kernel
theorem dX4_spreadFrom_217 : decode cX4_spreadFrom 217 = .ok (.iastore, 1) := by decide +kernel
theorem dX4_spreadFrom_218 : decode cX4_spreadFrom 218 = .ok (.aload_n 0, 1) := by decide +kernel
theorem dX4_spreadFrom_219 : decode cX4_spreadFrom 219 = .ok (.getfield 18, 3) := by decide +kernel
theorem dX4_spreadFrom_222 : decode cX4_spreadFrom 222 = .ok (.aload_n 0, 1) := by decide +kernel
theorem dX4_spreadFrom_223 : decode cX4_spreadFrom 223 = .ok (.getfield 21, 3) := by decide +kernel
theorem dX4_spreadFrom_226 : decode cX4_spreadFrom 226 = .ok (.iload 5, 2) := by decide +kernel
theorem dX4_spreadFrom_228 : decode cX4_spreadFrom 228 = .ok (.iaload, 1) := by decide +kernel
theorem dX4_spreadFrom_229 : decode cX4_spreadFrom 229 = .ok (.iload 4, 2) := by decide +kernel
theorem dX4_spreadFrom_231 : decode cX4_spreadFrom 231 = .ok (.iastore, 1) := by decide +kernel
theorem dX4_spreadFrom_232 : decode cX4_spreadFrom 232 = .ok (.iinc 5 1, 3) := by decide +kernel
theorem dX4_spreadFrom_235 : decode cX4_spreadFrom 235 = .ok (.goto (-43), 3) := by decide +kernel
theorem dX4_spreadFrom_238 : decode cX4_spreadFrom 238 = .ok (.return_, 1) := by decide +kernel
theorem dX4_lowestAround_0 : decode cX4_lowestAround 0 = .ok (.iload_n 1, 1) := by decide +kernel
theorem dX4_lowestAround_1 : decode cX4_lowestAround 1 = .ok (.invokestatic 58, 3) := by decide +kernel
theorem dX4_lowestAround_4 : decode cX4_lowestAround 4 = .ok (.ifCond .eq 12, 3) := by decide +kernel
theorem dX4_lowestAround_7 : decode cX4_lowestAround 7 = .ok (.aload_n 0, 1) := by decide +kernel
theorem dX4_lowestAround_8 : decode cX4_lowestAround 8 = .ok (.getfield 9, 3) := by decide +kernel
theorem dX4_lowestAround_11 : decode cX4_lowestAround 11 = .ok (.iload_n 1, 1) := by decide +kernel
theorem dX4_lowestAround_12 : decode cX4_lowestAround 12 = .ok (.iaload, 1) := by decide +kernel
theorem dX4_lowestAround_13 : decode cX4_lowestAround 13 = .ok (.goto 5, 3) := by decide +kernel
theorem dX4_lowestAround_16 : decode cX4_lowestAround 16 = .ok (.bipush (-5), 2) := by decide +kernel
theorem dX4_lowestAround_18 : decode cX4_lowestAround 18 = .ok (.ireturn, 1) := by decide +kernel
theorem dX4_sizeAround_0 : decode cX4_sizeAround 0 = .ok (.iload_n 1, 1) := by decide +kernel
theorem dX4_sizeAround_1 : decode cX4_sizeAround 1 = .ok (.invokestatic 58, 3) := by decide +kernel
theorem dX4_sizeAround_4 : decode cX4_sizeAround 4 = .ok (.ifCond .eq 12, 3) := by decide +kernel
theorem dX4_sizeAround_7 : decode cX4_sizeAround 7 = .ok (.aload_n 0, 1) := by decide +kernel
theorem dX4_sizeAround_8 : decode cX4_sizeAround 8 = .ok (.getfield 15, 3) := by decide +kernel
theorem dX4_sizeAround_11 : decode cX4_sizeAround 11 = .ok (.iload_n 1, 1) := by decide +kernel
theorem dX4_sizeAround_12 : decode cX4_sizeAround 12 = .ok (.iaload, 1) := by decide +kernel
theorem dX4_sizeAround_13 : decode cX4_sizeAround 13 = .ok (.goto 4, 3) := by decide +kernel
theorem dX4_sizeAround_16 : decode cX4_sizeAround 16 = .ok (.iconst 0, 1) := by decide +kernel
theorem dX4_sizeAround_17 : decode cX4_sizeAround 17 = .ok (.ireturn, 1) := by decide +kernel
theorem dX4_freeAround_0 : decode cX4_freeAround 0 = .ok (.iload_n 1, 1) := by decide +kernel
theorem dX4_freeAround_1 : decode cX4_freeAround 1 = .ok (.invokestatic 58, 3) := by decide +kernel
theorem dX4_freeAround_4 : decode cX4_freeAround 4 = .ok (.ifCond .eq 12, 3) := by decide +kernel
theorem dX4_freeAround_7 : decode cX4_freeAround 7 = .ok (.aload_n 0, 1) := by decide +kernel
theorem dX4_freeAround_8 : decode cX4_freeAround 8 = .ok (.getfield 18, 3) := by decide +kernel
theorem dX4_freeAround_11 : decode cX4_freeAround 11 = .ok (.iload_n 1, 1) := by decide +kernel
theorem dX4_freeAround_12 : decode cX4_freeAround 12 = .ok (.iaload, 1) := by decide +kernel
theorem dX4_freeAround_13 : decode cX4_freeAround 13 = .ok (.goto 4, 3) := by decide +kernel
theorem dX4_freeAround_16 : decode cX4_freeAround 16 = .ok (.iconst 0, 1) := by decide +kernel
theorem dX4_freeAround_17 : decode cX4_freeAround 17 = .ok (.ireturn, 1) := by decide +kernel
theorem dX4_sizeByJoining_0 : decode cX4_sizeByJoining 0 = .ok (.iconst 0, 1) := by decide +kernel
theorem dX4_sizeByJoining_1 : decode cX4_sizeByJoining 1 = .ok (.istore_n 3, 1) := by decide +kernel
theorem dX4_sizeByJoining_2 : decode cX4_sizeByJoining 2 = .ok (.iload_n 3, 1) := by decide +kernel
theorem dX4_sizeByJoining_3 : decode cX4_sizeByJoining 3 = .ok (.bipush 48, 2) := by decide +kernel
theorem dX4_sizeByJoining_5 : decode cX4_sizeByJoining 5 = .ok (.if_icmp .ge 16, 3) := by decide +kernel
theorem dX4_sizeByJoining_8 : decode cX4_sizeByJoining 8 = .ok (.aload_n 0, 1) := by decide +kernel
theorem dX4_sizeByJoining_9 : decode cX4_sizeByJoining 9 = .ok (.getfield 24, 3) := by decide +kernel
theorem dX4_sizeByJoining_12 : decode cX4_sizeByJoining 12 = .ok (.iload_n 3, 1) := by decide +kernel
theorem dX4_sizeByJoining_13 : decode cX4_sizeByJoining 13 = .ok (.iload_n 3, 1) := by decide +kernel
theorem dX4_sizeByJoining_14 : decode cX4_sizeByJoining 14 = .ok (.iastore, 1) := by decide +kernel
theorem dX4_sizeByJoining_15 : decode cX4_sizeByJoining 15 = .ok (.iinc 3 1, 3) := by decide +kernel
theorem dX4_sizeByJoining_18 : decode cX4_sizeByJoining 18 = .ok (.goto (-16), 3) := by decide +kernel
theorem dX4_sizeByJoining_21 : decode cX4_sizeByJoining 21 = .ok (.iconst 0, 1) := by decide +kernel
theorem dX4_sizeByJoining_22 : decode cX4_sizeByJoining 22 = .ok (.istore_n 3, 1) := by decide +kernel
theorem dX4_sizeByJoining_23 : decode cX4_sizeByJoining 23 = .ok (.iload_n 3, 1) := by decide +kernel
theorem dX4_sizeByJoining_24 : decode cX4_sizeByJoining 24 = .ok (.bipush 82, 2) := by decide +kernel
theorem dX4_sizeByJoining_26 : decode cX4_sizeByJoining 26 = .ok (.if_icmp .ge 50, 3) := by decide +kernel
theorem dX4_sizeByJoining_29 : decode cX4_sizeByJoining 29 = .ok (.aload_n 1, 1) := by decide +kernel
theorem dX4_sizeByJoining_30 : decode cX4_sizeByJoining 30 = .ok (.getfield 61, 3) := by decide +kernel
theorem dX4_sizeByJoining_33 : decode cX4_sizeByJoining 33 = .ok (.iload_n 3, 1) := by decide +kernel
theorem dX4_sizeByJoining_34 : decode cX4_sizeByJoining 34 = .ok (.iaload, 1) := by decide +kernel
theorem dX4_sizeByJoining_35 : decode cX4_sizeByJoining 35 = .ok (.ifCond .ne 35, 3) := by decide +kernel
theorem dX4_sizeByJoining_38 : decode cX4_sizeByJoining 38 = .ok (.aload_n 0, 1) := by decide +kernel
theorem dX4_sizeByJoining_39 : decode cX4_sizeByJoining 39 = .ok (.aload_n 0, 1) := by decide +kernel
theorem dX4_sizeByJoining_40 : decode cX4_sizeByJoining 40 = .ok (.getfield 24, 3) := by decide +kernel
theorem dX4_sizeByJoining_43 : decode cX4_sizeByJoining 43 = .ok (.aload_n 0, 1) := by decide +kernel
theorem dX4_sizeByJoining_44 : decode cX4_sizeByJoining 44 = .ok (.getfield 27, 3) := by decide +kernel
theorem dX4_sizeByJoining_47 : decode cX4_sizeByJoining 47 = .ok (.getfield 64, 3) := by decide +kernel
theorem dX4_sizeByJoining_50 : decode cX4_sizeByJoining 50 = .ok (.iload_n 3, 1) := by decide +kernel
theorem dX4_sizeByJoining_51 : decode cX4_sizeByJoining 51 = .ok (.iaload, 1) := by decide +kernel
theorem dX4_sizeByJoining_52 : decode cX4_sizeByJoining 52 = .ok (.iaload, 1) := by decide +kernel
theorem dX4_sizeByJoining_53 : decode cX4_sizeByJoining 53 = .ok (.aload_n 0, 1) := by decide +kernel
theorem dX4_sizeByJoining_54 : decode cX4_sizeByJoining 54 = .ok (.getfield 24, 3) := by decide +kernel
theorem dX4_sizeByJoining_57 : decode cX4_sizeByJoining 57 = .ok (.aload_n 0, 1) := by decide +kernel
theorem dX4_sizeByJoining_58 : decode cX4_sizeByJoining 58 = .ok (.getfield 27, 3) := by decide +kernel
theorem dX4_sizeByJoining_61 : decode cX4_sizeByJoining 61 = .ok (.getfield 67, 3) := by decide +kernel
theorem dX4_sizeByJoining_64 : decode cX4_sizeByJoining 64 = .ok (.iload_n 3, 1) := by decide +kernel
theorem dX4_sizeByJoining_65 : decode cX4_sizeByJoining 65 = .ok (.iaload, 1) := by decide +kernel
theorem dX4_sizeByJoining_66 : decode cX4_sizeByJoining 66 = .ok (.iaload, 1) := by decide +kernel
theorem dX4_sizeByJoining_67 : decode cX4_sizeByJoining 67 = .ok (.invokevirtual 70, 3) := by decide +kernel
theorem dX4_sizeByJoining_70 : decode cX4_sizeByJoining 70 = .ok (.iinc 3 1, 3) := by decide +kernel
theorem dX4_sizeByJoining_73 : decode cX4_sizeByJoining 73 = .ok (.goto (-50), 3) := by decide +kernel
theorem dX4_sizeByJoining_76 : decode cX4_sizeByJoining 76 = .ok (.iload_n 2, 1) := by decide +kernel
theorem dX4_sizeByJoining_77 : decode cX4_sizeByJoining 77 = .ok (.invokestatic 58, 3) := by decide +kernel
theorem dX4_sizeByJoining_80 : decode cX4_sizeByJoining 80 = .ok (.ifCond .eq 16, 3) := by decide +kernel
theorem dX4_sizeByJoining_83 : decode cX4_sizeByJoining 83 = .ok (.aload_n 0, 1) := by decide +kernel
theorem dX4_sizeByJoining_84 : decode cX4_sizeByJoining 84 = .ok (.aload_n 0, 1) := by decide +kernel
theorem dX4_sizeByJoining_85 : decode cX4_sizeByJoining 85 = .ok (.getfield 24, 3) := by decide +kernel
theorem dX4_sizeByJoining_88 : decode cX4_sizeByJoining 88 = .ok (.iload_n 2, 1) := by decide +kernel
theorem dX4_sizeByJoining_89 : decode cX4_sizeByJoining 89 = .ok (.iaload, 1) := by decide +kernel
theorem dX4_sizeByJoining_90 : decode cX4_sizeByJoining 90 = .ok (.invokevirtual 74, 3) := by decide +kernel
theorem dX4_sizeByJoining_93 : decode cX4_sizeByJoining 93 = .ok (.goto 4, 3) := by decide +kernel
theorem dX4_sizeByJoining_96 : decode cX4_sizeByJoining 96 = .ok (.iconst 0, 1) := by decide +kernel
theorem dX4_sizeByJoining_97 : decode cX4_sizeByJoining 97 = .ok (.ireturn, 1) := by decide +kernel
theorem dX4_relabel_0 : decode cX4_relabel 0 = .ok (.iconst 0, 1) := by decide +kernel
theorem dX4_relabel_1 : decode cX4_relabel 1 = .ok (.istore_n 3, 1) := by decide +kernel
theorem dX4_relabel_2 : decode cX4_relabel 2 = .ok (.iload_n 3, 1) := by decide +kernel
theorem dX4_relabel_3 : decode cX4_relabel 3 = .ok (.bipush 48, 2) := by decide +kernel
theorem dX4_relabel_5 : decode cX4_relabel 5 = .ok (.if_icmp .ge 26, 3) := by decide +kernel
theorem dX4_relabel_8 : decode cX4_relabel 8 = .ok (.aload_n 0, 1) := by decide +kernel
theorem dX4_relabel_9 : decode cX4_relabel 9 = .ok (.getfield 24, 3) := by decide +kernel
theorem dX4_relabel_12 : decode cX4_relabel 12 = .ok (.iload_n 3, 1) := by decide +kernel
theorem dX4_relabel_13 : decode cX4_relabel 13 = .ok (.iaload, 1) := by decide +kernel
theorem dX4_relabel_14 : decode cX4_relabel 14 = .ok (.iload_n 1, 1) := by decide +kernel
theorem dX4_relabel_15 : decode cX4_relabel 15 = .ok (.if_icmp .ne 10, 3) := by decide +kernel
theorem dX4_relabel_18 : decode cX4_relabel 18 = .ok (.aload_n 0, 1) := by decide +kernel
theorem dX4_relabel_19 : decode cX4_relabel 19 = .ok (.getfield 24, 3) := by decide +kernel
theorem dX4_relabel_22 : decode cX4_relabel 22 = .ok (.iload_n 3, 1) := by decide +kernel
theorem dX4_relabel_23 : decode cX4_relabel 23 = .ok (.iload_n 2, 1) := by decide +kernel
theorem dX4_relabel_24 : decode cX4_relabel 24 = .ok (.iastore, 1) := by decide +kernel
theorem dX4_relabel_25 : decode cX4_relabel 25 = .ok (.iinc 3 1, 3) := by decide +kernel
theorem dX4_relabel_28 : decode cX4_relabel 28 = .ok (.goto (-26), 3) := by decide +kernel
theorem dX4_relabel_31 : decode cX4_relabel 31 = .ok (.return_, 1) := by decide +kernel
theorem dX4_countLabel_0 : decode cX4_countLabel 0 = .ok (.iconst 0, 1) := by decide +kernel
theorem dX4_countLabel_1 : decode cX4_countLabel 1 = .ok (.istore_n 2, 1) := by decide +kernel
theorem dX4_countLabel_2 : decode cX4_countLabel 2 = .ok (.iconst 0, 1) := by decide +kernel
theorem dX4_countLabel_3 : decode cX4_countLabel 3 = .ok (.istore_n 3, 1) := by decide +kernel
theorem dX4_countLabel_4 : decode cX4_countLabel 4 = .ok (.iload_n 3, 1) := by decide +kernel
theorem dX4_countLabel_5 : decode cX4_countLabel 5 = .ok (.bipush 48, 2) := by decide +kernel
theorem dX4_countLabel_7 : decode cX4_countLabel 7 = .ok (.if_icmp .ge 22, 3) := by decide +kernel
theorem dX4_countLabel_10 : decode cX4_countLabel 10 = .ok (.aload_n 0, 1) := by decide +kernel
theorem dX4_countLabel_11 : decode cX4_countLabel 11 = .ok (.getfield 24, 3) := by decide +kernel
theorem dX4_countLabel_14 : decode cX4_countLabel 14 = .ok (.iload_n 3, 1) := by decide +kernel
theorem dX4_countLabel_15 : decode cX4_countLabel 15 = .ok (.iaload, 1) := by decide +kernel
theorem dX4_countLabel_16 : decode cX4_countLabel 16 = .ok (.iload_n 1, 1) := by decide +kernel
theorem dX4_countLabel_17 : decode cX4_countLabel 17 = .ok (.if_icmp .ne 6, 3) := by decide +kernel
theorem dX4_countLabel_20 : decode cX4_countLabel 20 = .ok (.iinc 2 1, 3) := by decide +kernel
theorem dX4_countLabel_23 : decode cX4_countLabel 23 = .ok (.iinc 3 1, 3) := by decide +kernel
theorem dX4_countLabel_26 : decode cX4_countLabel 26 = .ok (.goto (-22), 3) := by decide +kernel
theorem dX4_countLabel_29 : decode cX4_countLabel 29 = .ok (.iload_n 2, 1) := by decide +kernel
theorem dX4_countLabel_30 : decode cX4_countLabel 30 = .ok (.ireturn, 1) := by decide +kernel
theorem dX5_init_0 : decode cX5_init 0 = .ok (.aload_n 0, 1) := by decide +kernel
theorem dX5_init_1 : decode cX5_init 1 = .ok (.invokespecial 3, 3) := by decide +kernel
theorem dX5_init_4 : decode cX5_init 4 = .ok (.aload_n 0, 1) := by decide +kernel
theorem dX5_init_5 : decode cX5_init 5 = .ok (.bipush (-5), 2) := by decide +kernel
theorem dX5_init_7 : decode cX5_init 7 = .ok (.putfield 9, 3) := by decide +kernel
theorem dX5_init_10 : decode cX5_init 10 = .ok (.aload_n 0, 1) := by decide +kernel
theorem dX5_init_11 : decode cX5_init 11 = .ok (.iconst 2, 1) := by decide +kernel
theorem dX5_init_12 : decode cX5_init 12 = .ok (.newarray .int, 2) := by decide +kernel
theorem dX5_init_14 : decode cX5_init 14 = .ok (.dup, 1) := by decide +kernel
theorem dX5_init_15 : decode cX5_init 15 = .ok (.iconst 0, 1) := by decide +kernel
theorem dX5_init_16 : decode cX5_init 16 = .ok (.iconst 3, 1) := by decide +kernel
theorem dX5_init_17 : decode cX5_init 17 = .ok (.iastore, 1) := by decide +kernel
theorem dX5_init_18 : decode cX5_init 18 = .ok (.dup, 1) := by decide +kernel
theorem dX5_init_19 : decode cX5_init 19 = .ok (.iconst 1, 1) := by decide +kernel
theorem dX5_init_20 : decode cX5_init 20 = .ok (.bipush 9, 2) := by decide +kernel
theorem dX5_init_22 : decode cX5_init 22 = .ok (.iastore, 1) := by decide +kernel
theorem dX5_init_23 : decode cX5_init 23 = .ok (.putfield 15, 3) := by decide +kernel
theorem dX5_init_26 : decode cX5_init 26 = .ok (.aload_n 0, 1) := by decide +kernel
theorem dX5_init_27 : decode cX5_init 27 = .ok (.iconst 2, 1) := by decide +kernel
theorem dX5_init_28 : decode cX5_init 28 = .ok (.newarray .int, 2) := by decide +kernel
theorem dX5_init_30 : decode cX5_init 30 = .ok (.putfield 19, 3) := by decide +kernel
theorem dX5_init_33 : decode cX5_init 33 = .ok (.aload_n 0, 1) := by decide +kernel
theorem dX5_init_34 : decode cX5_init 34 = .ok (.bipush 82, 2) := by decide +kernel
theorem dX5_init_36 : decode cX5_init 36 = .ok (.newarray .int, 2) := by decide +kernel
theorem dX5_init_38 : decode cX5_init 38 = .ok (.putfield 22, 3) := by decide +kernel
theorem dX5_init_41 : decode cX5_init 41 = .ok (.aload_n 0, 1) := by decide +kernel
theorem dX5_init_42 : decode cX5_init 42 = .ok (.bipush 48, 2) := by decide +kernel
theorem dX5_init_44 : decode cX5_init 44 = .ok (.newarray .int, 2) := by decide +kernel
theorem dX5_init_46 : decode cX5_init 46 = .ok (.putfield 25, 3) := by decide +kernel
theorem dX5_init_49 : decode cX5_init 49 = .ok (.aload_n 0, 1) := by decide +kernel
theorem dX5_init_50 : decode cX5_init 50 = .ok (.sipush 600, 3) := by decide +kernel
theorem dX5_init_53 : decode cX5_init 53 = .ok (.newarray .int, 2) := by decide +kernel
theorem dX5_init_55 : decode cX5_init 55 = .ok (.putfield 28, 3) := by decide +kernel
theorem dX5_init_58 : decode cX5_init 58 = .ok (.aload_n 0, 1) := by decide +kernel
theorem dX5_init_59 : decode cX5_init 59 = .ok (.getfield 25, 3) := by decide +kernel
theorem dX5_init_62 : decode cX5_init 62 = .ok (.bipush (-5), 2) := by decide +kernel
theorem dX5_init_64 : decode cX5_init 64 = .ok (.invokestatic 31, 3) := by decide +kernel
theorem dX5_init_67 : decode cX5_init 67 = .ok (.return_, 1) := by decide +kernel
theorem dX5_takeFrom_0 : decode cX5_takeFrom 0 = .ok (.aload_n 0, 1) := by decide +kernel
theorem dX5_takeFrom_1 : decode cX5_takeFrom 1 = .ok (.aload_n 1, 1) := by decide +kernel
theorem dX5_takeFrom_2 : decode cX5_takeFrom 2 = .ok (.getfield 37, 3) := by decide +kernel
theorem dX5_takeFrom_5 : decode cX5_takeFrom 5 = .ok (.putfield 37, 3) := by decide +kernel
theorem dX5_takeFrom_8 : decode cX5_takeFrom 8 = .ok (.aload_n 0, 1) := by decide +kernel
theorem dX5_takeFrom_9 : decode cX5_takeFrom 9 = .ok (.aload_n 1, 1) := by decide +kernel
theorem dX5_takeFrom_10 : decode cX5_takeFrom 10 = .ok (.getfield 40, 3) := by decide +kernel
theorem dX5_takeFrom_13 : decode cX5_takeFrom 13 = .ok (.putfield 40, 3) := by decide +kernel
theorem dX5_takeFrom_16 : decode cX5_takeFrom 16 = .ok (.aload_n 0, 1) := by decide +kernel
theorem dX5_takeFrom_17 : decode cX5_takeFrom 17 = .ok (.aload_n 1, 1) := by decide +kernel
theorem dX5_takeFrom_18 : decode cX5_takeFrom 18 = .ok (.getfield 43, 3) := by decide +kernel
theorem dX5_takeFrom_21 : decode cX5_takeFrom 21 = .ok (.putfield 43, 3) := by decide +kernel
theorem dX5_takeFrom_24 : decode cX5_takeFrom 24 = .ok (.aload_n 0, 1) := by decide +kernel
theorem dX5_takeFrom_25 : decode cX5_takeFrom 25 = .ok (.aload_n 1, 1) := by decide +kernel
theorem dX5_takeFrom_26 : decode cX5_takeFrom 26 = .ok (.getfield 9, 3) := by decide +kernel
theorem dX5_takeFrom_29 : decode cX5_takeFrom 29 = .ok (.putfield 9, 3) := by decide +kernel
theorem dX5_takeFrom_32 : decode cX5_takeFrom 32 = .ok (.aload_n 1, 1) := by decide +kernel
theorem dX5_takeFrom_33 : decode cX5_takeFrom 33 = .ok (.getfield 15, 3) := by decide +kernel
theorem dX5_takeFrom_36 : decode cX5_takeFrom 36 = .ok (.iconst 0, 1) := by decide +kernel
theorem dX5_takeFrom_37 : decode cX5_takeFrom 37 = .ok (.aload_n 0, 1) := by decide +kernel
theorem dX5_takeFrom_38 : decode cX5_takeFrom 38 = .ok (.getfield 15, 3) := by decide +kernel
theorem dX5_takeFrom_41 : decode cX5_takeFrom 41 = .ok (.iconst 0, 1) := by decide +kernel
theorem dX5_takeFrom_42 : decode cX5_takeFrom 42 = .ok (.iconst 2, 1) := by decide +kernel
theorem dX5_takeFrom_43 : decode cX5_takeFrom 43 = .ok (.invokestatic 46, 3) := by decide +kernel
theorem dX5_takeFrom_46 : decode cX5_takeFrom 46 = .ok (.aload_n 1, 1) := by decide +kernel
theorem dX5_takeFrom_47 : decode cX5_takeFrom 47 = .ok (.getfield 19, 3) := by decide +kernel
theorem dX5_takeFrom_50 : decode cX5_takeFrom 50 = .ok (.iconst 0, 1) := by decide +kernel
theorem dX5_takeFrom_51 : decode cX5_takeFrom 51 = .ok (.aload_n 0, 1) := by decide +kernel
theorem dX5_takeFrom_52 : decode cX5_takeFrom 52 = .ok (.getfield 19, 3) := by decide +kernel
theorem dX5_takeFrom_55 : decode cX5_takeFrom 55 = .ok (.iconst 0, 1) := by decide +kernel
theorem dX5_takeFrom_56 : decode cX5_takeFrom 56 = .ok (.iconst 2, 1) := by decide +kernel
theorem dX5_takeFrom_57 : decode cX5_takeFrom 57 = .ok (.invokestatic 46, 3) := by decide +kernel
theorem dX5_takeFrom_60 : decode cX5_takeFrom 60 = .ok (.aload_n 1, 1) := by decide +kernel
theorem dX5_takeFrom_61 : decode cX5_takeFrom 61 = .ok (.getfield 22, 3) := by decide +kernel
theorem dX5_takeFrom_64 : decode cX5_takeFrom 64 = .ok (.iconst 0, 1) := by decide +kernel
theorem dX5_takeFrom_65 : decode cX5_takeFrom 65 = .ok (.aload_n 0, 1) := by decide +kernel
theorem dX5_takeFrom_66 : decode cX5_takeFrom 66 = .ok (.getfield 22, 3) := by decide +kernel
theorem dX5_takeFrom_69 : decode cX5_takeFrom 69 = .ok (.iconst 0, 1) := by decide +kernel
theorem dX5_takeFrom_70 : decode cX5_takeFrom 70 = .ok (.bipush 82, 2) := by decide +kernel
theorem dX5_takeFrom_72 : decode cX5_takeFrom 72 = .ok (.invokestatic 46, 3) := by decide +kernel
theorem dX5_takeFrom_75 : decode cX5_takeFrom 75 = .ok (.aload_n 1, 1) := by decide +kernel
theorem dX5_takeFrom_76 : decode cX5_takeFrom 76 = .ok (.getfield 25, 3) := by decide +kernel
theorem dX5_takeFrom_79 : decode cX5_takeFrom 79 = .ok (.iconst 0, 1) := by decide +kernel
theorem dX5_takeFrom_80 : decode cX5_takeFrom 80 = .ok (.aload_n 0, 1) := by decide +kernel
theorem dX5_takeFrom_81 : decode cX5_takeFrom 81 = .ok (.getfield 25, 3) := by decide +kernel
theorem dX5_takeFrom_84 : decode cX5_takeFrom 84 = .ok (.iconst 0, 1) := by decide +kernel
theorem dX5_takeFrom_85 : decode cX5_takeFrom 85 = .ok (.bipush 48, 2) := by decide +kernel
theorem dX5_takeFrom_87 : decode cX5_takeFrom 87 = .ok (.invokestatic 46, 3) := by decide +kernel
theorem dX5_takeFrom_90 : decode cX5_takeFrom 90 = .ok (.aload_n 1, 1) := by decide +kernel
theorem dX5_takeFrom_91 : decode cX5_takeFrom 91 = .ok (.getfield 28, 3) := by decide +kernel
theorem dX5_takeFrom_94 : decode cX5_takeFrom 94 = .ok (.iconst 0, 1) := by decide +kernel
theorem dX5_takeFrom_95 : decode cX5_takeFrom 95 = .ok (.aload_n 0, 1) := by decide +kernel
theorem dX5_takeFrom_96 : decode cX5_takeFrom 96 = .ok (.getfield 28, 3) := by decide +kernel
theorem dX5_takeFrom_99 : decode cX5_takeFrom 99 = .ok (.iconst 0, 1) := by decide +kernel
theorem dX5_takeFrom_100 : decode cX5_takeFrom 100 = .ok (.sipush 600, 3) := by decide +kernel
theorem dX5_takeFrom_103 : decode cX5_takeFrom 103 = .ok (.invokestatic 46, 3) := by decide +kernel
theorem dX5_takeFrom_106 : decode cX5_takeFrom 106 = .ok (.return_, 1) := by decide +kernel
theorem dX5_hasLetter_0 : decode cX5_hasLetter 0 = .ok (.iload_n 1, 1) := by decide +kernel
theorem dX5_hasLetter_1 : decode cX5_hasLetter 1 = .ok (.ifCond .lt 21, 3) := by decide +kernel
theorem dX5_hasLetter_4 : decode cX5_hasLetter 4 = .ok (.iload_n 1, 1) := by decide +kernel
theorem dX5_hasLetter_5 : decode cX5_hasLetter 5 = .ok (.aload_n 0, 1) := by decide +kernel
theorem dX5_hasLetter_6 : decode cX5_hasLetter 6 = .ok (.getfield 40, 3) := by decide +kernel
theorem dX5_hasLetter_9 : decode cX5_hasLetter 9 = .ok (.if_icmp .ge 13, 3) := by decide +kernel
theorem dX5_hasLetter_12 : decode cX5_hasLetter 12 = .ok (.iload_n 1, 1) := by decide +kernel
theorem dX5_hasLetter_13 : decode cX5_hasLetter 13 = .ok (.bipush 60, 2) := by decide +kernel
theorem dX5_hasLetter_15 : decode cX5_hasLetter 15 = .ok (.if_icmp .ge 7, 3) := by decide +kernel
theorem dX5_hasLetter_18 : decode cX5_hasLetter 18 = .ok (.iconst 1, 1) := by decide +kernel
theorem dX5_hasLetter_19 : decode cX5_hasLetter 19 = .ok (.goto 4, 3) := by decide +kernel
theorem dX5_hasLetter_22 : decode cX5_hasLetter 22 = .ok (.iconst 0, 1) := by decide +kernel
theorem dX5_hasLetter_23 : decode cX5_hasLetter 23 = .ok (.ireturn, 1) := by decide +kernel
theorem dX5_told_0 : decode cX5_told 0 = .ok (.aload_n 0, 1) := by decide +kernel
theorem dX5_told_1 : decode cX5_told 1 = .ok (.iload_n 1, 1) := by decide +kernel
theorem dX5_told_2 : decode cX5_told 2 = .ok (.invokevirtual 52, 3) := by decide +kernel
theorem dX5_told_5 : decode cX5_told 5 = .ok (.ifCond .eq 13, 3) := by decide +kernel
theorem dX5_told_8 : decode cX5_told 8 = .ok (.iload_n 2, 1) := by decide +kernel
theorem dX5_told_9 : decode cX5_told 9 = .ok (.ifCond .lt 9, 3) := by decide +kernel
theorem dX5_told_12 : decode cX5_told 12 = .ok (.iload_n 2, 1) := by decide +kernel
theorem dX5_told_13 : decode cX5_told 13 = .ok (.bipush 10, 2) := by decide +kernel
theorem dX5_told_15 : decode cX5_told 15 = .ok (.if_icmp .lt 6, 3) := by decide +kernel
theorem dX5_told_18 : decode cX5_told 18 = .ok (.bipush (-5), 2) := by decide +kernel
theorem dX5_told_20 : decode cX5_told 20 = .ok (.ireturn, 1) := by decide +kernel
theorem dX5_told_21 : decode cX5_told 21 = .ok (.aload_n 0, 1) := by decide +kernel
theorem dX5_told_22 : decode cX5_told 22 = .ok (.getfield 28, 3) := by decide +kernel
theorem dX5_told_25 : decode cX5_told 25 = .ok (.iload_n 1, 1) := by decide +kernel
theorem dX5_told_26 : decode cX5_told 26 = .ok (.bipush 10, 2) := by decide +kernel
theorem dX5_told_28 : decode cX5_told 28 = .ok (.imul, 1) := by decide +kernel
theorem dX5_told_29 : decode cX5_told 29 = .ok (.iload_n 2, 1) := by decide +kernel
theorem dX5_told_30 : decode cX5_told 30 = .ok (.iadd, 1) := by decide +kernel
theorem dX5_told_31 : decode cX5_told 31 = .ok (.iaload, 1) := by decide +kernel
theorem dX5_told_32 : decode cX5_told 32 = .ok (.ireturn, 1) := by decide +kernel
theorem dX5_mark_0 : decode cX5_mark 0 = .ok (.aload_n 0, 1) := by decide +kernel
theorem dX5_mark_1 : decode cX5_mark 1 = .ok (.iload_n 1, 1) := by decide +kernel
theorem dX5_mark_2 : decode cX5_mark 2 = .ok (.invokevirtual 52, 3) := by decide +kernel
theorem dX5_mark_5 : decode cX5_mark 5 = .ok (.ifCond .eq 25, 3) := by decide +kernel
theorem dX5_mark_8 : decode cX5_mark 8 = .ok (.iload_n 2, 1) := by decide +kernel
theorem dX5_mark_9 : decode cX5_mark 9 = .ok (.ifCond .lt 21, 3) := by decide +kernel
theorem dX5_mark_12 : decode cX5_mark 12 = .ok (.iload_n 2, 1) := by decide +kernel
theorem dX5_mark_13 : decode cX5_mark 13 = .ok (.bipush 10, 2) := by decide +kernel
theorem dX5_mark_15 : decode cX5_mark 15 = .ok (.if_icmp .ge 15, 3) := by decide +kernel
theorem dX5_mark_18 : decode cX5_mark 18 = .ok (.aload_n 0, 1) := by decide +kernel
theorem dX5_mark_19 : decode cX5_mark 19 = .ok (.getfield 28, 3) := by decide +kernel
theorem dX5_mark_22 : decode cX5_mark 22 = .ok (.iload_n 1, 1) := by decide +kernel
theorem dX5_mark_23 : decode cX5_mark 23 = .ok (.bipush 10, 2) := by decide +kernel
theorem dX5_mark_25 : decode cX5_mark 25 = .ok (.imul, 1) := by decide +kernel
theorem dX5_mark_26 : decode cX5_mark 26 = .ok (.iload_n 2, 1) := by decide +kernel
theorem dX5_mark_27 : decode cX5_mark 27 = .ok (.iadd, 1) := by decide +kernel
theorem dX5_mark_28 : decode cX5_mark 28 = .ok (.iload_n 3, 1) := by decide +kernel
theorem dX5_mark_29 : decode cX5_mark 29 = .ok (.iastore, 1) := by decide +kernel
theorem dX5_mark_30 : decode cX5_mark 30 = .ok (.return_, 1) := by decide +kernel
theorem dX5_addLetter_0 : decode cX5_addLetter 0 = .ok (.aload_n 0, 1) := by decide +kernel
theorem dX5_addLetter_1 : decode cX5_addLetter 1 = .ok (.getfield 40, 3) := by decide +kernel
theorem dX5_addLetter_4 : decode cX5_addLetter 4 = .ok (.bipush 60, 2) := by decide +kernel
theorem dX5_addLetter_6 : decode cX5_addLetter 6 = .ok (.if_icmp .lt 6, 3) := by decide +kernel
theorem dX5_addLetter_9 : decode cX5_addLetter 9 = .ok (.bipush (-3), 2) := by decide +kernel
theorem dX5_addLetter_11 : decode cX5_addLetter 11 = .ok (.ireturn, 1) := by decide +kernel
theorem dX5_addLetter_12 : decode cX5_addLetter 12 = .ok (.aload_n 0, 1) := by decide +kernel
theorem dX5_addLetter_13 : decode cX5_addLetter 13 = .ok (.getfield 40, 3) := by decide +kernel
theorem dX5_addLetter_16 : decode cX5_addLetter 16 = .ok (.istore 5, 2) := by decide +kernel
theorem dX5_addLetter_18 : decode cX5_addLetter 18 = .ok (.aload_n 0, 1) := by decide +kernel
theorem dX5_addLetter_19 : decode cX5_addLetter 19 = .ok (.dup, 1) := by decide +kernel
theorem dX5_addLetter_20 : decode cX5_addLetter 20 = .ok (.getfield 40, 3) := by decide +kernel
theorem dX5_addLetter_23 : decode cX5_addLetter 23 = .ok (.iconst 1, 1) := by decide +kernel
theorem dX5_addLetter_24 : decode cX5_addLetter 24 = .ok (.iadd, 1) := by decide +kernel
theorem dX5_addLetter_25 : decode cX5_addLetter 25 = .ok (.putfield 40, 3) := by decide +kernel
theorem dX5_addLetter_28 : decode cX5_addLetter 28 = .ok (.aload_n 0, 1) := by decide +kernel
end
section
theorem dX5_addLetter_29 : decode cX5_addLetter 29 = .ok (.iload 5, 2) := by decide +kernel
theorem dX5_addLetter_31 : decode cX5_addLetter 31 = .ok (.iconst 0, 1) := by decide +kernel
theorem dX5_addLetter_32 : decode cX5_addLetter 32 = .ok (.iload_n 1, 1) := by decide +kernel
theorem dX5_addLetter_33 : decode cX5_addLetter 33 = .ok (.invokevirtual 56, 3) := by decide +kernel
theorem dX5_addLetter_36 : decode cX5_addLetter 36 = .ok (.aload_n 0, 1) := by decide +kernel
theorem dX5_addLetter_37 : decode cX5_addLetter 37 = .ok (.iload 5, 2) := by decide +kernel
theorem dX5_addLetter_39 : decode cX5_addLetter 39 = .ok (.iconst 1, 1) := by decide +kernel
theorem dX5_addLetter_40 : decode cX5_addLetter 40 = .ok (.iload_n 2, 1) := by decide +kernel
theorem dX5_addLetter_41 : decode cX5_addLetter 41 = .ok (.invokevirtual 56, 3) := by decide +kernel
theorem dX5_addLetter_44 : decode cX5_addLetter 44 = .ok (.aload_n 0, 1) := by decide +kernel
theorem dX5_addLetter_45 : decode cX5_addLetter 45 = .ok (.iload 5, 2) := by decide +kernel
theorem dX5_addLetter_47 : decode cX5_addLetter 47 = .ok (.iconst 2, 1) := by decide +kernel
theorem dX5_addLetter_48 : decode cX5_addLetter 48 = .ok (.iload_n 3, 1) := by decide +kernel
theorem dX5_addLetter_49 : decode cX5_addLetter 49 = .ok (.invokevirtual 56, 3) := by decide +kernel
theorem dX5_addLetter_52 : decode cX5_addLetter 52 = .ok (.aload_n 0, 1) := by decide +kernel
theorem dX5_addLetter_53 : decode cX5_addLetter 53 = .ok (.iload 5, 2) := by decide +kernel
theorem dX5_addLetter_55 : decode cX5_addLetter 55 = .ok (.iconst 3, 1) := by decide +kernel
theorem dX5_addLetter_56 : decode cX5_addLetter 56 = .ok (.iload 4, 2) := by decide +kernel
theorem dX5_addLetter_58 : decode cX5_addLetter 58 = .ok (.invokevirtual 56, 3) := by decide +kernel
theorem dX5_addLetter_61 : decode cX5_addLetter 61 = .ok (.aload_n 0, 1) := by decide +kernel
theorem dX5_addLetter_62 : decode cX5_addLetter 62 = .ok (.iload 5, 2) := by decide +kernel
theorem dX5_addLetter_64 : decode cX5_addLetter 64 = .ok (.iconst 4, 1) := by decide +kernel
theorem dX5_addLetter_65 : decode cX5_addLetter 65 = .ok (.aload_n 0, 1) := by decide +kernel
theorem dX5_addLetter_66 : decode cX5_addLetter 66 = .ok (.getfield 37, 3) := by decide +kernel
theorem dX5_addLetter_69 : decode cX5_addLetter 69 = .ok (.invokevirtual 56, 3) := by decide +kernel
theorem dX5_addLetter_72 : decode cX5_addLetter 72 = .ok (.aload_n 0, 1) := by decide +kernel
theorem dX5_addLetter_73 : decode cX5_addLetter 73 = .ok (.iload 5, 2) := by decide +kernel
theorem dX5_addLetter_75 : decode cX5_addLetter 75 = .ok (.iconst 5, 1) := by decide +kernel
theorem dX5_addLetter_76 : decode cX5_addLetter 76 = .ok (.aload_n 0, 1) := by decide +kernel
theorem dX5_addLetter_77 : decode cX5_addLetter 77 = .ok (.getfield 37, 3) := by decide +kernel
theorem dX5_addLetter_80 : decode cX5_addLetter 80 = .ok (.aload_n 0, 1) := by decide +kernel
theorem dX5_addLetter_81 : decode cX5_addLetter 81 = .ok (.getfield 15, 3) := by decide +kernel
theorem dX5_addLetter_84 : decode cX5_addLetter 84 = .ok (.iconst 0, 1) := by decide +kernel
theorem dX5_addLetter_85 : decode cX5_addLetter 85 = .ok (.iaload, 1) := by decide +kernel
theorem dX5_addLetter_86 : decode cX5_addLetter 86 = .ok (.iadd, 1) := by decide +kernel
theorem dX5_addLetter_87 : decode cX5_addLetter 87 = .ok (.invokevirtual 56, 3) := by decide +kernel
theorem dX5_addLetter_90 : decode cX5_addLetter 90 = .ok (.aload_n 0, 1) := by decide +kernel
theorem dX5_addLetter_91 : decode cX5_addLetter 91 = .ok (.iload 5, 2) := by decide +kernel
theorem dX5_addLetter_93 : decode cX5_addLetter 93 = .ok (.bipush 6, 2) := by decide +kernel
theorem dX5_addLetter_95 : decode cX5_addLetter 95 = .ok (.iconst 0, 1) := by decide +kernel
theorem dX5_addLetter_96 : decode cX5_addLetter 96 = .ok (.invokevirtual 56, 3) := by decide +kernel
theorem dX5_addLetter_99 : decode cX5_addLetter 99 = .ok (.aload_n 0, 1) := by decide +kernel
theorem dX5_addLetter_100 : decode cX5_addLetter 100 = .ok (.iload 5, 2) := by decide +kernel
theorem dX5_addLetter_102 : decode cX5_addLetter 102 = .ok (.bipush 7, 2) := by decide +kernel
theorem dX5_addLetter_104 : decode cX5_addLetter 104 = .ok (.iconst 0, 1) := by decide +kernel
theorem dX5_addLetter_105 : decode cX5_addLetter 105 = .ok (.invokevirtual 56, 3) := by decide +kernel
theorem dX5_addLetter_108 : decode cX5_addLetter 108 = .ok (.aload_n 0, 1) := by decide +kernel
theorem dX5_addLetter_109 : decode cX5_addLetter 109 = .ok (.iload 5, 2) := by decide +kernel
theorem dX5_addLetter_111 : decode cX5_addLetter 111 = .ok (.bipush 8, 2) := by decide +kernel
theorem dX5_addLetter_113 : decode cX5_addLetter 113 = .ok (.bipush (-5), 2) := by decide +kernel
theorem dX5_addLetter_115 : decode cX5_addLetter 115 = .ok (.invokevirtual 56, 3) := by decide +kernel
theorem dX5_addLetter_118 : decode cX5_addLetter 118 = .ok (.aload_n 0, 1) := by decide +kernel
theorem dX5_addLetter_119 : decode cX5_addLetter 119 = .ok (.iload 5, 2) := by decide +kernel
theorem dX5_addLetter_121 : decode cX5_addLetter 121 = .ok (.bipush 9, 2) := by decide +kernel
theorem dX5_addLetter_123 : decode cX5_addLetter 123 = .ok (.bipush (-5), 2) := by decide +kernel
theorem dX5_addLetter_125 : decode cX5_addLetter 125 = .ok (.invokevirtual 56, 3) := by decide +kernel
theorem dX5_addLetter_128 : decode cX5_addLetter 128 = .ok (.iload 5, 2) := by decide +kernel
theorem dX5_addLetter_130 : decode cX5_addLetter 130 = .ok (.ireturn, 1) := by decide +kernel
theorem dX5_soonest_0 : decode cX5_soonest 0 = .ok (.bipush (-5), 2) := by decide +kernel
theorem dX5_soonest_2 : decode cX5_soonest 2 = .ok (.istore_n 1, 1) := by decide +kernel
theorem dX5_soonest_3 : decode cX5_soonest 3 = .ok (.iconst 0, 1) := by decide +kernel
theorem dX5_soonest_4 : decode cX5_soonest 4 = .ok (.istore_n 2, 1) := by decide +kernel
theorem dX5_soonest_5 : decode cX5_soonest 5 = .ok (.iload_n 2, 1) := by decide +kernel
theorem dX5_soonest_6 : decode cX5_soonest 6 = .ok (.aload_n 0, 1) := by decide +kernel
theorem dX5_soonest_7 : decode cX5_soonest 7 = .ok (.getfield 40, 3) := by decide +kernel
theorem dX5_soonest_10 : decode cX5_soonest 10 = .ok (.if_icmp .ge 45, 3) := by decide +kernel
theorem dX5_soonest_13 : decode cX5_soonest 13 = .ok (.aload_n 0, 1) := by decide +kernel
theorem dX5_soonest_14 : decode cX5_soonest 14 = .ok (.iload_n 2, 1) := by decide +kernel
theorem dX5_soonest_15 : decode cX5_soonest 15 = .ok (.bipush 6, 2) := by decide +kernel
theorem dX5_soonest_17 : decode cX5_soonest 17 = .ok (.invokevirtual 60, 3) := by decide +kernel
theorem dX5_soonest_20 : decode cX5_soonest 20 = .ok (.ifCond .eq 6, 3) := by decide +kernel
theorem dX5_soonest_23 : decode cX5_soonest 23 = .ok (.goto 26, 3) := by decide +kernel
theorem dX5_soonest_26 : decode cX5_soonest 26 = .ok (.iload_n 1, 1) := by decide +kernel
theorem dX5_soonest_27 : decode cX5_soonest 27 = .ok (.bipush (-5), 2) := by decide +kernel
theorem dX5_soonest_29 : decode cX5_soonest 29 = .ok (.if_icmp .eq 18, 3) := by decide +kernel
theorem dX5_soonest_32 : decode cX5_soonest 32 = .ok (.aload_n 0, 1) := by decide +kernel
theorem dX5_soonest_33 : decode cX5_soonest 33 = .ok (.iload_n 2, 1) := by decide +kernel
theorem dX5_soonest_34 : decode cX5_soonest 34 = .ok (.iconst 5, 1) := by decide +kernel
theorem dX5_soonest_35 : decode cX5_soonest 35 = .ok (.invokevirtual 60, 3) := by decide +kernel
theorem dX5_soonest_38 : decode cX5_soonest 38 = .ok (.aload_n 0, 1) := by decide +kernel
theorem dX5_soonest_39 : decode cX5_soonest 39 = .ok (.iload_n 1, 1) := by decide +kernel
theorem dX5_soonest_40 : decode cX5_soonest 40 = .ok (.iconst 5, 1) := by decide +kernel
theorem dX5_soonest_41 : decode cX5_soonest 41 = .ok (.invokevirtual 60, 3) := by decide +kernel
theorem dX5_soonest_44 : decode cX5_soonest 44 = .ok (.if_icmp .ge 5, 3) := by decide +kernel
theorem dX5_soonest_47 : decode cX5_soonest 47 = .ok (.iload_n 2, 1) := by decide +kernel
theorem dX5_soonest_48 : decode cX5_soonest 48 = .ok (.istore_n 1, 1) := by decide +kernel
theorem dX5_soonest_49 : decode cX5_soonest 49 = .ok (.iinc 2 1, 3) := by decide +kernel
theorem dX5_soonest_52 : decode cX5_soonest 52 = .ok (.goto (-47), 3) := by decide +kernel
theorem dX5_soonest_55 : decode cX5_soonest 55 = .ok (.iload_n 1, 1) := by decide +kernel
theorem dX5_soonest_56 : decode cX5_soonest 56 = .ok (.ireturn, 1) := by decide +kernel
theorem dX5_haveCrossed_0 : decode cX5_haveCrossed 0 = .ok (.aload_n 0, 1) := by decide +kernel
theorem dX5_haveCrossed_1 : decode cX5_haveCrossed 1 = .ok (.iload_n 1, 1) := by decide +kernel
theorem dX5_haveCrossed_2 : decode cX5_haveCrossed 2 = .ok (.iconst 0, 1) := by decide +kernel
theorem dX5_haveCrossed_3 : decode cX5_haveCrossed 3 = .ok (.invokevirtual 60, 3) := by decide +kernel
theorem dX5_haveCrossed_6 : decode cX5_haveCrossed 6 = .ok (.aload_n 0, 1) := by decide +kernel
theorem dX5_haveCrossed_7 : decode cX5_haveCrossed 7 = .ok (.iload_n 2, 1) := by decide +kernel
theorem dX5_haveCrossed_8 : decode cX5_haveCrossed 8 = .ok (.iconst 0, 1) := by decide +kernel
theorem dX5_haveCrossed_9 : decode cX5_haveCrossed 9 = .ok (.invokevirtual 60, 3) := by decide +kernel
theorem dX5_haveCrossed_12 : decode cX5_haveCrossed 12 = .ok (.if_icmp .ne 5, 3) := by decide +kernel
theorem dX5_haveCrossed_15 : decode cX5_haveCrossed 15 = .ok (.iconst 0, 1) := by decide +kernel
theorem dX5_haveCrossed_16 : decode cX5_haveCrossed 16 = .ok (.ireturn, 1) := by decide +kernel
theorem dX5_haveCrossed_17 : decode cX5_haveCrossed 17 = .ok (.aload_n 0, 1) := by decide +kernel
theorem dX5_haveCrossed_18 : decode cX5_haveCrossed 18 = .ok (.iload_n 1, 1) := by decide +kernel
theorem dX5_haveCrossed_19 : decode cX5_haveCrossed 19 = .ok (.bipush 6, 2) := by decide +kernel
theorem dX5_haveCrossed_21 : decode cX5_haveCrossed 21 = .ok (.invokevirtual 60, 3) := by decide +kernel
theorem dX5_haveCrossed_24 : decode cX5_haveCrossed 24 = .ok (.iconst 3, 1) := by decide +kernel
theorem dX5_haveCrossed_25 : decode cX5_haveCrossed 25 = .ok (.if_icmp .eq 14, 3) := by decide +kernel
theorem dX5_haveCrossed_28 : decode cX5_haveCrossed 28 = .ok (.aload_n 0, 1) := by decide +kernel
theorem dX5_haveCrossed_29 : decode cX5_haveCrossed 29 = .ok (.iload_n 2, 1) := by decide +kernel
theorem dX5_haveCrossed_30 : decode cX5_haveCrossed 30 = .ok (.bipush 6, 2) := by decide +kernel
theorem dX5_haveCrossed_32 : decode cX5_haveCrossed 32 = .ok (.invokevirtual 60, 3) := by decide +kernel
theorem dX5_haveCrossed_35 : decode cX5_haveCrossed 35 = .ok (.iconst 3, 1) := by decide +kernel
theorem dX5_haveCrossed_36 : decode cX5_haveCrossed 36 = .ok (.if_icmp .ne 5, 3) := by decide +kernel
theorem dX5_haveCrossed_39 : decode cX5_haveCrossed 39 = .ok (.iconst 0, 1) := by decide +kernel
theorem dX5_haveCrossed_40 : decode cX5_haveCrossed 40 = .ok (.ireturn, 1) := by decide +kernel
theorem dX5_haveCrossed_41 : decode cX5_haveCrossed 41 = .ok (.aload_n 0, 1) := by decide +kernel
theorem dX5_haveCrossed_42 : decode cX5_haveCrossed 42 = .ok (.iload_n 1, 1) := by decide +kernel
theorem dX5_haveCrossed_43 : decode cX5_haveCrossed 43 = .ok (.iconst 4, 1) := by decide +kernel
theorem dX5_haveCrossed_44 : decode cX5_haveCrossed 44 = .ok (.invokevirtual 60, 3) := by decide +kernel
theorem dX5_haveCrossed_47 : decode cX5_haveCrossed 47 = .ok (.aload_n 0, 1) := by decide +kernel
theorem dX5_haveCrossed_48 : decode cX5_haveCrossed 48 = .ok (.iload_n 2, 1) := by decide +kernel
theorem dX5_haveCrossed_49 : decode cX5_haveCrossed 49 = .ok (.iconst 5, 1) := by decide +kernel
theorem dX5_haveCrossed_50 : decode cX5_haveCrossed 50 = .ok (.invokevirtual 60, 3) := by decide +kernel
theorem dX5_haveCrossed_53 : decode cX5_haveCrossed 53 = .ok (.if_icmp .ge 22, 3) := by decide +kernel
theorem dX5_haveCrossed_56 : decode cX5_haveCrossed 56 = .ok (.aload_n 0, 1) := by decide +kernel
theorem dX5_haveCrossed_57 : decode cX5_haveCrossed 57 = .ok (.iload_n 2, 1) := by decide +kernel
theorem dX5_haveCrossed_58 : decode cX5_haveCrossed 58 = .ok (.iconst 4, 1) := by decide +kernel
theorem dX5_haveCrossed_59 : decode cX5_haveCrossed 59 = .ok (.invokevirtual 60, 3) := by decide +kernel
theorem dX5_haveCrossed_62 : decode cX5_haveCrossed 62 = .ok (.aload_n 0, 1) := by decide +kernel
theorem dX5_haveCrossed_63 : decode cX5_haveCrossed 63 = .ok (.iload_n 1, 1) := by decide +kernel
theorem dX5_haveCrossed_64 : decode cX5_haveCrossed 64 = .ok (.iconst 5, 1) := by decide +kernel
theorem dX5_haveCrossed_65 : decode cX5_haveCrossed 65 = .ok (.invokevirtual 60, 3) := by decide +kernel
theorem dX5_haveCrossed_68 : decode cX5_haveCrossed 68 = .ok (.if_icmp .ge 7, 3) := by decide +kernel
theorem dX5_haveCrossed_71 : decode cX5_haveCrossed 71 = .ok (.iconst 1, 1) := by decide +kernel
theorem dX5_haveCrossed_72 : decode cX5_haveCrossed 72 = .ok (.goto 4, 3) := by decide +kernel
theorem dX5_haveCrossed_75 : decode cX5_haveCrossed 75 = .ok (.iconst 0, 1) := by decide +kernel
theorem dX5_haveCrossed_76 : decode cX5_haveCrossed 76 = .ok (.ireturn, 1) := by decide +kernel
theorem dX5_enterTurn_0 : decode cX5_enterTurn 0 = .ok (.aload_n 0, 1) := by decide +kernel
theorem dX5_enterTurn_1 : decode cX5_enterTurn 1 = .ok (.getfield 9, 3) := by decide +kernel
theorem dX5_enterTurn_4 : decode cX5_enterTurn 4 = .ok (.istore_n 2, 1) := by decide +kernel
theorem dX5_enterTurn_5 : decode cX5_enterTurn 5 = .ok (.iload_n 2, 1) := by decide +kernel
theorem dX5_enterTurn_6 : decode cX5_enterTurn 6 = .ok (.bipush (-5), 2) := by decide +kernel
theorem dX5_enterTurn_8 : decode cX5_enterTurn 8 = .ok (.if_icmp .eq 37, 3) := by decide +kernel
theorem dX5_enterTurn_11 : decode cX5_enterTurn 11 = .ok (.aload_n 0, 1) := by decide +kernel
theorem dX5_enterTurn_12 : decode cX5_enterTurn 12 = .ok (.iload_n 2, 1) := by decide +kernel
theorem dX5_enterTurn_13 : decode cX5_enterTurn 13 = .ok (.iload_n 1, 1) := by decide +kernel
theorem dX5_enterTurn_14 : decode cX5_enterTurn 14 = .ok (.invokevirtual 64, 3) := by decide +kernel
theorem dX5_enterTurn_17 : decode cX5_enterTurn 17 = .ok (.ifCond .eq 28, 3) := by decide +kernel
theorem dX5_enterTurn_20 : decode cX5_enterTurn 20 = .ok (.aload_n 0, 1) := by decide +kernel
theorem dX5_enterTurn_21 : decode cX5_enterTurn 21 = .ok (.iload_n 2, 1) := by decide +kernel
theorem dX5_enterTurn_22 : decode cX5_enterTurn 22 = .ok (.bipush 9, 2) := by decide +kernel
theorem dX5_enterTurn_24 : decode cX5_enterTurn 24 = .ok (.iload_n 1, 1) := by decide +kernel
theorem dX5_enterTurn_25 : decode cX5_enterTurn 25 = .ok (.invokevirtual 56, 3) := by decide +kernel
theorem dX5_enterTurn_28 : decode cX5_enterTurn 28 = .ok (.aload_n 0, 1) := by decide +kernel
theorem dX5_enterTurn_29 : decode cX5_enterTurn 29 = .ok (.iload_n 1, 1) := by decide +kernel
theorem dX5_enterTurn_30 : decode cX5_enterTurn 30 = .ok (.bipush 9, 2) := by decide +kernel
theorem dX5_enterTurn_32 : decode cX5_enterTurn 32 = .ok (.iload_n 2, 1) := by decide +kernel
theorem dX5_enterTurn_33 : decode cX5_enterTurn 33 = .ok (.invokevirtual 56, 3) := by decide +kernel
theorem dX5_enterTurn_36 : decode cX5_enterTurn 36 = .ok (.aload_n 0, 1) := by decide +kernel
theorem dX5_enterTurn_37 : decode cX5_enterTurn 37 = .ok (.bipush (-5), 2) := by decide +kernel
theorem dX5_enterTurn_39 : decode cX5_enterTurn 39 = .ok (.putfield 9, 3) := by decide +kernel
theorem dX5_enterTurn_42 : decode cX5_enterTurn 42 = .ok (.goto 21, 3) := by decide +kernel
theorem dX5_enterTurn_45 : decode cX5_enterTurn 45 = .ok (.bipush (-5), 2) := by decide +kernel
theorem dX5_enterTurn_47 : decode cX5_enterTurn 47 = .ok (.istore_n 2, 1) := by decide +kernel
theorem dX5_enterTurn_48 : decode cX5_enterTurn 48 = .ok (.aload_n 0, 1) := by decide +kernel
theorem dX5_enterTurn_49 : decode cX5_enterTurn 49 = .ok (.dup, 1) := by decide +kernel
theorem dX5_enterTurn_50 : decode cX5_enterTurn 50 = .ok (.getfield 43, 3) := by decide +kernel
theorem dX5_enterTurn_53 : decode cX5_enterTurn 53 = .ok (.iconst 1, 1) := by decide +kernel
theorem dX5_enterTurn_54 : decode cX5_enterTurn 54 = .ok (.iadd, 1) := by decide +kernel
theorem dX5_enterTurn_55 : decode cX5_enterTurn 55 = .ok (.putfield 43, 3) := by decide +kernel
theorem dX5_enterTurn_58 : decode cX5_enterTurn 58 = .ok (.aload_n 0, 1) := by decide +kernel
theorem dX5_enterTurn_59 : decode cX5_enterTurn 59 = .ok (.iload_n 1, 1) := by decide +kernel
theorem dX5_enterTurn_60 : decode cX5_enterTurn 60 = .ok (.putfield 9, 3) := by decide +kernel
theorem dX5_enterTurn_63 : decode cX5_enterTurn 63 = .ok (.aload_n 0, 1) := by decide +kernel
theorem dX5_enterTurn_64 : decode cX5_enterTurn 64 = .ok (.iload_n 1, 1) := by decide +kernel
theorem dX5_enterTurn_65 : decode cX5_enterTurn 65 = .ok (.bipush 8, 2) := by decide +kernel
theorem dX5_enterTurn_67 : decode cX5_enterTurn 67 = .ok (.aload_n 0, 1) := by decide +kernel
theorem dX5_enterTurn_68 : decode cX5_enterTurn 68 = .ok (.getfield 43, 3) := by decide +kernel
theorem dX5_enterTurn_71 : decode cX5_enterTurn 71 = .ok (.invokevirtual 56, 3) := by decide +kernel
theorem dX5_enterTurn_74 : decode cX5_enterTurn 74 = .ok (.iload_n 2, 1) := by decide +kernel
theorem dX5_enterTurn_75 : decode cX5_enterTurn 75 = .ok (.ireturn, 1) := by decide +kernel
theorem dX5_wasDone_0 : decode cX5_wasDone 0 = .ok (.aload_n 0, 1) := by decide +kernel
theorem dX5_wasDone_1 : decode cX5_wasDone 1 = .ok (.iload_n 1, 1) := by decide +kernel
theorem dX5_wasDone_2 : decode cX5_wasDone 2 = .ok (.bipush 6, 2) := by decide +kernel
theorem dX5_wasDone_4 : decode cX5_wasDone 4 = .ok (.invokevirtual 60, 3) := by decide +kernel
theorem dX5_wasDone_7 : decode cX5_wasDone 7 = .ok (.iconst 1, 1) := by decide +kernel
theorem dX5_wasDone_8 : decode cX5_wasDone 8 = .ok (.if_icmp .ne 17, 3) := by decide +kernel
theorem dX5_wasDone_11 : decode cX5_wasDone 11 = .ok (.aload_n 0, 1) := by decide +kernel
theorem dX5_wasDone_12 : decode cX5_wasDone 12 = .ok (.iload_n 1, 1) := by decide +kernel
theorem dX5_wasDone_13 : decode cX5_wasDone 13 = .ok (.iconst 1, 1) := by decide +kernel
theorem dX5_wasDone_14 : decode cX5_wasDone 14 = .ok (.invokevirtual 60, 3) := by decide +kernel
theorem dX5_wasDone_17 : decode cX5_wasDone 17 = .ok (.iload_n 2, 1) := by decide +kernel
theorem dX5_wasDone_18 : decode cX5_wasDone 18 = .ok (.if_icmp .ne 7, 3) := by decide +kernel
theorem dX5_wasDone_21 : decode cX5_wasDone 21 = .ok (.iconst 1, 1) := by decide +kernel
theorem dX5_wasDone_22 : decode cX5_wasDone 22 = .ok (.goto 4, 3) := by decide +kernel
theorem dX5_wasDone_25 : decode cX5_wasDone 25 = .ok (.iconst 0, 1) := by decide +kernel
theorem dX5_wasDone_26 : decode cX5_wasDone 26 = .ok (.ireturn, 1) := by decide +kernel
theorem dX5_onEdge_0 : decode cX5_onEdge 0 = .ok (.iload_n 1, 1) := by decide +kernel
theorem dX5_onEdge_1 : decode cX5_onEdge 1 = .ok (.invokestatic 68, 3) := by decide +kernel
theorem dX5_onEdge_4 : decode cX5_onEdge 4 = .ok (.ifCond .eq 12, 3) := by decide +kernel
theorem dX5_onEdge_7 : decode cX5_onEdge 7 = .ok (.aload_n 0, 1) := by decide +kernel
theorem dX5_onEdge_8 : decode cX5_onEdge 8 = .ok (.getfield 22, 3) := by decide +kernel
theorem dX5_onEdge_11 : decode cX5_onEdge 11 = .ok (.iload_n 1, 1) := by decide +kernel
theorem dX5_onEdge_12 : decode cX5_onEdge 12 = .ok (.iaload, 1) := by decide +kernel
theorem dX5_onEdge_13 : decode cX5_onEdge 13 = .ok (.goto 4, 3) := by decide +kernel
theorem dX5_onEdge_16 : decode cX5_onEdge 16 = .ok (.iconst 0, 1) := by decide +kernel
theorem dX5_onEdge_17 : decode cX5_onEdge 17 = .ok (.ireturn, 1) := by decide +kernel
theorem dX5_putOnEdge_0 : decode cX5_putOnEdge 0 = .ok (.iload_n 1, 1) := by decide +kernel
theorem dX5_putOnEdge_1 : decode cX5_putOnEdge 1 = .ok (.invokestatic 68, 3) := by decide +kernel
theorem dX5_putOnEdge_4 : decode cX5_putOnEdge 4 = .ok (.ifCond .eq 10, 3) := by decide +kernel
theorem dX5_putOnEdge_7 : decode cX5_putOnEdge 7 = .ok (.aload_n 0, 1) := by decide +kernel
theorem dX5_putOnEdge_8 : decode cX5_putOnEdge 8 = .ok (.getfield 22, 3) := by decide +kernel
theorem dX5_putOnEdge_11 : decode cX5_putOnEdge 11 = .ok (.iload_n 1, 1) := by decide +kernel
theorem dX5_putOnEdge_12 : decode cX5_putOnEdge 12 = .ok (.iload_n 2, 1) := by decide +kernel
theorem dX5_putOnEdge_13 : decode cX5_putOnEdge 13 = .ok (.iastore, 1) := by decide +kernel
theorem dX5_putOnEdge_14 : decode cX5_putOnEdge 14 = .ok (.return_, 1) := by decide +kernel
theorem dX5_takerOf_0 : decode cX5_takerOf 0 = .ok (.iload_n 1, 1) := by decide +kernel
theorem dX5_takerOf_1 : decode cX5_takerOf 1 = .ok (.invokestatic 71, 3) := by decide +kernel
theorem dX5_takerOf_4 : decode cX5_takerOf 4 = .ok (.ifCond .eq 12, 3) := by decide +kernel
theorem dX5_takerOf_7 : decode cX5_takerOf 7 = .ok (.aload_n 0, 1) := by decide +kernel
theorem dX5_takerOf_8 : decode cX5_takerOf 8 = .ok (.getfield 25, 3) := by decide +kernel
theorem dX5_takerOf_11 : decode cX5_takerOf 11 = .ok (.iload_n 1, 1) := by decide +kernel
theorem dX5_takerOf_12 : decode cX5_takerOf 12 = .ok (.iaload, 1) := by decide +kernel
theorem dX5_takerOf_13 : decode cX5_takerOf 13 = .ok (.goto 5, 3) := by decide +kernel
theorem dX5_takerOf_16 : decode cX5_takerOf 16 = .ok (.bipush (-5), 2) := by decide +kernel
theorem dX5_takerOf_18 : decode cX5_takerOf 18 = .ok (.ireturn, 1) := by decide +kernel
theorem dX5_ownerOf_0 : decode cX5_ownerOf 0 = .ok (.aload_n 0, 1) := by decide +kernel
theorem dX5_ownerOf_1 : decode cX5_ownerOf 1 = .ok (.aload_n 0, 1) := by decide +kernel
theorem dX5_ownerOf_2 : decode cX5_ownerOf 2 = .ok (.iload_n 1, 1) := by decide +kernel
theorem dX5_ownerOf_3 : decode cX5_ownerOf 3 = .ok (.invokevirtual 74, 3) := by decide +kernel
theorem dX5_ownerOf_6 : decode cX5_ownerOf 6 = .ok (.iconst 0, 1) := by decide +kernel
theorem dX5_ownerOf_7 : decode cX5_ownerOf 7 = .ok (.invokevirtual 60, 3) := by decide +kernel
theorem dX5_ownerOf_10 : decode cX5_ownerOf 10 = .ok (.ireturn, 1) := by decide +kernel
theorem dX5_giveBackFieldsOf_0 : decode cX5_giveBackFieldsOf 0 = .ok (.iconst 0, 1) := by decide +kernel
theorem dX5_giveBackFieldsOf_1 : decode cX5_giveBackFieldsOf 1 = .ok (.istore_n 2, 1) := by decide +kernel
theorem dX5_giveBackFieldsOf_2 : decode cX5_giveBackFieldsOf 2 = .ok (.iload_n 2, 1) := by decide +kernel
theorem dX5_giveBackFieldsOf_3 : decode cX5_giveBackFieldsOf 3 = .ok (.bipush 48, 2) := by decide +kernel
theorem dX5_giveBackFieldsOf_5 : decode cX5_giveBackFieldsOf 5 = .ok (.if_icmp .ge 27, 3) := by decide +kernel
theorem dX5_giveBackFieldsOf_8 : decode cX5_giveBackFieldsOf 8 = .ok (.aload_n 0, 1) := by decide +kernel
theorem dX5_giveBackFieldsOf_9 : decode cX5_giveBackFieldsOf 9 = .ok (.getfield 25, 3) := by decide +kernel
theorem dX5_giveBackFieldsOf_12 : decode cX5_giveBackFieldsOf 12 = .ok (.iload_n 2, 1) := by decide +kernel
theorem dX5_giveBackFieldsOf_13 : decode cX5_giveBackFieldsOf 13 = .ok (.iaload, 1) := by decide +kernel
theorem dX5_giveBackFieldsOf_14 : decode cX5_giveBackFieldsOf 14 = .ok (.iload_n 1, 1) := by decide +kernel
theorem dX5_giveBackFieldsOf_15 : decode cX5_giveBackFieldsOf 15 = .ok (.if_icmp .ne 11, 3) := by decide +kernel
theorem dX5_giveBackFieldsOf_18 : decode cX5_giveBackFieldsOf 18 = .ok (.aload_n 0, 1) := by decide +kernel
theorem dX5_giveBackFieldsOf_19 : decode cX5_giveBackFieldsOf 19 = .ok (.getfield 25, 3) := by decide +kernel
theorem dX5_giveBackFieldsOf_22 : decode cX5_giveBackFieldsOf 22 = .ok (.iload_n 2, 1) := by decide +kernel
theorem dX5_giveBackFieldsOf_23 : decode cX5_giveBackFieldsOf 23 = .ok (.bipush (-5), 2) := by decide +kernel
theorem dX5_giveBackFieldsOf_25 : decode cX5_giveBackFieldsOf 25 = .ok (.iastore, 1) := by decide +kernel
theorem dX5_giveBackFieldsOf_26 : decode cX5_giveBackFieldsOf 26 = .ok (.iinc 2 1, 3) := by decide +kernel
theorem dX5_giveBackFieldsOf_29 : decode cX5_giveBackFieldsOf 29 = .ok (.goto (-27), 3) := by decide +kernel
theorem dX5_giveBackFieldsOf_32 : decode cX5_giveBackFieldsOf 32 = .ok (.return_, 1) := by decide +kernel
theorem dX5_hasTruce_0 : decode cX5_hasTruce 0 = .ok (.aload_n 0, 1) := by decide +kernel
theorem dX5_hasTruce_1 : decode cX5_hasTruce 1 = .ok (.getfield 37, 3) := by decide +kernel
theorem dX5_hasTruce_4 : decode cX5_hasTruce 4 = .ok (.aload_n 0, 1) := by decide +kernel
theorem dX5_hasTruce_5 : decode cX5_hasTruce 5 = .ok (.getfield 19, 3) := by decide +kernel
theorem dX5_hasTruce_8 : decode cX5_hasTruce 8 = .ok (.iconst 0, 1) := by decide +kernel
theorem dX5_hasTruce_9 : decode cX5_hasTruce 9 = .ok (.iaload, 1) := by decide +kernel
theorem dX5_hasTruce_10 : decode cX5_hasTruce 10 = .ok (.if_icmp .ge 20, 3) := by decide +kernel
theorem dX5_hasTruce_13 : decode cX5_hasTruce 13 = .ok (.aload_n 0, 1) := by decide +kernel
theorem dX5_hasTruce_14 : decode cX5_hasTruce 14 = .ok (.getfield 37, 3) := by decide +kernel
theorem dX5_hasTruce_17 : decode cX5_hasTruce 17 = .ok (.aload_n 0, 1) := by decide +kernel
theorem dX5_hasTruce_18 : decode cX5_hasTruce 18 = .ok (.getfield 19, 3) := by decide +kernel
theorem dX5_hasTruce_21 : decode cX5_hasTruce 21 = .ok (.iconst 1, 1) := by decide +kernel
theorem dX5_hasTruce_22 : decode cX5_hasTruce 22 = .ok (.iaload, 1) := by decide +kernel
theorem dX5_hasTruce_23 : decode cX5_hasTruce 23 = .ok (.if_icmp .ge 7, 3) := by decide +kernel
theorem dX5_hasTruce_26 : decode cX5_hasTruce 26 = .ok (.iconst 1, 1) := by decide +kernel
theorem dX5_hasTruce_27 : decode cX5_hasTruce 27 = .ok (.goto 4, 3) := by decide +kernel
theorem dX5_hasTruce_30 : decode cX5_hasTruce 30 = .ok (.iconst 0, 1) := by decide +kernel
theorem dX5_hasTruce_31 : decode cX5_hasTruce 31 = .ok (.ireturn, 1) := by decide +kernel
theorem dX5_lettersThatAre_0 : decode cX5_lettersThatAre 0 = .ok (.iconst 0, 1) := by decide +kernel
theorem dX5_lettersThatAre_1 : decode cX5_lettersThatAre 1 = .ok (.istore_n 2, 1) := by decide +kernel
theorem dX5_lettersThatAre_2 : decode cX5_lettersThatAre 2 = .ok (.iconst 0, 1) := by decide +kernel
theorem dX5_lettersThatAre_3 : decode cX5_lettersThatAre 3 = .ok (.istore_n 3, 1) := by decide +kernel
theorem dX5_lettersThatAre_4 : decode cX5_lettersThatAre 4 = .ok (.iload_n 3, 1) := by decide +kernel
theorem dX5_lettersThatAre_5 : decode cX5_lettersThatAre 5 = .ok (.aload_n 0, 1) := by decide +kernel
theorem dX5_lettersThatAre_6 : decode cX5_lettersThatAre 6 = .ok (.getfield 40, 3) := by decide +kernel
theorem dX5_lettersThatAre_9 : decode cX5_lettersThatAre 9 = .ok (.if_icmp .ge 23, 3) := by decide +kernel
theorem dX5_lettersThatAre_12 : decode cX5_lettersThatAre 12 = .ok (.aload_n 0, 1) := by decide +kernel
theorem dX5_lettersThatAre_13 : decode cX5_lettersThatAre 13 = .ok (.iload_n 3, 1) := by decide +kernel
theorem dX5_lettersThatAre_14 : decode cX5_lettersThatAre 14 = .ok (.bipush 6, 2) := by decide +kernel
theorem dX5_lettersThatAre_16 : decode cX5_lettersThatAre 16 = .ok (.invokevirtual 60, 3) := by decide +kernel
theorem dX5_lettersThatAre_19 : decode cX5_lettersThatAre 19 = .ok (.iload_n 1, 1) := by decide +kernel
theorem dX5_lettersThatAre_20 : decode cX5_lettersThatAre 20 = .ok (.if_icmp .ne 6, 3) := by decide +kernel
theorem dX5_lettersThatAre_23 : decode cX5_lettersThatAre 23 = .ok (.iinc 2 1, 3) := by decide +kernel
theorem dX5_lettersThatAre_26 : decode cX5_lettersThatAre 26 = .ok (.iinc 3 1, 3) := by decide +kernel
theorem dX5_lettersThatAre_29 : decode cX5_lettersThatAre 29 = .ok (.goto (-25), 3) := by decide +kernel
theorem dX5_lettersThatAre_32 : decode cX5_lettersThatAre 32 = .ok (.iload_n 2, 1) := by decide +kernel
theorem dX5_lettersThatAre_33 : decode cX5_lettersThatAre 33 = .ok (.ireturn, 1) := by decide +kernel
theorem dX5_turnsOfTwo_0 : decode cX5_turnsOfTwo 0 = .ok (.iconst 0, 1) := by decide +kernel
theorem dX5_turnsOfTwo_1 : decode cX5_turnsOfTwo 1 = .ok (.istore_n 1, 1) := by decide +kernel
theorem dX5_turnsOfTwo_2 : decode cX5_turnsOfTwo 2 = .ok (.iconst 0, 1) := by decide +kernel
theorem dX5_turnsOfTwo_3 : decode cX5_turnsOfTwo 3 = .ok (.istore_n 2, 1) := by decide +kernel
theorem dX5_turnsOfTwo_4 : decode cX5_turnsOfTwo 4 = .ok (.iload_n 2, 1) := by decide +kernel
theorem dX5_turnsOfTwo_5 : decode cX5_turnsOfTwo 5 = .ok (.aload_n 0, 1) := by decide +kernel
theorem dX5_turnsOfTwo_6 : decode cX5_turnsOfTwo 6 = .ok (.getfield 40, 3) := by decide +kernel
theorem dX5_turnsOfTwo_9 : decode cX5_turnsOfTwo 9 = .ok (.if_icmp .ge 24, 3) := by decide +kernel
theorem dX5_turnsOfTwo_12 : decode cX5_turnsOfTwo 12 = .ok (.aload_n 0, 1) := by decide +kernel
theorem dX5_turnsOfTwo_13 : decode cX5_turnsOfTwo 13 = .ok (.iload_n 2, 1) := by decide +kernel
theorem dX5_turnsOfTwo_14 : decode cX5_turnsOfTwo 14 = .ok (.bipush 9, 2) := by decide +kernel
theorem dX5_turnsOfTwo_16 : decode cX5_turnsOfTwo 16 = .ok (.invokevirtual 60, 3) := by decide +kernel
theorem dX5_turnsOfTwo_19 : decode cX5_turnsOfTwo 19 = .ok (.bipush (-5), 2) := by decide +kernel
theorem dX5_turnsOfTwo_21 : decode cX5_turnsOfTwo 21 = .ok (.if_icmp .eq 6, 3) := by decide +kernel
theorem dX5_turnsOfTwo_24 : decode cX5_turnsOfTwo 24 = .ok (.iinc 1 1, 3) := by decide +kernel
theorem dX5_turnsOfTwo_27 : decode cX5_turnsOfTwo 27 = .ok (.iinc 2 1, 3) := by decide +kernel
theorem dX5_turnsOfTwo_30 : decode cX5_turnsOfTwo 30 = .ok (.goto (-26), 3) := by decide +kernel
theorem dX5_turnsOfTwo_33 : decode cX5_turnsOfTwo 33 = .ok (.iload_n 1, 1) := by decide +kernel
theorem dX5_turnsOfTwo_34 : decode cX5_turnsOfTwo 34 = .ok (.iconst 2, 1) := by decide +kernel
theorem dX5_turnsOfTwo_35 : decode cX5_turnsOfTwo 35 = .ok (.idiv, 1) := by decide +kernel
theorem dX5_turnsOfTwo_36 : decode cX5_turnsOfTwo 36 = .ok (.ireturn, 1) := by decide +kernel
theorem dX5_fieldsOf_0 : decode cX5_fieldsOf 0 = .ok (.iconst 0, 1) := by decide +kernel
theorem dX5_fieldsOf_1 : decode cX5_fieldsOf 1 = .ok (.istore_n 2, 1) := by decide +kernel
theorem dX5_fieldsOf_2 : decode cX5_fieldsOf 2 = .ok (.iconst 0, 1) := by decide +kernel
theorem dX5_fieldsOf_3 : decode cX5_fieldsOf 3 = .ok (.istore_n 3, 1) := by decide +kernel
theorem dX5_fieldsOf_4 : decode cX5_fieldsOf 4 = .ok (.iload_n 3, 1) := by decide +kernel
theorem dX5_fieldsOf_5 : decode cX5_fieldsOf 5 = .ok (.bipush 48, 2) := by decide +kernel
theorem dX5_fieldsOf_7 : decode cX5_fieldsOf 7 = .ok (.if_icmp .ge 21, 3) := by decide +kernel
theorem dX5_fieldsOf_10 : decode cX5_fieldsOf 10 = .ok (.aload_n 0, 1) := by decide +kernel
theorem dX5_fieldsOf_11 : decode cX5_fieldsOf 11 = .ok (.iload_n 3, 1) := by decide +kernel
theorem dX5_fieldsOf_12 : decode cX5_fieldsOf 12 = .ok (.invokevirtual 78, 3) := by decide +kernel
theorem dX5_fieldsOf_15 : decode cX5_fieldsOf 15 = .ok (.iload_n 1, 1) := by decide +kernel
theorem dX5_fieldsOf_16 : decode cX5_fieldsOf 16 = .ok (.if_icmp .ne 6, 3) := by decide +kernel
theorem dX5_fieldsOf_19 : decode cX5_fieldsOf 19 = .ok (.iinc 2 1, 3) := by decide +kernel
theorem dX5_fieldsOf_22 : decode cX5_fieldsOf 22 = .ok (.iinc 3 1, 3) := by decide +kernel
theorem dX5_fieldsOf_25 : decode cX5_fieldsOf 25 = .ok (.goto (-21), 3) := by decide +kernel
theorem dX5_fieldsOf_28 : decode cX5_fieldsOf 28 = .ok (.iload_n 2, 1) := by decide +kernel
theorem dX5_fieldsOf_29 : decode cX5_fieldsOf 29 = .ok (.ireturn, 1) := by decide +kernel
theorem dX5_edgesWith_0 : decode cX5_edgesWith 0 = .ok (.iconst 0, 1) := by decide +kernel
theorem dX5_edgesWith_1 : decode cX5_edgesWith 1 = .ok (.istore_n 2, 1) := by decide +kernel
theorem dX5_edgesWith_2 : decode cX5_edgesWith 2 = .ok (.iconst 0, 1) := by decide +kernel
theorem dX5_edgesWith_3 : decode cX5_edgesWith 3 = .ok (.istore_n 3, 1) := by decide +kernel
theorem dX5_edgesWith_4 : decode cX5_edgesWith 4 = .ok (.iload_n 3, 1) := by decide +kernel
theorem dX5_edgesWith_5 : decode cX5_edgesWith 5 = .ok (.bipush 82, 2) := by decide +kernel
theorem dX5_edgesWith_7 : decode cX5_edgesWith 7 = .ok (.if_icmp .ge 22, 3) := by decide +kernel
theorem dX5_edgesWith_10 : decode cX5_edgesWith 10 = .ok (.aload_n 0, 1) := by decide +kernel
theorem dX5_edgesWith_11 : decode cX5_edgesWith 11 = .ok (.getfield 22, 3) := by decide +kernel
theorem dX5_edgesWith_14 : decode cX5_edgesWith 14 = .ok (.iload_n 3, 1) := by decide +kernel
theorem dX5_edgesWith_15 : decode cX5_edgesWith 15 = .ok (.iaload, 1) := by decide +kernel
theorem dX5_edgesWith_16 : decode cX5_edgesWith 16 = .ok (.iload_n 1, 1) := by decide +kernel
theorem dX5_edgesWith_17 : decode cX5_edgesWith 17 = .ok (.if_icmp .ne 6, 3) := by decide +kernel
theorem dX5_edgesWith_20 : decode cX5_edgesWith 20 = .ok (.iinc 2 1, 3) := by decide +kernel
theorem dX5_edgesWith_23 : decode cX5_edgesWith 23 = .ok (.iinc 3 1, 3) := by decide +kernel
theorem dX5_edgesWith_26 : decode cX5_edgesWith 26 = .ok (.goto (-22), 3) := by decide +kernel
theorem dX5_edgesWith_29 : decode cX5_edgesWith 29 = .ok (.iload_n 2, 1) := by decide +kernel
theorem dX5_edgesWith_30 : decode cX5_edgesWith 30 = .ok (.ireturn, 1) := by decide +kernel
theorem dX6_init_0 : decode cX6_init 0 = .ok (.aload_n 0, 1) := by decide +kernel
theorem dX6_init_1 : decode cX6_init 1 = .ok (.invokespecial 1, 3) := by decide +kernel
theorem dX6_init_4 : decode cX6_init 4 = .ok (.aload_n 0, 1) := by decide +kernel
theorem dX6_init_5 : decode cX6_init 5 = .ok (.new 7, 3) := by decide +kernel
theorem dX6_init_8 : decode cX6_init 8 = .ok (.dup, 1) := by decide +kernel
theorem dX6_init_9 : decode cX6_init 9 = .ok (.invokespecial 9, 3) := by decide +kernel
theorem dX6_init_12 : decode cX6_init 12 = .ok (.putfield 10, 3) := by decide +kernel
theorem dX6_init_15 : decode cX6_init 15 = .ok (.aload_n 0, 1) := by decide +kernel
theorem dX6_init_16 : decode cX6_init 16 = .ok (.new 16, 3) := by decide +kernel
theorem dX6_init_19 : decode cX6_init 19 = .ok (.dup, 1) := by decide +kernel
theorem dX6_init_20 : decode cX6_init 20 = .ok (.aload_n 0, 1) := by decide +kernel
theorem dX6_init_21 : decode cX6_init 21 = .ok (.getfield 10, 3) := by decide +kernel
theorem dX6_init_24 : decode cX6_init 24 = .ok (.invokespecial 18, 3) := by decide +kernel
theorem dX6_init_27 : decode cX6_init 27 = .ok (.putfield 21, 3) := by decide +kernel
theorem dX6_init_30 : decode cX6_init 30 = .ok (.aload_n 0, 1) := by decide +kernel
theorem dX6_init_31 : decode cX6_init 31 = .ok (.new 25, 3) := by decide +kernel
theorem dX6_init_34 : decode cX6_init 34 = .ok (.dup, 1) := by decide +kernel
theorem dX6_init_35 : decode cX6_init 35 = .ok (.aload_n 0, 1) := by decide +kernel
theorem dX6_init_36 : decode cX6_init 36 = .ok (.getfield 10, 3) := by decide +kernel
theorem dX6_init_39 : decode cX6_init 39 = .ok (.aload_n 0, 1) := by decide +kernel
theorem dX6_init_40 : decode cX6_init 40 = .ok (.getfield 21, 3) := by decide +kernel
theorem dX6_init_43 : decode cX6_init 43 = .ok (.invokespecial 27, 3) := by decide +kernel
theorem dX6_init_46 : decode cX6_init 46 = .ok (.putfield 30, 3) := by decide +kernel
theorem dX6_init_49 : decode cX6_init 49 = .ok (.aload_n 0, 1) := by decide +kernel
theorem dX6_init_50 : decode cX6_init 50 = .ok (.new 34, 3) := by decide +kernel
theorem dX6_init_53 : decode cX6_init 53 = .ok (.dup, 1) := by decide +kernel
theorem dX6_init_54 : decode cX6_init 54 = .ok (.invokespecial 36, 3) := by decide +kernel
theorem dX6_init_57 : decode cX6_init 57 = .ok (.putfield 37, 3) := by decide +kernel
theorem dX6_init_60 : decode cX6_init 60 = .ok (.aload_n 0, 1) := by decide +kernel
theorem dX6_init_61 : decode cX6_init 61 = .ok (.new 41, 3) := by decide +kernel
theorem dX6_init_64 : decode cX6_init 64 = .ok (.dup, 1) := by decide +kernel
theorem dX6_init_65 : decode cX6_init 65 = .ok (.invokespecial 43, 3) := by decide +kernel
theorem dX6_init_68 : decode cX6_init 68 = .ok (.putfield 44, 3) := by decide +kernel
theorem dX6_init_71 : decode cX6_init 71 = .ok (.aload_n 0, 1) := by decide +kernel
theorem dX6_init_72 : decode cX6_init 72 = .ok (.new 48, 3) := by decide +kernel
theorem dX6_init_75 : decode cX6_init 75 = .ok (.dup, 1) := by decide +kernel
theorem dX6_init_76 : decode cX6_init 76 = .ok (.invokespecial 50, 3) := by decide +kernel
theorem dX6_init_79 : decode cX6_init 79 = .ok (.putfield 51, 3) := by decide +kernel
theorem dX6_init_82 : decode cX6_init 82 = .ok (.aload_n 0, 1) := by decide +kernel
theorem dX6_init_83 : decode cX6_init 83 = .ok (.new 48, 3) := by decide +kernel
theorem dX6_init_86 : decode cX6_init 86 = .ok (.dup, 1) := by decide +kernel
theorem dX6_init_87 : decode cX6_init 87 = .ok (.invokespecial 50, 3) := by decide +kernel
theorem dX6_init_90 : decode cX6_init 90 = .ok (.putfield 55, 3) := by decide +kernel
theorem dX6_init_93 : decode cX6_init 93 = .ok (.aload_n 0, 1) := by decide +kernel
theorem dX6_init_94 : decode cX6_init 94 = .ok (.new 48, 3) := by decide +kernel
theorem dX6_init_97 : decode cX6_init 97 = .ok (.dup, 1) := by decide +kernel
theorem dX6_init_98 : decode cX6_init 98 = .ok (.invokespecial 50, 3) := by decide +kernel
theorem dX6_init_101 : decode cX6_init 101 = .ok (.putfield 58, 3) := by decide +kernel
theorem dX6_init_104 : decode cX6_init 104 = .ok (.aload_n 0, 1) := by decide +kernel
theorem dX6_init_105 : decode cX6_init 105 = .ok (.new 48, 3) := by decide +kernel
theorem dX6_init_108 : decode cX6_init 108 = .ok (.dup, 1) := by decide +kernel
theorem dX6_init_109 : decode cX6_init 109 = .ok (.invokespecial 50, 3) := by decide +kernel
theorem dX6_init_112 : decode cX6_init 112 = .ok (.putfield 61, 3) := by decide +kernel
theorem dX6_init_115 : decode cX6_init 115 = .ok (.return_, 1) := by decide +kernel
theorem dX6_writeEdge_0 : decode cX6_writeEdge 0 = .ok (.aload_n 0, 1) := by decide +kernel
theorem dX6_writeEdge_1 : decode cX6_writeEdge 1 = .ok (.getfield 55, 3) := by decide +kernel
theorem dX6_writeEdge_4 : decode cX6_writeEdge 4 = .ok (.aload_n 0, 1) := by decide +kernel
theorem dX6_writeEdge_5 : decode cX6_writeEdge 5 = .ok (.getfield 51, 3) := by decide +kernel
theorem dX6_writeEdge_8 : decode cX6_writeEdge 8 = .ok (.invokevirtual 64, 3) := by decide +kernel
theorem dX6_writeEdge_11 : decode cX6_writeEdge 11 = .ok (.aload_n 0, 1) := by decide +kernel
theorem dX6_writeEdge_12 : decode cX6_writeEdge 12 = .ok (.aload_n 0, 1) := by decide +kernel
theorem dX6_writeEdge_13 : decode cX6_writeEdge 13 = .ok (.iload_n 1, 1) := by decide +kernel
theorem dX6_writeEdge_14 : decode cX6_writeEdge 14 = .ok (.iload_n 2, 1) := by decide +kernel
theorem dX6_writeEdge_15 : decode cX6_writeEdge 15 = .ok (.ifCond .eq 7, 3) := by decide +kernel
theorem dX6_writeEdge_18 : decode cX6_writeEdge 18 = .ok (.iconst 1, 1) := by decide +kernel
theorem dX6_writeEdge_19 : decode cX6_writeEdge 19 = .ok (.goto 4, 3) := by decide +kernel
theorem dX6_writeEdge_22 : decode cX6_writeEdge 22 = .ok (.iconst 0, 1) := by decide +kernel
theorem dX6_writeEdge_23 : decode cX6_writeEdge 23 = .ok (.iload_n 3, 1) := by decide +kernel
theorem dX6_writeEdge_24 : decode cX6_writeEdge 24 = .ok (.iload 4, 2) := by decide +kernel
theorem dX6_writeEdge_26 : decode cX6_writeEdge 26 = .ok (.invokevirtual 68, 3) := by decide +kernel
theorem dX6_writeEdge_29 : decode cX6_writeEdge 29 = .ok (.invokevirtual 72, 3) := by decide +kernel
theorem dX6_writeEdge_32 : decode cX6_writeEdge 32 = .ok (.ireturn, 1) := by decide +kernel
theorem dX6_writeClaim_0 : decode cX6_writeClaim 0 = .ok (.aload_n 0, 1) := by decide +kernel
theorem dX6_writeClaim_1 : decode cX6_writeClaim 1 = .ok (.getfield 55, 3) := by decide +kernel
theorem dX6_writeClaim_4 : decode cX6_writeClaim 4 = .ok (.aload_n 0, 1) := by decide +kernel
theorem dX6_writeClaim_5 : decode cX6_writeClaim 5 = .ok (.getfield 51, 3) := by decide +kernel
theorem dX6_writeClaim_8 : decode cX6_writeClaim 8 = .ok (.invokevirtual 64, 3) := by decide +kernel
theorem dX6_writeClaim_11 : decode cX6_writeClaim 11 = .ok (.aload_n 0, 1) := by decide +kernel
theorem dX6_writeClaim_12 : decode cX6_writeClaim 12 = .ok (.aload_n 0, 1) := by decide +kernel
theorem dX6_writeClaim_13 : decode cX6_writeClaim 13 = .ok (.iload_n 1, 1) := by decide +kernel
theorem dX6_writeClaim_14 : decode cX6_writeClaim 14 = .ok (.iload_n 2, 1) := by decide +kernel
theorem dX6_writeClaim_15 : decode cX6_writeClaim 15 = .ok (.invokevirtual 76, 3) := by decide +kernel
theorem dX6_writeClaim_18 : decode cX6_writeClaim 18 = .ok (.invokevirtual 72, 3) := by decide +kernel
theorem dX6_writeClaim_21 : decode cX6_writeClaim 21 = .ok (.ireturn, 1) := by decide +kernel
theorem dX6_writeTruce_0 : decode cX6_writeTruce 0 = .ok (.aload_n 0, 1) := by decide +kernel
theorem dX6_writeTruce_1 : decode cX6_writeTruce 1 = .ok (.getfield 55, 3) := by decide +kernel
theorem dX6_writeTruce_4 : decode cX6_writeTruce 4 = .ok (.aload_n 0, 1) := by decide +kernel
theorem dX6_writeTruce_5 : decode cX6_writeTruce 5 = .ok (.getfield 51, 3) := by decide +kernel
theorem dX6_writeTruce_8 : decode cX6_writeTruce 8 = .ok (.invokevirtual 64, 3) := by decide +kernel
theorem dX6_writeTruce_11 : decode cX6_writeTruce 11 = .ok (.aload_n 0, 1) := by decide +kernel
theorem dX6_writeTruce_12 : decode cX6_writeTruce 12 = .ok (.aload_n 0, 1) := by decide +kernel
theorem dX6_writeTruce_13 : decode cX6_writeTruce 13 = .ok (.iload_n 1, 1) := by decide +kernel
theorem dX6_writeTruce_14 : decode cX6_writeTruce 14 = .ok (.iload_n 2, 1) := by decide +kernel
theorem dX6_writeTruce_15 : decode cX6_writeTruce 15 = .ok (.invokevirtual 80, 3) := by decide +kernel
theorem dX6_writeTruce_18 : decode cX6_writeTruce 18 = .ok (.invokevirtual 72, 3) := by decide +kernel
theorem dX6_writeTruce_21 : decode cX6_writeTruce 21 = .ok (.ireturn, 1) := by decide +kernel
theorem dX6_callBack_0 : decode cX6_callBack 0 = .ok (.aload_n 0, 1) := by decide +kernel
theorem dX6_callBack_1 : decode cX6_callBack 1 = .ok (.getfield 51, 3) := by decide +kernel
theorem dX6_callBack_4 : decode cX6_callBack 4 = .ok (.iload_n 1, 1) := by decide +kernel
theorem dX6_callBack_5 : decode cX6_callBack 5 = .ok (.invokevirtual 83, 3) := by decide +kernel
theorem dX6_callBack_8 : decode cX6_callBack 8 = .ok (.ifCond .ne 5, 3) := by decide +kernel
theorem dX6_callBack_11 : decode cX6_callBack 11 = .ok (.iconst (-1), 1) := by decide +kernel
theorem dX6_callBack_12 : decode cX6_callBack 12 = .ok (.ireturn, 1) := by decide +kernel
theorem dX6_callBack_13 : decode cX6_callBack 13 = .ok (.aload_n 0, 1) := by decide +kernel
theorem dX6_callBack_14 : decode cX6_callBack 14 = .ok (.getfield 51, 3) := by decide +kernel
theorem dX6_callBack_17 : decode cX6_callBack 17 = .ok (.iload_n 1, 1) := by decide +kernel
theorem dX6_callBack_18 : decode cX6_callBack 18 = .ok (.bipush 6, 2) := by decide +kernel
theorem dX6_callBack_20 : decode cX6_callBack 20 = .ok (.invokevirtual 87, 3) := by decide +kernel
theorem dX6_callBack_23 : decode cX6_callBack 23 = .ok (.ifCond .eq 6, 3) := by decide +kernel
theorem dX6_callBack_26 : decode cX6_callBack 26 = .ok (.bipush (-4), 2) := by decide +kernel
theorem dX6_callBack_28 : decode cX6_callBack 28 = .ok (.ireturn, 1) := by decide +kernel
theorem dX6_callBack_29 : decode cX6_callBack 29 = .ok (.aload_n 0, 1) := by decide +kernel
theorem dX6_callBack_30 : decode cX6_callBack 30 = .ok (.getfield 44, 3) := by decide +kernel
theorem dX6_callBack_33 : decode cX6_callBack 33 = .ok (.aload_n 0, 1) := by decide +kernel
theorem dX6_callBack_34 : decode cX6_callBack 34 = .ok (.getfield 51, 3) := by decide +kernel
theorem dX6_callBack_37 : decode cX6_callBack 37 = .ok (.invokevirtual 90, 3) := by decide +kernel
theorem dX6_callBack_40 : decode cX6_callBack 40 = .ok (.aload_n 0, 1) := by decide +kernel
theorem dX6_callBack_41 : decode cX6_callBack 41 = .ok (.getfield 51, 3) := by decide +kernel
theorem dX6_callBack_44 : decode cX6_callBack 44 = .ok (.iload_n 1, 1) := by decide +kernel
theorem dX6_callBack_45 : decode cX6_callBack 45 = .ok (.bipush 6, 2) := by decide +kernel
theorem dX6_callBack_47 : decode cX6_callBack 47 = .ok (.iconst 3, 1) := by decide +kernel
theorem dX6_callBack_48 : decode cX6_callBack 48 = .ok (.invokevirtual 93, 3) := by decide +kernel
theorem dX6_callBack_51 : decode cX6_callBack 51 = .ok (.aload_n 0, 1) := by decide +kernel
theorem dX6_callBack_52 : decode cX6_callBack 52 = .ok (.getfield 51, 3) := by decide +kernel
theorem dX6_callBack_55 : decode cX6_callBack 55 = .ok (.iload_n 1, 1) := by decide +kernel
theorem dX6_callBack_56 : decode cX6_callBack 56 = .ok (.iconst 5, 1) := by decide +kernel
theorem dX6_callBack_57 : decode cX6_callBack 57 = .ok (.invokevirtual 87, 3) := by decide +kernel
theorem dX6_callBack_60 : decode cX6_callBack 60 = .ok (.aload_n 0, 1) := by decide +kernel
theorem dX6_callBack_61 : decode cX6_callBack 61 = .ok (.getfield 51, 3) := by decide +kernel
theorem dX6_callBack_64 : decode cX6_callBack 64 = .ok (.getfield 97, 3) := by decide +kernel
theorem dX6_callBack_67 : decode cX6_callBack 67 = .ok (.isub, 1) := by decide +kernel
theorem dX6_callBack_68 : decode cX6_callBack 68 = .ok (.ireturn, 1) := by decide +kernel
theorem dX6_pass_0 : decode cX6_pass 0 = .ok (.aload_n 0, 1) := by decide +kernel
theorem dX6_pass_1 : decode cX6_pass 1 = .ok (.getfield 55, 3) := by decide +kernel
theorem dX6_pass_4 : decode cX6_pass 4 = .ok (.aload_n 0, 1) := by decide +kernel
theorem dX6_pass_5 : decode cX6_pass 5 = .ok (.getfield 51, 3) := by decide +kernel
theorem dX6_pass_8 : decode cX6_pass 8 = .ok (.invokevirtual 64, 3) := by decide +kernel
theorem dX6_pass_11 : decode cX6_pass 11 = .ok (.aload_n 0, 1) := by decide +kernel
theorem dX6_pass_12 : decode cX6_pass 12 = .ok (.aload_n 0, 1) := by decide +kernel
theorem dX6_pass_13 : decode cX6_pass 13 = .ok (.iload_n 1, 1) := by decide +kernel
theorem dX6_pass_14 : decode cX6_pass 14 = .ok (.invokevirtual 101, 3) := by decide +kernel
theorem dX6_pass_17 : decode cX6_pass 17 = .ok (.invokevirtual 72, 3) := by decide +kernel
theorem dX6_pass_20 : decode cX6_pass 20 = .ok (.ireturn, 1) := by decide +kernel
theorem dX6_set_0 : decode cX6_set 0 = .ok (.iload_n 1, 1) := by decide +kernel
theorem dX6_set_1 : decode cX6_set 1 = .ok (.ifCond .lt 8, 3) := by decide +kernel
theorem dX6_set_4 : decode cX6_set 4 = .ok (.iload_n 1, 1) := by decide +kernel
theorem dX6_set_5 : decode cX6_set 5 = .ok (.iconst 2, 1) := by decide +kernel
theorem dX6_set_6 : decode cX6_set 6 = .ok (.if_icmp .lt 5, 3) := by decide +kernel
theorem dX6_set_9 : decode cX6_set 9 = .ok (.iconst (-1), 1) := by decide +kernel
theorem dX6_set_10 : decode cX6_set 10 = .ok (.ireturn, 1) := by decide +kernel
theorem dX6_set_11 : decode cX6_set 11 = .ok (.iload_n 1, 1) := by decide +kernel
theorem dX6_set_12 : decode cX6_set 12 = .ok (.ifCond .ne 8, 3) := by decide +kernel
theorem dX6_set_15 : decode cX6_set 15 = .ok (.bipush 9, 2) := by decide +kernel
theorem dX6_set_17 : decode cX6_set 17 = .ok (.goto 5, 3) := by decide +kernel
theorem dX6_set_20 : decode cX6_set 20 = .ok (.bipush 48, 2) := by decide +kernel
theorem dX6_set_22 : decode cX6_set 22 = .ok (.istore_n 3, 1) := by decide +kernel
theorem dX6_set_23 : decode cX6_set 23 = .ok (.iload_n 2, 1) := by decide +kernel
theorem dX6_set_24 : decode cX6_set 24 = .ok (.iconst 1, 1) := by decide +kernel
theorem dX6_set_25 : decode cX6_set 25 = .ok (.if_icmp .lt 8, 3) := by decide +kernel
theorem dX6_set_28 : decode cX6_set 28 = .ok (.iload_n 2, 1) := by decide +kernel
theorem dX6_set_29 : decode cX6_set 29 = .ok (.iload_n 3, 1) := by decide +kernel
theorem dX6_set_30 : decode cX6_set 30 = .ok (.if_icmp .le 6, 3) := by decide +kernel
theorem dX6_set_33 : decode cX6_set 33 = .ok (.bipush (-2), 2) := by decide +kernel
theorem dX6_set_35 : decode cX6_set 35 = .ok (.ireturn, 1) := by decide +kernel
theorem dX6_set_36 : decode cX6_set 36 = .ok (.aload_n 0, 1) := by decide +kernel
theorem dX6_set_37 : decode cX6_set 37 = .ok (.getfield 51, 3) := by decide +kernel
theorem dX6_set_40 : decode cX6_set 40 = .ok (.getfield 104, 3) := by decide +kernel
theorem dX6_set_43 : decode cX6_set 43 = .ok (.iload_n 1, 1) := by decide +kernel
theorem dX6_set_44 : decode cX6_set 44 = .ok (.iaload, 1) := by decide +kernel
theorem dX6_set_45 : decode cX6_set 45 = .ok (.istore 4, 2) := by decide +kernel
theorem dX6_set_47 : decode cX6_set 47 = .ok (.iload 4, 2) := by decide +kernel
theorem dX6_set_49 : decode cX6_set 49 = .ok (.iload_n 2, 1) := by decide +kernel
theorem dX6_set_50 : decode cX6_set 50 = .ok (.if_icmp .ne 6, 3) := by decide +kernel
theorem dX6_set_53 : decode cX6_set 53 = .ok (.bipush (-5), 2) := by decide +kernel
theorem dX6_set_55 : decode cX6_set 55 = .ok (.ireturn, 1) := by decide +kernel
theorem dX6_set_56 : decode cX6_set 56 = .ok (.aload_n 0, 1) := by decide +kernel
theorem dX6_set_57 : decode cX6_set 57 = .ok (.getfield 44, 3) := by decide +kernel
theorem dX6_set_60 : decode cX6_set 60 = .ok (.aload_n 0, 1) := by decide +kernel
theorem dX6_set_61 : decode cX6_set 61 = .ok (.getfield 51, 3) := by decide +kernel
theorem dX6_set_64 : decode cX6_set 64 = .ok (.invokevirtual 90, 3) := by decide +kernel
theorem dX6_set_67 : decode cX6_set 67 = .ok (.aload_n 0, 1) := by decide +kernel
theorem dX6_set_68 : decode cX6_set 68 = .ok (.getfield 51, 3) := by decide +kernel
theorem dX6_set_71 : decode cX6_set 71 = .ok (.getfield 104, 3) := by decide +kernel
theorem dX6_set_74 : decode cX6_set 74 = .ok (.iload_n 1, 1) := by decide +kernel
theorem dX6_set_75 : decode cX6_set 75 = .ok (.iload_n 2, 1) := by decide +kernel
theorem dX6_set_76 : decode cX6_set 76 = .ok (.iastore, 1) := by decide +kernel
theorem dX6_set_77 : decode cX6_set 77 = .ok (.iload 4, 2) := by decide +kernel
theorem dX6_set_79 : decode cX6_set 79 = .ok (.ireturn, 1) := by decide +kernel
theorem dX6_type_0 : decode cX6_type 0 = .ok (.aload_n 0, 1) := by decide +kernel
theorem dX6_type_1 : decode cX6_type 1 = .ok (.getfield 37, 3) := by decide +kernel
theorem dX6_type_4 : decode cX6_type 4 = .ok (.iload_n 1, 1) := by decide +kernel
theorem dX6_type_5 : decode cX6_type 5 = .ok (.invokevirtual 108, 3) := by decide +kernel
theorem dX6_type_8 : decode cX6_type 8 = .ok (.ireturn, 1) := by decide +kernel
theorem dX6_clearText_0 : decode cX6_clearText 0 = .ok (.aload_n 0, 1) := by decide +kernel
theorem dX6_clearText_1 : decode cX6_clearText 1 = .ok (.getfield 37, 3) := by decide +kernel
theorem dX6_clearText_4 : decode cX6_clearText 4 = .ok (.invokevirtual 112, 3) := by decide +kernel
theorem dX6_clearText_7 : decode cX6_clearText 7 = .ok (.ireturn, 1) := by decide +kernel
theorem dX6_perform_0 : decode cX6_perform 0 = .ok (.aload_n 0, 1) := by decide +kernel
theorem dX6_perform_1 : decode cX6_perform 1 = .ok (.getfield 37, 3) := by decide +kernel
theorem dX6_perform_4 : decode cX6_perform 4 = .ok (.invokevirtual 116, 3) := by decide +kernel
theorem dX6_perform_7 : decode cX6_perform 7 = .ok (.istore_n 1, 1) := by decide +kernel
theorem dX6_perform_8 : decode cX6_perform 8 = .ok (.iload_n 1, 1) := by decide +kernel
theorem dX6_perform_9 : decode cX6_perform 9 = .ok (.bipush (-5), 2) := by decide +kernel
theorem dX6_perform_11 : decode cX6_perform 11 = .ok (.if_icmp .eq 8, 3) := by decide +kernel
theorem dX6_perform_14 : decode cX6_perform 14 = .ok (.bipush (-100), 2) := by decide +kernel
theorem dX6_perform_16 : decode cX6_perform 16 = .ok (.iload_n 1, 1) := by decide +kernel
theorem dX6_perform_17 : decode cX6_perform 17 = .ok (.isub, 1) := by decide +kernel
theorem dX6_perform_18 : decode cX6_perform 18 = .ok (.ireturn, 1) := by decide +kernel
theorem dX6_perform_19 : decode cX6_perform 19 = .ok (.aload_n 0, 1) := by decide +kernel
theorem dX6_perform_20 : decode cX6_perform 20 = .ok (.getfield 55, 3) := by decide +kernel
theorem dX6_perform_23 : decode cX6_perform 23 = .ok (.aload_n 0, 1) := by decide +kernel
theorem dX6_perform_24 : decode cX6_perform 24 = .ok (.getfield 51, 3) := by decide +kernel
theorem dX6_perform_27 : decode cX6_perform 27 = .ok (.invokevirtual 64, 3) := by decide +kernel
theorem dX6_perform_30 : decode cX6_perform 30 = .ok (.iconst 0, 1) := by decide +kernel
theorem dX6_perform_31 : decode cX6_perform 31 = .ok (.istore_n 2, 1) := by decide +kernel
theorem dX6_perform_32 : decode cX6_perform 32 = .ok (.iload_n 2, 1) := by decide +kernel
theorem dX6_perform_33 : decode cX6_perform 33 = .ok (.aload_n 0, 1) := by decide +kernel
theorem dX6_perform_34 : decode cX6_perform 34 = .ok (.getfield 37, 3) := by decide +kernel
theorem dX6_perform_37 : decode cX6_perform 37 = .ok (.getfield 119, 3) := by decide +kernel
theorem dX6_perform_40 : decode cX6_perform 40 = .ok (.if_icmp .ge 102, 3) := by decide +kernel
theorem dX6_perform_43 : decode cX6_perform 43 = .ok (.aload_n 0, 1) := by decide +kernel
theorem dX6_perform_44 : decode cX6_perform 44 = .ok (.getfield 37, 3) := by decide +kernel
theorem dX6_perform_47 : decode cX6_perform 47 = .ok (.aload_n 0, 1) := by decide +kernel
theorem dX6_perform_48 : decode cX6_perform 48 = .ok (.getfield 37, 3) := by decide +kernel
theorem dX6_perform_51 : decode cX6_perform 51 = .ok (.getfield 122, 3) := by decide +kernel
theorem dX6_perform_54 : decode cX6_perform 54 = .ok (.iload_n 2, 1) := by decide +kernel
theorem dX6_perform_55 : decode cX6_perform 55 = .ok (.invokevirtual 125, 3) := by decide +kernel
theorem dX6_perform_58 : decode cX6_perform 58 = .ok (.iconst 4, 1) := by decide +kernel
theorem dX6_perform_59 : decode cX6_perform 59 = .ok (.if_icmp .ne 7, 3) := by decide +kernel
theorem dX6_perform_62 : decode cX6_perform 62 = .ok (.iconst 1, 1) := by decide +kernel
theorem dX6_perform_63 : decode cX6_perform 63 = .ok (.goto 4, 3) := by decide +kernel
theorem dX6_perform_66 : decode cX6_perform 66 = .ok (.iconst 0, 1) := by decide +kernel
theorem dX6_perform_67 : decode cX6_perform 67 = .ok (.istore_n 3, 1) := by decide +kernel
theorem dX6_perform_68 : decode cX6_perform 68 = .ok (.iload_n 3, 1) := by decide +kernel
theorem dX6_perform_69 : decode cX6_perform 69 = .ok (.ifCond .eq 25, 3) := by decide +kernel
theorem dX6_perform_72 : decode cX6_perform 72 = .ok (.aload_n 0, 1) := by decide +kernel
theorem dX6_perform_73 : decode cX6_perform 73 = .ok (.aload_n 0, 1) := by decide +kernel
theorem dX6_perform_74 : decode cX6_perform 74 = .ok (.getfield 37, 3) := by decide +kernel
theorem dX6_perform_77 : decode cX6_perform 77 = .ok (.aload_n 0, 1) := by decide +kernel
theorem dX6_perform_78 : decode cX6_perform 78 = .ok (.getfield 37, 3) := by decide +kernel
theorem dX6_perform_81 : decode cX6_perform 81 = .ok (.getfield 129, 3) := by decide +kernel
theorem dX6_perform_84 : decode cX6_perform 84 = .ok (.iload_n 2, 1) := by decide +kernel
theorem dX6_perform_85 : decode cX6_perform 85 = .ok (.invokevirtual 125, 3) := by decide +kernel
theorem dX6_perform_88 : decode cX6_perform 88 = .ok (.invokevirtual 101, 3) := by decide +kernel
theorem dX6_perform_91 : decode cX6_perform 91 = .ok (.goto 8, 3) := by decide +kernel
theorem dX6_perform_94 : decode cX6_perform 94 = .ok (.aload_n 0, 1) := by decide +kernel
theorem dX6_perform_95 : decode cX6_perform 95 = .ok (.iload_n 2, 1) := by decide +kernel
theorem dX6_perform_96 : decode cX6_perform 96 = .ok (.invokevirtual 132, 3) := by decide +kernel
theorem dX6_perform_99 : decode cX6_perform 99 = .ok (.istore 4, 2) := by decide +kernel
theorem dX6_perform_101 : decode cX6_perform 101 = .ok (.iload 4, 2) := by decide +kernel
theorem dX6_perform_103 : decode cX6_perform 103 = .ok (.ifCond .ge 33, 3) := by decide +kernel
theorem dX6_perform_106 : decode cX6_perform 106 = .ok (.aload_n 0, 1) := by decide +kernel
theorem dX6_perform_107 : decode cX6_perform 107 = .ok (.getfield 51, 3) := by decide +kernel
theorem dX6_perform_110 : decode cX6_perform 110 = .ok (.aload_n 0, 1) := by decide +kernel
theorem dX6_perform_111 : decode cX6_perform 111 = .ok (.getfield 55, 3) := by decide +kernel
theorem dX6_perform_114 : decode cX6_perform 114 = .ok (.invokevirtual 64, 3) := by decide +kernel
theorem dX6_perform_117 : decode cX6_perform 117 = .ok (.aload_n 0, 1) := by decide +kernel
theorem dX6_perform_118 : decode cX6_perform 118 = .ok (.iconst 1, 1) := by decide +kernel
theorem dX6_perform_119 : decode cX6_perform 119 = .ok (.putfield 135, 3) := by decide +kernel
theorem dX6_perform_122 : decode cX6_perform 122 = .ok (.aload_n 0, 1) := by decide +kernel
theorem dX6_perform_123 : decode cX6_perform 123 = .ok (.iload_n 2, 1) := by decide +kernel
theorem dX6_perform_124 : decode cX6_perform 124 = .ok (.putfield 139, 3) := by decide +kernel
theorem dX6_perform_127 : decode cX6_perform 127 = .ok (.aload_n 0, 1) := by decide +kernel
theorem dX6_perform_128 : decode cX6_perform 128 = .ok (.iload 4, 2) := by decide +kernel
theorem dX6_perform_130 : decode cX6_perform 130 = .ok (.putfield 142, 3) := by decide +kernel
theorem dX6_perform_133 : decode cX6_perform 133 = .ok (.bipush (-4), 2) := by decide +kernel
theorem dX6_perform_135 : decode cX6_perform 135 = .ok (.ireturn, 1) := by decide +kernel
theorem dX6_perform_136 : decode cX6_perform 136 = .ok (.iinc 2 1, 3) := by decide +kernel
theorem dX6_perform_139 : decode cX6_perform 139 = .ok (.goto (-107), 3) := by decide +kernel
theorem dX6_perform_142 : decode cX6_perform 142 = .ok (.aload_n 0, 1) := by decide +kernel
theorem dX6_perform_143 : decode cX6_perform 143 = .ok (.aload_n 0, 1) := by decide +kernel
theorem dX6_perform_144 : decode cX6_perform 144 = .ok (.getfield 37, 3) := by decide +kernel
theorem dX6_perform_147 : decode cX6_perform 147 = .ok (.getfield 119, 3) := by decide +kernel
theorem dX6_perform_150 : decode cX6_perform 150 = .ok (.invokevirtual 72, 3) := by decide +kernel
theorem dX6_perform_153 : decode cX6_perform 153 = .ok (.ireturn, 1) := by decide +kernel
theorem dX6_stopped_0 : decode cX6_stopped 0 = .ok (.iload_n 1, 1) := by decide +kernel
theorem dX6_stopped_1 : decode cX6_stopped 1 = .ok (.ifCond .lt 8, 3) := by decide +kernel
theorem dX6_stopped_4 : decode cX6_stopped 4 = .ok (.iload_n 1, 1) := by decide +kernel
theorem dX6_stopped_5 : decode cX6_stopped 5 = .ok (.iconst 1, 1) := by decide +kernel
theorem dX6_stopped_6 : decode cX6_stopped 6 = .ok (.if_icmp .le 6, 3) := by decide +kernel
theorem dX6_stopped_9 : decode cX6_stopped 9 = .ok (.bipush (-2), 2) := by decide +kernel
theorem dX6_stopped_11 : decode cX6_stopped 11 = .ok (.ireturn, 1) := by decide +kernel
theorem dX6_stopped_12 : decode cX6_stopped 12 = .ok (.aload_n 0, 1) := by decide +kernel
theorem dX6_stopped_13 : decode cX6_stopped 13 = .ok (.getfield 135, 3) := by decide +kernel
theorem dX6_stopped_16 : decode cX6_stopped 16 = .ok (.ifCond .ne 6, 3) := by decide +kernel
theorem dX6_stopped_19 : decode cX6_stopped 19 = .ok (.bipush (-5), 2) := by decide +kernel
theorem dX6_stopped_21 : decode cX6_stopped 21 = .ok (.ireturn, 1) := by decide +kernel
theorem dX6_stopped_22 : decode cX6_stopped 22 = .ok (.iload_n 1, 1) := by decide +kernel
theorem dX6_stopped_23 : decode cX6_stopped 23 = .ok (.ifCond .ne 10, 3) := by decide +kernel
theorem dX6_stopped_26 : decode cX6_stopped 26 = .ok (.aload_n 0, 1) := by decide +kernel
theorem dX6_stopped_27 : decode cX6_stopped 27 = .ok (.getfield 139, 3) := by decide +kernel
theorem dX6_stopped_30 : decode cX6_stopped 30 = .ok (.goto 7, 3) := by decide +kernel
theorem dX6_stopped_33 : decode cX6_stopped 33 = .ok (.aload_n 0, 1) := by decide +kernel
theorem dX6_stopped_34 : decode cX6_stopped 34 = .ok (.getfield 142, 3) := by decide +kernel
theorem dX6_stopped_37 : decode cX6_stopped 37 = .ok (.ireturn, 1) := by decide +kernel
theorem dX6_undo_0 : decode cX6_undo 0 = .ok (.aload_n 0, 1) := by decide +kernel
theorem dX6_undo_1 : decode cX6_undo 1 = .ok (.getfield 44, 3) := by decide +kernel
theorem dX6_undo_4 : decode cX6_undo 4 = .ok (.aload_n 0, 1) := by decide +kernel
theorem dX6_undo_5 : decode cX6_undo 5 = .ok (.getfield 51, 3) := by decide +kernel
theorem dX6_undo_8 : decode cX6_undo 8 = .ok (.invokevirtual 145, 3) := by decide +kernel
theorem dX6_undo_11 : decode cX6_undo 11 = .ok (.ireturn, 1) := by decide +kernel
theorem dX6_keep_0 : decode cX6_keep 0 = .ok (.aload_n 0, 1) := by decide +kernel
theorem dX6_keep_1 : decode cX6_keep 1 = .ok (.getfield 61, 3) := by decide +kernel
theorem dX6_keep_4 : decode cX6_keep 4 = .ok (.aload_n 0, 1) := by decide +kernel
theorem dX6_keep_5 : decode cX6_keep 5 = .ok (.getfield 51, 3) := by decide +kernel
theorem dX6_keep_8 : decode cX6_keep 8 = .ok (.invokevirtual 64, 3) := by decide +kernel
theorem dX6_keep_11 : decode cX6_keep 11 = .ok (.aload_n 0, 1) := by decide +kernel
theorem dX6_keep_12 : decode cX6_keep 12 = .ok (.iconst 1, 1) := by decide +kernel
theorem dX6_keep_13 : decode cX6_keep 13 = .ok (.putfield 149, 3) := by decide +kernel
theorem dX6_keep_16 : decode cX6_keep 16 = .ok (.aload_n 0, 1) := by decide +kernel
theorem dX6_keep_17 : decode cX6_keep 17 = .ok (.getfield 51, 3) := by decide +kernel
theorem dX6_keep_20 : decode cX6_keep 20 = .ok (.getfield 97, 3) := by decide +kernel
theorem dX6_keep_23 : decode cX6_keep 23 = .ok (.ireturn, 1) := by decide +kernel
theorem dX6_restore_0 : decode cX6_restore 0 = .ok (.aload_n 0, 1) := by decide +kernel
theorem dX6_restore_1 : decode cX6_restore 1 = .ok (.getfield 149, 3) := by decide +kernel
theorem dX6_restore_4 : decode cX6_restore 4 = .ok (.ifCond .ne 6, 3) := by decide +kernel
theorem dX6_restore_7 : decode cX6_restore 7 = .ok (.bipush (-5), 2) := by decide +kernel
theorem dX6_restore_9 : decode cX6_restore 9 = .ok (.ireturn, 1) := by decide +kernel
theorem dX6_restore_10 : decode cX6_restore 10 = .ok (.aload_n 0, 1) := by decide +kernel
theorem dX6_restore_11 : decode cX6_restore 11 = .ok (.getfield 44, 3) := by decide +kernel
theorem dX6_restore_14 : decode cX6_restore 14 = .ok (.aload_n 0, 1) := by decide +kernel
theorem dX6_restore_15 : decode cX6_restore 15 = .ok (.getfield 51, 3) := by decide +kernel
theorem dX6_restore_18 : decode cX6_restore 18 = .ok (.invokevirtual 90, 3) := by decide +kernel
theorem dX6_restore_21 : decode cX6_restore 21 = .ok (.aload_n 0, 1) := by decide +kernel
theorem dX6_restore_22 : decode cX6_restore 22 = .ok (.getfield 51, 3) := by decide +kernel
theorem dX6_restore_25 : decode cX6_restore 25 = .ok (.aload_n 0, 1) := by decide +kernel
theorem dX6_restore_26 : decode cX6_restore 26 = .ok (.getfield 61, 3) := by decide +kernel
theorem dX6_restore_29 : decode cX6_restore 29 = .ok (.invokevirtual 64, 3) := by decide +kernel
theorem dX6_restore_32 : decode cX6_restore 32 = .ok (.aload_n 0, 1) := by decide +kernel
theorem dX6_restore_33 : decode cX6_restore 33 = .ok (.getfield 51, 3) := by decide +kernel
theorem dX6_restore_36 : decode cX6_restore 36 = .ok (.getfield 97, 3) := by decide +kernel
theorem dX6_restore_39 : decode cX6_restore 39 = .ok (.ireturn, 1) := by decide +kernel
theorem dX6_edge_0 : decode cX6_edge 0 = .ok (.aload_n 0, 1) := by decide +kernel
theorem dX6_edge_1 : decode cX6_edge 1 = .ok (.getfield 10, 3) := by decide +kernel
theorem dX6_edge_4 : decode cX6_edge 4 = .ok (.iload_n 1, 1) := by decide +kernel
theorem dX6_edge_5 : decode cX6_edge 5 = .ok (.iload_n 2, 1) := by decide +kernel
theorem dX6_edge_6 : decode cX6_edge 6 = .ok (.invokevirtual 152, 3) := by decide +kernel
theorem dX6_edge_9 : decode cX6_edge 9 = .ok (.istore_n 3, 1) := by decide +kernel
theorem dX6_edge_10 : decode cX6_edge 10 = .ok (.iload_n 3, 1) := by decide +kernel
theorem dX6_edge_11 : decode cX6_edge 11 = .ok (.invokestatic 155, 3) := by decide +kernel
theorem dX6_edge_14 : decode cX6_edge 14 = .ok (.ifCond .eq 14, 3) := by decide +kernel
theorem dX6_edge_17 : decode cX6_edge 17 = .ok (.aload_n 0, 1) := by decide +kernel
theorem dX6_edge_18 : decode cX6_edge 18 = .ok (.getfield 51, 3) := by decide +kernel
theorem dX6_edge_21 : decode cX6_edge 21 = .ok (.iload_n 3, 1) := by decide +kernel
theorem dX6_edge_22 : decode cX6_edge 22 = .ok (.invokevirtual 158, 3) := by decide +kernel
theorem dX6_edge_25 : decode cX6_edge 25 = .ok (.goto 4, 3) := by decide +kernel
theorem dX6_edge_28 : decode cX6_edge 28 = .ok (.iconst (-1), 1) := by decide +kernel
theorem dX6_edge_29 : decode cX6_edge 29 = .ok (.ireturn, 1) := by decide +kernel
theorem dX6_field_0 : decode cX6_field 0 = .ok (.iload_n 1, 1) := by decide +kernel
theorem dX6_field_1 : decode cX6_field 1 = .ok (.invokestatic 161, 3) := by decide +kernel
theorem dX6_field_4 : decode cX6_field 4 = .ok (.ifCond .ne 5, 3) := by decide +kernel
theorem dX6_field_7 : decode cX6_field 7 = .ok (.iconst (-1), 1) := by decide +kernel
theorem dX6_field_8 : decode cX6_field 8 = .ok (.ireturn, 1) := by decide +kernel
theorem dX6_field_9 : decode cX6_field 9 = .ok (.aload_n 0, 1) := by decide +kernel
theorem dX6_field_10 : decode cX6_field 10 = .ok (.getfield 21, 3) := by decide +kernel
theorem dX6_field_13 : decode cX6_field 13 = .ok (.aload_n 0, 1) := by decide +kernel
theorem dX6_field_14 : decode cX6_field 14 = .ok (.getfield 51, 3) := by decide +kernel
theorem dX6_field_17 : decode cX6_field 17 = .ok (.invokevirtual 164, 3) := by decide +kernel
theorem dX6_field_20 : decode cX6_field 20 = .ok (.pop, 1) := by decide +kernel
theorem dX6_field_21 : decode cX6_field 21 = .ok (.iload_n 2, 1) := by decide +kernel
theorem dX6_field_22 : decode cX6_field 22 = .ok (.tableswitch 76 0 4 #[34, 43, 52, 61, 70], 34) := by decide +kernel
theorem dX6_field_56 : decode cX6_field 56 = .ok (.aload_n 0, 1) := by decide +kernel
theorem dX6_field_57 : decode cX6_field 57 = .ok (.getfield 51, 3) := by decide +kernel
theorem dX6_field_60 : decode cX6_field 60 = .ok (.iload_n 1, 1) := by decide +kernel
theorem dX6_field_61 : decode cX6_field 61 = .ok (.invokevirtual 167, 3) := by decide +kernel
theorem dX6_field_64 : decode cX6_field 64 = .ok (.ireturn, 1) := by decide +kernel
theorem dX6_field_65 : decode cX6_field 65 = .ok (.aload_n 0, 1) := by decide +kernel
theorem dX6_field_66 : decode cX6_field 66 = .ok (.getfield 21, 3) := by decide +kernel
theorem dX6_field_69 : decode cX6_field 69 = .ok (.iload_n 1, 1) := by decide +kernel
theorem dX6_field_70 : decode cX6_field 70 = .ok (.invokevirtual 170, 3) := by decide +kernel
theorem dX6_field_73 : decode cX6_field 73 = .ok (.ireturn, 1) := by decide +kernel
theorem dX6_field_74 : decode cX6_field 74 = .ok (.aload_n 0, 1) := by decide +kernel
theorem dX6_field_75 : decode cX6_field 75 = .ok (.getfield 21, 3) := by decide +kernel
theorem dX6_field_78 : decode cX6_field 78 = .ok (.iload_n 1, 1) := by decide +kernel
theorem dX6_field_79 : decode cX6_field 79 = .ok (.invokevirtual 173, 3) := by decide +kernel
theorem dX6_field_82 : decode cX6_field 82 = .ok (.ireturn, 1) := by decide +kernel
theorem dX6_field_83 : decode cX6_field 83 = .ok (.aload_n 0, 1) := by decide +kernel
theorem dX6_field_84 : decode cX6_field 84 = .ok (.getfield 21, 3) := by decide +kernel
theorem dX6_field_87 : decode cX6_field 87 = .ok (.iload_n 1, 1) := by decide +kernel
theorem dX6_field_88 : decode cX6_field 88 = .ok (.invokevirtual 176, 3) := by decide +kernel
theorem dX6_field_91 : decode cX6_field 91 = .ok (.ireturn, 1) := by decide +kernel
theorem dX6_field_92 : decode cX6_field 92 = .ok (.aload_n 0, 1) := by decide +kernel
theorem dX6_field_93 : decode cX6_field 93 = .ok (.iload_n 1, 1) := by decide +kernel
theorem dX6_field_94 : decode cX6_field 94 = .ok (.invokevirtual 179, 3) := by decide +kernel
theorem dX6_field_97 : decode cX6_field 97 = .ok (.ireturn, 1) := by decide +kernel
theorem dX6_field_98 : decode cX6_field 98 = .ok (.bipush (-2), 2) := by decide +kernel
theorem dX6_field_100 : decode cX6_field 100 = .ok (.ireturn, 1) := by decide +kernel
theorem dX6_joined_0 : decode cX6_joined 0 = .ok (.iload_n 1, 1) := by decide +kernel
theorem dX6_joined_1 : decode cX6_joined 1 = .ok (.invokestatic 161, 3) := by decide +kernel
theorem dX6_joined_4 : decode cX6_joined 4 = .ok (.ifCond .eq 18, 3) := by decide +kernel
theorem dX6_joined_7 : decode cX6_joined 7 = .ok (.aload_n 0, 1) := by decide +kernel
theorem dX6_joined_8 : decode cX6_joined 8 = .ok (.getfield 21, 3) := by decide +kernel
theorem dX6_joined_11 : decode cX6_joined 11 = .ok (.aload_n 0, 1) := by decide +kernel
theorem dX6_joined_12 : decode cX6_joined 12 = .ok (.getfield 51, 3) := by decide +kernel
theorem dX6_joined_15 : decode cX6_joined 15 = .ok (.iload_n 1, 1) := by decide +kernel
theorem dX6_joined_16 : decode cX6_joined 16 = .ok (.invokevirtual 182, 3) := by decide +kernel
theorem dX6_joined_19 : decode cX6_joined 19 = .ok (.goto 4, 3) := by decide +kernel
theorem dX6_joined_22 : decode cX6_joined 22 = .ok (.iconst (-1), 1) := by decide +kernel
theorem dX6_joined_23 : decode cX6_joined 23 = .ok (.ireturn, 1) := by decide +kernel
theorem dX6_letter_0 : decode cX6_letter 0 = .ok (.aload_n 0, 1) := by decide +kernel
theorem dX6_letter_1 : decode cX6_letter 1 = .ok (.getfield 51, 3) := by decide +kernel
theorem dX6_letter_4 : decode cX6_letter 4 = .ok (.iload_n 1, 1) := by decide +kernel
theorem dX6_letter_5 : decode cX6_letter 5 = .ok (.invokevirtual 83, 3) := by decide +kernel
theorem dX6_letter_8 : decode cX6_letter 8 = .ok (.ifCond .ne 5, 3) := by decide +kernel
theorem dX6_letter_11 : decode cX6_letter 11 = .ok (.iconst (-1), 1) := by decide +kernel
theorem dX6_letter_12 : decode cX6_letter 12 = .ok (.ireturn, 1) := by decide +kernel
theorem dX6_letter_13 : decode cX6_letter 13 = .ok (.iload_n 2, 1) := by decide +kernel
theorem dX6_letter_14 : decode cX6_letter 14 = .ok (.ifCond .lt 9, 3) := by decide +kernel
theorem dX6_letter_17 : decode cX6_letter 17 = .ok (.iload_n 2, 1) := by decide +kernel
theorem dX6_letter_18 : decode cX6_letter 18 = .ok (.bipush 10, 2) := by decide +kernel
theorem dX6_letter_20 : decode cX6_letter 20 = .ok (.if_icmp .lt 6, 3) := by decide +kernel
theorem dX6_letter_23 : decode cX6_letter 23 = .ok (.bipush (-2), 2) := by decide +kernel
theorem dX6_letter_25 : decode cX6_letter 25 = .ok (.ireturn, 1) := by decide +kernel
theorem dX6_letter_26 : decode cX6_letter 26 = .ok (.aload_n 0, 1) := by decide +kernel
theorem dX6_letter_27 : decode cX6_letter 27 = .ok (.getfield 51, 3) := by decide +kernel
theorem dX6_letter_30 : decode cX6_letter 30 = .ok (.iload_n 1, 1) := by decide +kernel
theorem dX6_letter_31 : decode cX6_letter 31 = .ok (.iload_n 2, 1) := by decide +kernel
theorem dX6_letter_32 : decode cX6_letter 32 = .ok (.invokevirtual 87, 3) := by decide +kernel
theorem dX6_letter_35 : decode cX6_letter 35 = .ok (.ireturn, 1) := by decide +kernel
theorem dX6_crossed_0 : decode cX6_crossed 0 = .ok (.aload_n 0, 1) := by decide +kernel
theorem dX6_crossed_1 : decode cX6_crossed 1 = .ok (.getfield 51, 3) := by decide +kernel
theorem dX6_crossed_4 : decode cX6_crossed 4 = .ok (.iload_n 1, 1) := by decide +kernel
theorem dX6_crossed_5 : decode cX6_crossed 5 = .ok (.invokevirtual 83, 3) := by decide +kernel
theorem dX6_crossed_8 : decode cX6_crossed 8 = .ok (.ifCond .eq 14, 3) := by decide +kernel
theorem dX6_crossed_11 : decode cX6_crossed 11 = .ok (.aload_n 0, 1) := by decide +kernel
theorem dX6_crossed_12 : decode cX6_crossed 12 = .ok (.getfield 51, 3) := by decide +kernel
theorem dX6_crossed_15 : decode cX6_crossed 15 = .ok (.iload_n 2, 1) := by decide +kernel
theorem dX6_crossed_16 : decode cX6_crossed 16 = .ok (.invokevirtual 83, 3) := by decide +kernel
theorem dX6_crossed_19 : decode cX6_crossed 19 = .ok (.ifCond .ne 5, 3) := by decide +kernel
theorem dX6_crossed_22 : decode cX6_crossed 22 = .ok (.iconst (-1), 1) := by decide +kernel
theorem dX6_crossed_23 : decode cX6_crossed 23 = .ok (.ireturn, 1) := by decide +kernel
theorem dX6_crossed_24 : decode cX6_crossed 24 = .ok (.iload_n 1, 1) := by decide +kernel
theorem dX6_crossed_25 : decode cX6_crossed 25 = .ok (.iload_n 2, 1) := by decide +kernel
theorem dX6_crossed_26 : decode cX6_crossed 26 = .ok (.if_icmp .ne 6, 3) := by decide +kernel
theorem dX6_crossed_29 : decode cX6_crossed 29 = .ok (.bipush (-2), 2) := by decide +kernel
theorem dX6_crossed_31 : decode cX6_crossed 31 = .ok (.ireturn, 1) := by decide +kernel
theorem dX6_crossed_32 : decode cX6_crossed 32 = .ok (.aload_n 0, 1) := by decide +kernel
theorem dX6_crossed_33 : decode cX6_crossed 33 = .ok (.getfield 51, 3) := by decide +kernel
theorem dX6_crossed_36 : decode cX6_crossed 36 = .ok (.iload_n 1, 1) := by decide +kernel
theorem dX6_crossed_37 : decode cX6_crossed 37 = .ok (.iload_n 2, 1) := by decide +kernel
theorem dX6_crossed_38 : decode cX6_crossed 38 = .ok (.invokevirtual 186, 3) := by decide +kernel
theorem dX6_crossed_41 : decode cX6_crossed 41 = .ok (.ifCond .eq 7, 3) := by decide +kernel
theorem dX6_crossed_44 : decode cX6_crossed 44 = .ok (.iconst 1, 1) := by decide +kernel
theorem dX6_crossed_45 : decode cX6_crossed 45 = .ok (.goto 4, 3) := by decide +kernel
theorem dX6_crossed_48 : decode cX6_crossed 48 = .ok (.iconst 0, 1) := by decide +kernel
theorem dX6_crossed_49 : decode cX6_crossed 49 = .ok (.ireturn, 1) := by decide +kernel
theorem dX6_reasonEdge_0 : decode cX6_reasonEdge 0 = .ok (.aload_n 0, 1) := by decide +kernel
theorem dX6_reasonEdge_1 : decode cX6_reasonEdge 1 = .ok (.getfield 10, 3) := by decide +kernel
theorem dX6_reasonEdge_4 : decode cX6_reasonEdge 4 = .ok (.iload_n 2, 1) := by decide +kernel
theorem dX6_reasonEdge_5 : decode cX6_reasonEdge 5 = .ok (.iload_n 3, 1) := by decide +kernel
theorem dX6_reasonEdge_6 : decode cX6_reasonEdge 6 = .ok (.invokevirtual 152, 3) := by decide +kernel
theorem dX6_reasonEdge_9 : decode cX6_reasonEdge 9 = .ok (.istore 4, 2) := by decide +kernel
theorem dX6_reasonEdge_11 : decode cX6_reasonEdge 11 = .ok (.iload 4, 2) := by decide +kernel
theorem dX6_reasonEdge_13 : decode cX6_reasonEdge 13 = .ok (.invokestatic 155, 3) := by decide +kernel
theorem dX6_reasonEdge_16 : decode cX6_reasonEdge 16 = .ok (.ifCond .ne 5, 3) := by decide +kernel
theorem dX6_reasonEdge_19 : decode cX6_reasonEdge 19 = .ok (.iconst (-1), 1) := by decide +kernel
theorem dX6_reasonEdge_20 : decode cX6_reasonEdge 20 = .ok (.ireturn, 1) := by decide +kernel
theorem dX6_reasonEdge_21 : decode cX6_reasonEdge 21 = .ok (.iload_n 1, 1) := by decide +kernel
theorem dX6_reasonEdge_22 : decode cX6_reasonEdge 22 = .ok (.ifCond .eq 19, 3) := by decide +kernel
theorem dX6_reasonEdge_25 : decode cX6_reasonEdge 25 = .ok (.aload_n 0, 1) := by decide +kernel
theorem dX6_reasonEdge_26 : decode cX6_reasonEdge 26 = .ok (.getfield 30, 3) := by decide +kernel
theorem dX6_reasonEdge_29 : decode cX6_reasonEdge 29 = .ok (.aload_n 0, 1) := by decide +kernel
theorem dX6_reasonEdge_30 : decode cX6_reasonEdge 30 = .ok (.getfield 51, 3) := by decide +kernel
theorem dX6_reasonEdge_33 : decode cX6_reasonEdge 33 = .ok (.iload 4, 2) := by decide +kernel
theorem dX6_reasonEdge_35 : decode cX6_reasonEdge 35 = .ok (.invokevirtual 190, 3) := by decide +kernel
theorem dX6_reasonEdge_38 : decode cX6_reasonEdge 38 = .ok (.goto 16, 3) := by decide +kernel
theorem dX6_reasonEdge_41 : decode cX6_reasonEdge 41 = .ok (.aload_n 0, 1) := by decide +kernel
theorem dX6_reasonEdge_42 : decode cX6_reasonEdge 42 = .ok (.getfield 30, 3) := by decide +kernel
theorem dX6_reasonEdge_45 : decode cX6_reasonEdge 45 = .ok (.aload_n 0, 1) := by decide +kernel
theorem dX6_reasonEdge_46 : decode cX6_reasonEdge 46 = .ok (.getfield 51, 3) := by decide +kernel
theorem dX6_reasonEdge_49 : decode cX6_reasonEdge 49 = .ok (.iload 4, 2) := by decide +kernel
theorem dX6_reasonEdge_51 : decode cX6_reasonEdge 51 = .ok (.invokevirtual 193, 3) := by decide +kernel
theorem dX6_reasonEdge_54 : decode cX6_reasonEdge 54 = .ok (.ireturn, 1) := by decide +kernel
theorem dX6_reasonClaim_0 : decode cX6_reasonClaim 0 = .ok (.iload_n 1, 1) := by decide +kernel
theorem dX6_reasonClaim_1 : decode cX6_reasonClaim 1 = .ok (.invokestatic 161, 3) := by decide +kernel
theorem dX6_reasonClaim_4 : decode cX6_reasonClaim 4 = .ok (.ifCond .ne 5, 3) := by decide +kernel
theorem dX6_reasonClaim_7 : decode cX6_reasonClaim 7 = .ok (.iconst (-1), 1) := by decide +kernel
theorem dX6_reasonClaim_8 : decode cX6_reasonClaim 8 = .ok (.ireturn, 1) := by decide +kernel
theorem dX6_reasonClaim_9 : decode cX6_reasonClaim 9 = .ok (.aload_n 0, 1) := by decide +kernel
theorem dX6_reasonClaim_10 : decode cX6_reasonClaim 10 = .ok (.getfield 21, 3) := by decide +kernel
theorem dX6_reasonClaim_13 : decode cX6_reasonClaim 13 = .ok (.aload_n 0, 1) := by decide +kernel
theorem dX6_reasonClaim_14 : decode cX6_reasonClaim 14 = .ok (.getfield 51, 3) := by decide +kernel
theorem dX6_reasonClaim_17 : decode cX6_reasonClaim 17 = .ok (.invokevirtual 164, 3) := by decide +kernel
theorem dX6_reasonClaim_20 : decode cX6_reasonClaim 20 = .ok (.pop, 1) := by decide +kernel
theorem dX6_reasonClaim_21 : decode cX6_reasonClaim 21 = .ok (.aload_n 0, 1) := by decide +kernel
theorem dX6_reasonClaim_22 : decode cX6_reasonClaim 22 = .ok (.getfield 30, 3) := by decide +kernel
theorem dX6_reasonClaim_25 : decode cX6_reasonClaim 25 = .ok (.aload_n 0, 1) := by decide +kernel
theorem dX6_reasonClaim_26 : decode cX6_reasonClaim 26 = .ok (.getfield 51, 3) := by decide +kernel
theorem dX6_reasonClaim_29 : decode cX6_reasonClaim 29 = .ok (.iload_n 1, 1) := by decide +kernel
theorem dX6_reasonClaim_30 : decode cX6_reasonClaim 30 = .ok (.invokevirtual 196, 3) := by decide +kernel
theorem dX6_reasonClaim_33 : decode cX6_reasonClaim 33 = .ok (.ireturn, 1) := by decide +kernel
theorem dX6_next_0 : decode cX6_next 0 = .ok (.iload_n 1, 1) := by decide +kernel
theorem dX6_next_1 : decode cX6_next 1 = .ok (.ifCond .lt 8, 3) := by decide +kernel
theorem dX6_next_4 : decode cX6_next 4 = .ok (.iload_n 1, 1) := by decide +kernel
theorem dX6_next_5 : decode cX6_next 5 = .ok (.iconst 1, 1) := by decide +kernel
theorem dX6_next_6 : decode cX6_next 6 = .ok (.if_icmp .le 6, 3) := by decide +kernel
theorem dX6_next_9 : decode cX6_next 9 = .ok (.bipush (-2), 2) := by decide +kernel
theorem dX6_next_11 : decode cX6_next 11 = .ok (.ireturn, 1) := by decide +kernel
theorem dX6_next_12 : decode cX6_next 12 = .ok (.aload_n 0, 1) := by decide +kernel
theorem dX6_next_13 : decode cX6_next 13 = .ok (.getfield 51, 3) := by decide +kernel
theorem dX6_next_16 : decode cX6_next 16 = .ok (.invokevirtual 199, 3) := by decide +kernel
theorem dX6_next_19 : decode cX6_next 19 = .ok (.istore_n 2, 1) := by decide +kernel
theorem dX6_next_20 : decode cX6_next 20 = .ok (.iload_n 2, 1) := by decide +kernel
theorem dX6_next_21 : decode cX6_next 21 = .ok (.bipush (-5), 2) := by decide +kernel
theorem dX6_next_23 : decode cX6_next 23 = .ok (.if_icmp .ne 6, 3) := by decide +kernel
theorem dX6_next_26 : decode cX6_next 26 = .ok (.bipush (-5), 2) := by decide +kernel
theorem dX6_next_28 : decode cX6_next 28 = .ok (.ireturn, 1) := by decide +kernel
theorem dX6_next_29 : decode cX6_next 29 = .ok (.iload_n 1, 1) := by decide +kernel
theorem dX6_next_30 : decode cX6_next 30 = .ok (.ifCond .ne 7, 3) := by decide +kernel
theorem dX6_next_33 : decode cX6_next 33 = .ok (.iload_n 2, 1) := by decide +kernel
theorem dX6_next_34 : decode cX6_next 34 = .ok (.goto 20, 3) := by decide +kernel
theorem dX6_next_37 : decode cX6_next 37 = .ok (.aload_n 0, 1) := by decide +kernel
theorem dX6_next_38 : decode cX6_next 38 = .ok (.getfield 51, 3) := by decide +kernel
theorem dX6_next_41 : decode cX6_next 41 = .ok (.iload_n 2, 1) := by decide +kernel
theorem dX6_next_42 : decode cX6_next 42 = .ok (.iconst 5, 1) := by decide +kernel
theorem dX6_next_43 : decode cX6_next 43 = .ok (.invokevirtual 87, 3) := by decide +kernel
theorem dX6_next_46 : decode cX6_next 46 = .ok (.aload_n 0, 1) := by decide +kernel
theorem dX6_next_47 : decode cX6_next 47 = .ok (.getfield 51, 3) := by decide +kernel
theorem dX6_next_50 : decode cX6_next 50 = .ok (.getfield 97, 3) := by decide +kernel
theorem dX6_next_53 : decode cX6_next 53 = .ok (.isub, 1) := by decide +kernel
theorem dX6_next_54 : decode cX6_next 54 = .ok (.ireturn, 1) := by decide +kernel
theorem dX6_ifAllCome_0 : decode cX6_ifAllCome 0 = .ok (.iload_n 1, 1) := by decide +kernel
theorem dX6_ifAllCome_1 : decode cX6_ifAllCome 1 = .ok (.ifCond .lt 8, 3) := by decide +kernel
theorem dX6_ifAllCome_4 : decode cX6_ifAllCome 4 = .ok (.iload_n 1, 1) := by decide +kernel
theorem dX6_ifAllCome_5 : decode cX6_ifAllCome 5 = .ok (.iconst 3, 1) := by decide +kernel
theorem dX6_ifAllCome_6 : decode cX6_ifAllCome 6 = .ok (.if_icmp .le 6, 3) := by decide +kernel
theorem dX6_ifAllCome_9 : decode cX6_ifAllCome 9 = .ok (.bipush (-2), 2) := by decide +kernel
theorem dX6_ifAllCome_11 : decode cX6_ifAllCome 11 = .ok (.ireturn, 1) := by decide +kernel
theorem dX6_ifAllCome_12 : decode cX6_ifAllCome 12 = .ok (.aload_n 0, 1) := by decide +kernel
theorem dX6_ifAllCome_13 : decode cX6_ifAllCome 13 = .ok (.getfield 58, 3) := by decide +kernel
theorem dX6_ifAllCome_16 : decode cX6_ifAllCome 16 = .ok (.aload_n 0, 1) := by decide +kernel
theorem dX6_ifAllCome_17 : decode cX6_ifAllCome 17 = .ok (.getfield 51, 3) := by decide +kernel
theorem dX6_ifAllCome_20 : decode cX6_ifAllCome 20 = .ok (.invokevirtual 64, 3) := by decide +kernel
theorem dX6_ifAllCome_23 : decode cX6_ifAllCome 23 = .ok (.aload_n 0, 1) := by decide +kernel
theorem dX6_ifAllCome_24 : decode cX6_ifAllCome 24 = .ok (.getfield 30, 3) := by decide +kernel
theorem dX6_ifAllCome_27 : decode cX6_ifAllCome 27 = .ok (.aload_n 0, 1) := by decide +kernel
theorem dX6_ifAllCome_28 : decode cX6_ifAllCome 28 = .ok (.getfield 58, 3) := by decide +kernel
theorem dX6_ifAllCome_31 : decode cX6_ifAllCome 31 = .ok (.sipush 10008, 3) := by decide +kernel
theorem dX6_ifAllCome_34 : decode cX6_ifAllCome 34 = .ok (.invokevirtual 202, 3) := by decide +kernel
theorem dX6_ifAllCome_37 : decode cX6_ifAllCome 37 = .ok (.pop, 1) := by decide +kernel
theorem dX6_ifAllCome_38 : decode cX6_ifAllCome 38 = .ok (.iload_n 1, 1) := by decide +kernel
theorem dX6_ifAllCome_39 : decode cX6_ifAllCome 39 = .ok (.lookupswitch 43 #[(2, 25), (3, 34)], 25) := by decide +kernel
theorem dX6_ifAllCome_64 : decode cX6_ifAllCome 64 = .ok (.aload_n 0, 1) := by decide +kernel
theorem dX6_ifAllCome_65 : decode cX6_ifAllCome 65 = .ok (.getfield 58, 3) := by decide +kernel
theorem dX6_ifAllCome_68 : decode cX6_ifAllCome 68 = .ok (.iconst 3, 1) := by decide +kernel
theorem dX6_ifAllCome_69 : decode cX6_ifAllCome 69 = .ok (.invokevirtual 205, 3) := by decide +kernel
theorem dX6_ifAllCome_72 : decode cX6_ifAllCome 72 = .ok (.ireturn, 1) := by decide +kernel
theorem dX6_ifAllCome_73 : decode cX6_ifAllCome 73 = .ok (.aload_n 0, 1) := by decide +kernel
theorem dX6_ifAllCome_74 : decode cX6_ifAllCome 74 = .ok (.getfield 58, 3) := by decide +kernel
theorem dX6_ifAllCome_77 : decode cX6_ifAllCome 77 = .ok (.iconst 2, 1) := by decide +kernel
theorem dX6_ifAllCome_78 : decode cX6_ifAllCome 78 = .ok (.invokevirtual 208, 3) := by decide +kernel
theorem dX6_ifAllCome_81 : decode cX6_ifAllCome 81 = .ok (.ireturn, 1) := by decide +kernel
theorem dX6_ifAllCome_82 : decode cX6_ifAllCome 82 = .ok (.aload_n 0, 1) := by decide +kernel
theorem dX6_ifAllCome_83 : decode cX6_ifAllCome 83 = .ok (.getfield 58, 3) := by decide +kernel
theorem dX6_ifAllCome_86 : decode cX6_ifAllCome 86 = .ok (.iload_n 1, 1) := by decide +kernel
theorem dX6_ifAllCome_87 : decode cX6_ifAllCome 87 = .ok (.invokevirtual 211, 3) := by decide +kernel
theorem dX6_ifAllCome_90 : decode cX6_ifAllCome 90 = .ok (.ireturn, 1) := by decide +kernel
theorem dX6_bestClaim_0 : decode cX6_bestClaim 0 = .ok (.iload_n 1, 1) := by decide +kernel
theorem dX6_bestClaim_1 : decode cX6_bestClaim 1 = .ok (.ifCond .lt 8, 3) := by decide +kernel
theorem dX6_bestClaim_4 : decode cX6_bestClaim 4 = .ok (.iload_n 1, 1) := by decide +kernel
theorem dX6_bestClaim_5 : decode cX6_bestClaim 5 = .ok (.iconst 1, 1) := by decide +kernel
theorem dX6_bestClaim_6 : decode cX6_bestClaim 6 = .ok (.if_icmp .le 6, 3) := by decide +kernel
theorem dX6_bestClaim_9 : decode cX6_bestClaim 9 = .ok (.bipush (-2), 2) := by decide +kernel
theorem dX6_bestClaim_11 : decode cX6_bestClaim 11 = .ok (.ireturn, 1) := by decide +kernel
theorem dX6_bestClaim_12 : decode cX6_bestClaim 12 = .ok (.aload_n 0, 1) := by decide +kernel
theorem dX6_bestClaim_13 : decode cX6_bestClaim 13 = .ok (.getfield 21, 3) := by decide +kernel
theorem dX6_bestClaim_16 : decode cX6_bestClaim 16 = .ok (.aload_n 0, 1) := by decide +kernel
theorem dX6_bestClaim_17 : decode cX6_bestClaim 17 = .ok (.getfield 51, 3) := by decide +kernel
theorem dX6_bestClaim_20 : decode cX6_bestClaim 20 = .ok (.invokevirtual 164, 3) := by decide +kernel
theorem dX6_bestClaim_23 : decode cX6_bestClaim 23 = .ok (.pop, 1) := by decide +kernel
theorem dX6_bestClaim_24 : decode cX6_bestClaim 24 = .ok (.bipush (-5), 2) := by decide +kernel
theorem dX6_bestClaim_26 : decode cX6_bestClaim 26 = .ok (.istore_n 2, 1) := by decide +kernel
theorem dX6_bestClaim_27 : decode cX6_bestClaim 27 = .ok (.iconst 0, 1) := by decide +kernel
theorem dX6_bestClaim_28 : decode cX6_bestClaim 28 = .ok (.istore_n 3, 1) := by decide +kernel
theorem dX6_bestClaim_29 : decode cX6_bestClaim 29 = .ok (.iconst 0, 1) := by decide +kernel
theorem dX6_bestClaim_30 : decode cX6_bestClaim 30 = .ok (.istore 4, 2) := by decide +kernel
theorem dX6_bestClaim_32 : decode cX6_bestClaim 32 = .ok (.iload 4, 2) := by decide +kernel
theorem dX6_bestClaim_34 : decode cX6_bestClaim 34 = .ok (.bipush 48, 2) := by decide +kernel
theorem dX6_bestClaim_36 : decode cX6_bestClaim 36 = .ok (.if_icmp .ge 48, 3) := by decide +kernel
theorem dX6_bestClaim_39 : decode cX6_bestClaim 39 = .ok (.aload_n 0, 1) := by decide +kernel
theorem dX6_bestClaim_40 : decode cX6_bestClaim 40 = .ok (.getfield 21, 3) := by decide +kernel
theorem dX6_bestClaim_43 : decode cX6_bestClaim 43 = .ok (.iload 4, 2) := by decide +kernel
theorem dX6_bestClaim_45 : decode cX6_bestClaim 45 = .ok (.invokevirtual 173, 3) := by decide +kernel
theorem dX6_bestClaim_48 : decode cX6_bestClaim 48 = .ok (.istore 5, 2) := by decide +kernel
theorem dX6_bestClaim_50 : decode cX6_bestClaim 50 = .ok (.iload 5, 2) := by decide +kernel
theorem dX6_bestClaim_52 : decode cX6_bestClaim 52 = .ok (.iload_n 3, 1) := by decide +kernel
theorem dX6_bestClaim_53 : decode cX6_bestClaim 53 = .ok (.if_icmp .le 25, 3) := by decide +kernel
theorem dX6_bestClaim_56 : decode cX6_bestClaim 56 = .ok (.aload_n 0, 1) := by decide +kernel
theorem dX6_bestClaim_57 : decode cX6_bestClaim 57 = .ok (.getfield 30, 3) := by decide +kernel
theorem dX6_bestClaim_60 : decode cX6_bestClaim 60 = .ok (.aload_n 0, 1) := by decide +kernel
theorem dX6_bestClaim_61 : decode cX6_bestClaim 61 = .ok (.getfield 51, 3) := by decide +kernel
theorem dX6_bestClaim_64 : decode cX6_bestClaim 64 = .ok (.iload 4, 2) := by decide +kernel
theorem dX6_bestClaim_66 : decode cX6_bestClaim 66 = .ok (.invokevirtual 196, 3) := by decide +kernel
theorem dX6_bestClaim_69 : decode cX6_bestClaim 69 = .ok (.ifCond .ne 9, 3) := by decide +kernel
theorem dX6_bestClaim_72 : decode cX6_bestClaim 72 = .ok (.iload 4, 2) := by decide +kernel
theorem dX6_bestClaim_74 : decode cX6_bestClaim 74 = .ok (.istore_n 2, 1) := by decide +kernel
theorem dX6_bestClaim_75 : decode cX6_bestClaim 75 = .ok (.iload 5, 2) := by decide +kernel
theorem dX6_bestClaim_77 : decode cX6_bestClaim 77 = .ok (.istore_n 3, 1) := by decide +kernel
theorem dX6_bestClaim_78 : decode cX6_bestClaim 78 = .ok (.iinc 4 1, 3) := by decide +kernel
theorem dX6_bestClaim_81 : decode cX6_bestClaim 81 = .ok (.goto (-49), 3) := by decide +kernel
theorem dX6_bestClaim_84 : decode cX6_bestClaim 84 = .ok (.iload_n 2, 1) := by decide +kernel
theorem dX6_bestClaim_85 : decode cX6_bestClaim 85 = .ok (.bipush (-5), 2) := by decide +kernel
theorem dX6_bestClaim_87 : decode cX6_bestClaim 87 = .ok (.if_icmp .ne 6, 3) := by decide +kernel
theorem dX6_bestClaim_90 : decode cX6_bestClaim 90 = .ok (.bipush (-5), 2) := by decide +kernel
theorem dX6_bestClaim_92 : decode cX6_bestClaim 92 = .ok (.ireturn, 1) := by decide +kernel
theorem dX6_bestClaim_93 : decode cX6_bestClaim 93 = .ok (.iload_n 1, 1) := by decide +kernel
theorem dX6_bestClaim_94 : decode cX6_bestClaim 94 = .ok (.ifCond .ne 7, 3) := by decide +kernel
theorem dX6_bestClaim_97 : decode cX6_bestClaim 97 = .ok (.iload_n 2, 1) := by decide +kernel
theorem dX6_bestClaim_98 : decode cX6_bestClaim 98 = .ok (.goto 4, 3) := by decide +kernel
theorem dX6_bestClaim_101 : decode cX6_bestClaim 101 = .ok (.iload_n 3, 1) := by decide +kernel
theorem dX6_bestClaim_102 : decode cX6_bestClaim 102 = .ok (.ireturn, 1) := by decide +kernel
theorem dX6_count_0 : decode cX6_count 0 = .ok (.iload_n 1, 1) := by decide +kernel
theorem dX6_count_1 : decode cX6_count 1 = .ok (.tableswitch 289 0 19 #[95, 103, 111, 120, 129, 138, 146, 154, 163, 172, 184, 196, 205, 217, 233, 243, 253, 263, 273, 281], 95) := by decide +kernel
theorem dX6_count_96 : decode cX6_count 96 = .ok (.aload_n 0, 1) := by decide +kernel
theorem dX6_count_97 : decode cX6_count 97 = .ok (.getfield 51, 3) := by decide +kernel
theorem dX6_count_100 : decode cX6_count 100 = .ok (.getfield 97, 3) := by decide +kernel
theorem dX6_count_103 : decode cX6_count 103 = .ok (.ireturn, 1) := by decide +kernel
theorem dX6_count_104 : decode cX6_count 104 = .ok (.aload_n 0, 1) := by decide +kernel
theorem dX6_count_105 : decode cX6_count 105 = .ok (.getfield 51, 3) := by decide +kernel
theorem dX6_count_108 : decode cX6_count 108 = .ok (.getfield 214, 3) := by decide +kernel
theorem dX6_count_111 : decode cX6_count 111 = .ok (.ireturn, 1) := by decide +kernel
theorem dX6_count_112 : decode cX6_count 112 = .ok (.aload_n 0, 1) := by decide +kernel
theorem dX6_count_113 : decode cX6_count 113 = .ok (.getfield 51, 3) := by decide +kernel
theorem dX6_count_116 : decode cX6_count 116 = .ok (.iconst 0, 1) := by decide +kernel
theorem dX6_count_117 : decode cX6_count 117 = .ok (.invokevirtual 208, 3) := by decide +kernel
theorem dX6_count_120 : decode cX6_count 120 = .ok (.ireturn, 1) := by decide +kernel
theorem dX6_count_121 : decode cX6_count 121 = .ok (.aload_n 0, 1) := by decide +kernel
theorem dX6_count_122 : decode cX6_count 122 = .ok (.getfield 51, 3) := by decide +kernel
theorem dX6_count_125 : decode cX6_count 125 = .ok (.iconst 1, 1) := by decide +kernel
theorem dX6_count_126 : decode cX6_count 126 = .ok (.invokevirtual 208, 3) := by decide +kernel
theorem dX6_count_129 : decode cX6_count 129 = .ok (.ireturn, 1) := by decide +kernel
theorem dX6_count_130 : decode cX6_count 130 = .ok (.aload_n 0, 1) := by decide +kernel
theorem dX6_count_131 : decode cX6_count 131 = .ok (.getfield 51, 3) := by decide +kernel
theorem dX6_count_134 : decode cX6_count 134 = .ok (.iconst 2, 1) := by decide +kernel
theorem dX6_count_135 : decode cX6_count 135 = .ok (.invokevirtual 208, 3) := by decide +kernel
theorem dX6_count_138 : decode cX6_count 138 = .ok (.ireturn, 1) := by decide +kernel
theorem dX6_count_139 : decode cX6_count 139 = .ok (.aload_n 0, 1) := by decide +kernel
theorem dX6_count_140 : decode cX6_count 140 = .ok (.getfield 51, 3) := by decide +kernel
theorem dX6_count_143 : decode cX6_count 143 = .ok (.getfield 217, 3) := by decide +kernel
theorem dX6_count_146 : decode cX6_count 146 = .ok (.ireturn, 1) := by decide +kernel
theorem dX6_count_147 : decode cX6_count 147 = .ok (.aload_n 0, 1) := by decide +kernel
theorem dX6_count_148 : decode cX6_count 148 = .ok (.getfield 51, 3) := by decide +kernel
theorem dX6_count_151 : decode cX6_count 151 = .ok (.invokevirtual 220, 3) := by decide +kernel
theorem dX6_count_154 : decode cX6_count 154 = .ok (.ireturn, 1) := by decide +kernel
theorem dX6_count_155 : decode cX6_count 155 = .ok (.aload_n 0, 1) := by decide +kernel
theorem dX6_count_156 : decode cX6_count 156 = .ok (.getfield 51, 3) := by decide +kernel
theorem dX6_count_159 : decode cX6_count 159 = .ok (.iconst 0, 1) := by decide +kernel
theorem dX6_count_160 : decode cX6_count 160 = .ok (.invokevirtual 211, 3) := by decide +kernel
theorem dX6_count_163 : decode cX6_count 163 = .ok (.ireturn, 1) := by decide +kernel
theorem dX6_count_164 : decode cX6_count 164 = .ok (.aload_n 0, 1) := by decide +kernel
theorem dX6_count_165 : decode cX6_count 165 = .ok (.getfield 51, 3) := by decide +kernel
theorem dX6_count_168 : decode cX6_count 168 = .ok (.iconst 1, 1) := by decide +kernel
theorem dX6_count_169 : decode cX6_count 169 = .ok (.invokevirtual 211, 3) := by decide +kernel
theorem dX6_count_172 : decode cX6_count 172 = .ok (.ireturn, 1) := by decide +kernel
theorem dX6_count_173 : decode cX6_count 173 = .ok (.aload_n 0, 1) := by decide +kernel
theorem dX6_count_174 : decode cX6_count 174 = .ok (.getfield 51, 3) := by decide +kernel
theorem dX6_count_177 : decode cX6_count 177 = .ok (.iconst 0, 1) := by decide +kernel
theorem dX6_count_178 : decode cX6_count 178 = .ok (.invokestatic 223, 3) := by decide +kernel
theorem dX6_count_181 : decode cX6_count 181 = .ok (.invokevirtual 205, 3) := by decide +kernel
theorem dX6_count_184 : decode cX6_count 184 = .ok (.ireturn, 1) := by decide +kernel
theorem dX6_count_185 : decode cX6_count 185 = .ok (.aload_n 0, 1) := by decide +kernel
theorem dX6_count_186 : decode cX6_count 186 = .ok (.getfield 51, 3) := by decide +kernel
theorem dX6_count_189 : decode cX6_count 189 = .ok (.iconst 1, 1) := by decide +kernel
theorem dX6_count_190 : decode cX6_count 190 = .ok (.invokestatic 223, 3) := by decide +kernel
theorem dX6_count_193 : decode cX6_count 193 = .ok (.invokevirtual 205, 3) := by decide +kernel
theorem dX6_count_196 : decode cX6_count 196 = .ok (.ireturn, 1) := by decide +kernel
theorem dX6_count_197 : decode cX6_count 197 = .ok (.aload_n 0, 1) := by decide +kernel
theorem dX6_count_198 : decode cX6_count 198 = .ok (.getfield 51, 3) := by decide +kernel
theorem dX6_count_201 : decode cX6_count 201 = .ok (.iconst 3, 1) := by decide +kernel
theorem dX6_count_202 : decode cX6_count 202 = .ok (.invokevirtual 205, 3) := by decide +kernel
theorem dX6_count_205 : decode cX6_count 205 = .ok (.ireturn, 1) := by decide +kernel
theorem dX6_count_206 : decode cX6_count 206 = .ok (.aload_n 0, 1) := by decide +kernel
theorem dX6_count_207 : decode cX6_count 207 = .ok (.getfield 21, 3) := by decide +kernel
theorem dX6_count_210 : decode cX6_count 210 = .ok (.aload_n 0, 1) := by decide +kernel
theorem dX6_count_211 : decode cX6_count 211 = .ok (.getfield 51, 3) := by decide +kernel
theorem dX6_count_214 : decode cX6_count 214 = .ok (.invokevirtual 164, 3) := by decide +kernel
theorem dX6_count_217 : decode cX6_count 217 = .ok (.ireturn, 1) := by decide +kernel
theorem dX6_count_218 : decode cX6_count 218 = .ok (.aload_n 0, 1) := by decide +kernel
theorem dX6_count_219 : decode cX6_count 219 = .ok (.getfield 51, 3) := by decide +kernel
theorem dX6_count_222 : decode cX6_count 222 = .ok (.invokevirtual 226, 3) := by decide +kernel
theorem dX6_count_225 : decode cX6_count 225 = .ok (.ifCond .eq 7, 3) := by decide +kernel
theorem dX6_count_228 : decode cX6_count 228 = .ok (.iconst 1, 1) := by decide +kernel
theorem dX6_count_229 : decode cX6_count 229 = .ok (.goto 4, 3) := by decide +kernel
theorem dX6_count_232 : decode cX6_count 232 = .ok (.iconst 0, 1) := by decide +kernel
theorem dX6_count_233 : decode cX6_count 233 = .ok (.ireturn, 1) := by decide +kernel
theorem dX6_count_234 : decode cX6_count 234 = .ok (.aload_n 0, 1) := by decide +kernel
theorem dX6_count_235 : decode cX6_count 235 = .ok (.getfield 51, 3) := by decide +kernel
theorem dX6_count_238 : decode cX6_count 238 = .ok (.getfield 230, 3) := by decide +kernel
theorem dX6_count_241 : decode cX6_count 241 = .ok (.iconst 0, 1) := by decide +kernel
theorem dX6_count_242 : decode cX6_count 242 = .ok (.iaload, 1) := by decide +kernel
theorem dX6_count_243 : decode cX6_count 243 = .ok (.ireturn, 1) := by decide +kernel
theorem dX6_count_244 : decode cX6_count 244 = .ok (.aload_n 0, 1) := by decide +kernel
theorem dX6_count_245 : decode cX6_count 245 = .ok (.getfield 51, 3) := by decide +kernel
theorem dX6_count_248 : decode cX6_count 248 = .ok (.getfield 230, 3) := by decide +kernel
theorem dX6_count_251 : decode cX6_count 251 = .ok (.iconst 1, 1) := by decide +kernel
theorem dX6_count_252 : decode cX6_count 252 = .ok (.iaload, 1) := by decide +kernel
theorem dX6_count_253 : decode cX6_count 253 = .ok (.ireturn, 1) := by decide +kernel
theorem dX6_count_254 : decode cX6_count 254 = .ok (.aload_n 0, 1) := by decide +kernel
theorem dX6_count_255 : decode cX6_count 255 = .ok (.getfield 51, 3) := by decide +kernel
theorem dX6_count_258 : decode cX6_count 258 = .ok (.getfield 104, 3) := by decide +kernel
theorem dX6_count_261 : decode cX6_count 261 = .ok (.iconst 0, 1) := by decide +kernel
theorem dX6_count_262 : decode cX6_count 262 = .ok (.iaload, 1) := by decide +kernel
theorem dX6_count_263 : decode cX6_count 263 = .ok (.ireturn, 1) := by decide +kernel
theorem dX6_count_264 : decode cX6_count 264 = .ok (.aload_n 0, 1) := by decide +kernel
theorem dX6_count_265 : decode cX6_count 265 = .ok (.getfield 51, 3) := by decide +kernel
theorem dX6_count_268 : decode cX6_count 268 = .ok (.getfield 104, 3) := by decide +kernel
theorem dX6_count_271 : decode cX6_count 271 = .ok (.iconst 1, 1) := by decide +kernel
theorem dX6_count_272 : decode cX6_count 272 = .ok (.iaload, 1) := by decide +kernel
theorem dX6_count_273 : decode cX6_count 273 = .ok (.ireturn, 1) := by decide +kernel
theorem dX6_count_274 : decode cX6_count 274 = .ok (.aload_n 0, 1) := by decide +kernel
theorem dX6_count_275 : decode cX6_count 275 = .ok (.getfield 44, 3) := by decide +kernel
theorem dX6_count_278 : decode cX6_count 278 = .ok (.getfield 233, 3) := by decide +kernel
theorem dX6_count_281 : decode cX6_count 281 = .ok (.ireturn, 1) := by decide +kernel
theorem dX6_count_282 : decode cX6_count 282 = .ok (.aload_n 0, 1) := by decide +kernel
theorem dX6_count_283 : decode cX6_count 283 = .ok (.getfield 37, 3) := by decide +kernel
theorem dX6_count_286 : decode cX6_count 286 = .ok (.getfield 236, 3) := by decide +kernel
theorem dX6_count_289 : decode cX6_count 289 = .ok (.ireturn, 1) := by decide +kernel
theorem dX6_count_290 : decode cX6_count 290 = .ok (.bipush (-2), 2) := by decide +kernel
theorem dX6_count_292 : decode cX6_count 292 = .ok (.ireturn, 1) := by decide +kernel
theorem dX6_addEdgeLetter_0 : decode cX6_addEdgeLetter 0 = .ok (.iload_n 1, 1) := by decide +kernel
theorem dX6_addEdgeLetter_1 : decode cX6_addEdgeLetter 1 = .ok (.invokestatic 239, 3) := by decide +kernel
theorem dX6_addEdgeLetter_4 : decode cX6_addEdgeLetter 4 = .ok (.ifCond .eq 19, 3) := by decide +kernel
theorem dX6_addEdgeLetter_7 : decode cX6_addEdgeLetter 7 = .ok (.aload_n 0, 1) := by decide +kernel
theorem dX6_addEdgeLetter_8 : decode cX6_addEdgeLetter 8 = .ok (.getfield 10, 3) := by decide +kernel
theorem dX6_addEdgeLetter_11 : decode cX6_addEdgeLetter 11 = .ok (.iload_n 3, 1) := by decide +kernel
theorem dX6_addEdgeLetter_12 : decode cX6_addEdgeLetter 12 = .ok (.iload 4, 2) := by decide +kernel
theorem dX6_addEdgeLetter_14 : decode cX6_addEdgeLetter 14 = .ok (.invokevirtual 152, 3) := by decide +kernel
theorem dX6_addEdgeLetter_17 : decode cX6_addEdgeLetter 17 = .ok (.invokestatic 155, 3) := by decide +kernel
theorem dX6_addEdgeLetter_20 : decode cX6_addEdgeLetter 20 = .ok (.ifCond .ne 5, 3) := by decide +kernel
theorem dX6_addEdgeLetter_23 : decode cX6_addEdgeLetter 23 = .ok (.iconst (-1), 1) := by decide +kernel
theorem dX6_addEdgeLetter_24 : decode cX6_addEdgeLetter 24 = .ok (.ireturn, 1) := by decide +kernel
theorem dX6_addEdgeLetter_25 : decode cX6_addEdgeLetter 25 = .ok (.aload_n 0, 1) := by decide +kernel
theorem dX6_addEdgeLetter_26 : decode cX6_addEdgeLetter 26 = .ok (.getfield 51, 3) := by decide +kernel
theorem dX6_addEdgeLetter_29 : decode cX6_addEdgeLetter 29 = .ok (.iload_n 1, 1) := by decide +kernel
theorem dX6_addEdgeLetter_30 : decode cX6_addEdgeLetter 30 = .ok (.iload_n 2, 1) := by decide +kernel
theorem dX6_addEdgeLetter_31 : decode cX6_addEdgeLetter 31 = .ok (.iload_n 3, 1) := by decide +kernel
theorem dX6_addEdgeLetter_32 : decode cX6_addEdgeLetter 32 = .ok (.iload 4, 2) := by decide +kernel
theorem dX6_addEdgeLetter_34 : decode cX6_addEdgeLetter 34 = .ok (.invokevirtual 242, 3) := by decide +kernel
theorem dX6_addEdgeLetter_37 : decode cX6_addEdgeLetter 37 = .ok (.ireturn, 1) := by decide +kernel
theorem dX6_addClaim_0 : decode cX6_addClaim 0 = .ok (.iload_n 1, 1) := by decide +kernel
theorem dX6_addClaim_1 : decode cX6_addClaim 1 = .ok (.invokestatic 239, 3) := by decide +kernel
theorem dX6_addClaim_4 : decode cX6_addClaim 4 = .ok (.ifCond .eq 10, 3) := by decide +kernel
theorem dX6_addClaim_7 : decode cX6_addClaim 7 = .ok (.iload_n 2, 1) := by decide +kernel
theorem dX6_addClaim_8 : decode cX6_addClaim 8 = .ok (.invokestatic 161, 3) := by decide +kernel
theorem dX6_addClaim_11 : decode cX6_addClaim 11 = .ok (.ifCond .ne 5, 3) := by decide +kernel
theorem dX6_addClaim_14 : decode cX6_addClaim 14 = .ok (.iconst (-1), 1) := by decide +kernel
theorem dX6_addClaim_15 : decode cX6_addClaim 15 = .ok (.ireturn, 1) := by decide +kernel
theorem dX6_addClaim_16 : decode cX6_addClaim 16 = .ok (.aload_n 0, 1) := by decide +kernel
theorem dX6_addClaim_17 : decode cX6_addClaim 17 = .ok (.getfield 51, 3) := by decide +kernel
theorem dX6_addClaim_20 : decode cX6_addClaim 20 = .ok (.iload_n 1, 1) := by decide +kernel
theorem dX6_addClaim_21 : decode cX6_addClaim 21 = .ok (.iconst 2, 1) := by decide +kernel
theorem dX6_addClaim_22 : decode cX6_addClaim 22 = .ok (.iload_n 2, 1) := by decide +kernel
theorem dX6_addClaim_23 : decode cX6_addClaim 23 = .ok (.bipush (-5), 2) := by decide +kernel
theorem dX6_addClaim_25 : decode cX6_addClaim 25 = .ok (.invokevirtual 242, 3) := by decide +kernel
theorem dX6_addClaim_28 : decode cX6_addClaim 28 = .ok (.ireturn, 1) := by decide +kernel
theorem dX6_addTruce_0 : decode cX6_addTruce 0 = .ok (.iload_n 1, 1) := by decide +kernel
theorem dX6_addTruce_1 : decode cX6_addTruce 1 = .ok (.invokestatic 239, 3) := by decide +kernel
theorem dX6_addTruce_4 : decode cX6_addTruce 4 = .ok (.ifCond .ne 5, 3) := by decide +kernel
theorem dX6_addTruce_7 : decode cX6_addTruce 7 = .ok (.iconst (-1), 1) := by decide +kernel
theorem dX6_addTruce_8 : decode cX6_addTruce 8 = .ok (.ireturn, 1) := by decide +kernel
theorem dX6_addTruce_9 : decode cX6_addTruce 9 = .ok (.iload_n 2, 1) := by decide +kernel
theorem dX6_addTruce_10 : decode cX6_addTruce 10 = .ok (.iconst 1, 1) := by decide +kernel
theorem dX6_addTruce_11 : decode cX6_addTruce 11 = .ok (.if_icmp .lt 9, 3) := by decide +kernel
theorem dX6_addTruce_14 : decode cX6_addTruce 14 = .ok (.iload_n 2, 1) := by decide +kernel
theorem dX6_addTruce_15 : decode cX6_addTruce 15 = .ok (.bipush 99, 2) := by decide +kernel
theorem dX6_addTruce_17 : decode cX6_addTruce 17 = .ok (.if_icmp .le 6, 3) := by decide +kernel
theorem dX6_addTruce_20 : decode cX6_addTruce 20 = .ok (.bipush (-2), 2) := by decide +kernel
theorem dX6_addTruce_22 : decode cX6_addTruce 22 = .ok (.ireturn, 1) := by decide +kernel
theorem dX6_addTruce_23 : decode cX6_addTruce 23 = .ok (.aload_n 0, 1) := by decide +kernel
theorem dX6_addTruce_24 : decode cX6_addTruce 24 = .ok (.getfield 51, 3) := by decide +kernel
theorem dX6_addTruce_27 : decode cX6_addTruce 27 = .ok (.iload_n 1, 1) := by decide +kernel
theorem dX6_addTruce_28 : decode cX6_addTruce 28 = .ok (.iconst 3, 1) := by decide +kernel
theorem dX6_addTruce_29 : decode cX6_addTruce 29 = .ok (.bipush (-5), 2) := by decide +kernel
theorem dX6_addTruce_31 : decode cX6_addTruce 31 = .ok (.iload_n 2, 1) := by decide +kernel
theorem dX6_addTruce_32 : decode cX6_addTruce 32 = .ok (.invokevirtual 242, 3) := by decide +kernel
theorem dX6_addTruce_35 : decode cX6_addTruce 35 = .ok (.ireturn, 1) := by decide +kernel
theorem dX6_addLetterOfGame_0 : decode cX6_addLetterOfGame 0 = .ok (.aload_n 0, 1) := by decide +kernel
theorem dX6_addLetterOfGame_1 : decode cX6_addLetterOfGame 1 = .ok (.getfield 37, 3) := by decide +kernel
theorem dX6_addLetterOfGame_4 : decode cX6_addLetterOfGame 4 = .ok (.aload_n 0, 1) := by decide +kernel
theorem dX6_addLetterOfGame_5 : decode cX6_addLetterOfGame 5 = .ok (.getfield 37, 3) := by decide +kernel
theorem dX6_addLetterOfGame_8 : decode cX6_addLetterOfGame 8 = .ok (.getfield 122, 3) := by decide +kernel
theorem dX6_addLetterOfGame_11 : decode cX6_addLetterOfGame 11 = .ok (.iload_n 1, 1) := by decide +kernel
theorem dX6_addLetterOfGame_12 : decode cX6_addLetterOfGame 12 = .ok (.invokevirtual 125, 3) := by decide +kernel
theorem dX6_addLetterOfGame_15 : decode cX6_addLetterOfGame 15 = .ok (.istore_n 2, 1) := by decide +kernel
theorem dX6_addLetterOfGame_16 : decode cX6_addLetterOfGame 16 = .ok (.aload_n 0, 1) := by decide +kernel
theorem dX6_addLetterOfGame_17 : decode cX6_addLetterOfGame 17 = .ok (.getfield 37, 3) := by decide +kernel
theorem dX6_addLetterOfGame_20 : decode cX6_addLetterOfGame 20 = .ok (.aload_n 0, 1) := by decide +kernel
theorem dX6_addLetterOfGame_21 : decode cX6_addLetterOfGame 21 = .ok (.getfield 37, 3) := by decide +kernel
theorem dX6_addLetterOfGame_24 : decode cX6_addLetterOfGame 24 = .ok (.getfield 245, 3) := by decide +kernel
theorem dX6_addLetterOfGame_27 : decode cX6_addLetterOfGame 27 = .ok (.iload_n 1, 1) := by decide +kernel
theorem dX6_addLetterOfGame_28 : decode cX6_addLetterOfGame 28 = .ok (.invokevirtual 125, 3) := by decide +kernel
theorem dX6_addLetterOfGame_31 : decode cX6_addLetterOfGame 31 = .ok (.istore_n 3, 1) := by decide +kernel
theorem dX6_addLetterOfGame_32 : decode cX6_addLetterOfGame 32 = .ok (.aload_n 0, 1) := by decide +kernel
theorem dX6_addLetterOfGame_33 : decode cX6_addLetterOfGame 33 = .ok (.getfield 37, 3) := by decide +kernel
theorem dX6_addLetterOfGame_36 : decode cX6_addLetterOfGame 36 = .ok (.aload_n 0, 1) := by decide +kernel
theorem dX6_addLetterOfGame_37 : decode cX6_addLetterOfGame 37 = .ok (.getfield 37, 3) := by decide +kernel
theorem dX6_addLetterOfGame_40 : decode cX6_addLetterOfGame 40 = .ok (.getfield 129, 3) := by decide +kernel
theorem dX6_addLetterOfGame_43 : decode cX6_addLetterOfGame 43 = .ok (.iload_n 1, 1) := by decide +kernel
theorem dX6_addLetterOfGame_44 : decode cX6_addLetterOfGame 44 = .ok (.invokevirtual 125, 3) := by decide +kernel
theorem dX6_addLetterOfGame_47 : decode cX6_addLetterOfGame 47 = .ok (.istore 4, 2) := by decide +kernel
theorem dX6_addLetterOfGame_49 : decode cX6_addLetterOfGame 49 = .ok (.iload_n 2, 1) := by decide +kernel
theorem dX6_addLetterOfGame_50 : decode cX6_addLetterOfGame 50 = .ok (.lookupswitch 42 #[(2, 26), (3, 34)], 26) := by decide +kernel
theorem dX6_addLetterOfGame_76 : decode cX6_addLetterOfGame 76 = .ok (.aload_n 0, 1) := by decide +kernel
theorem dX6_addLetterOfGame_77 : decode cX6_addLetterOfGame 77 = .ok (.iload_n 3, 1) := by decide +kernel
theorem dX6_addLetterOfGame_78 : decode cX6_addLetterOfGame 78 = .ok (.iload 4, 2) := by decide +kernel
theorem dX6_addLetterOfGame_80 : decode cX6_addLetterOfGame 80 = .ok (.invokevirtual 76, 3) := by decide +kernel
theorem dX6_addLetterOfGame_83 : decode cX6_addLetterOfGame 83 = .ok (.ireturn, 1) := by decide +kernel
theorem dX6_addLetterOfGame_84 : decode cX6_addLetterOfGame 84 = .ok (.aload_n 0, 1) := by decide +kernel
theorem dX6_addLetterOfGame_85 : decode cX6_addLetterOfGame 85 = .ok (.iload_n 3, 1) := by decide +kernel
theorem dX6_addLetterOfGame_86 : decode cX6_addLetterOfGame 86 = .ok (.iload 4, 2) := by decide +kernel
theorem dX6_addLetterOfGame_88 : decode cX6_addLetterOfGame 88 = .ok (.invokevirtual 80, 3) := by decide +kernel
theorem dX6_addLetterOfGame_91 : decode cX6_addLetterOfGame 91 = .ok (.ireturn, 1) := by decide +kernel
theorem dX6_addLetterOfGame_92 : decode cX6_addLetterOfGame 92 = .ok (.aload_n 0, 1) := by decide +kernel
theorem dX6_addLetterOfGame_93 : decode cX6_addLetterOfGame 93 = .ok (.iload_n 3, 1) := by decide +kernel
theorem dX6_addLetterOfGame_94 : decode cX6_addLetterOfGame 94 = .ok (.iload_n 2, 1) := by decide +kernel
theorem dX6_addLetterOfGame_95 : decode cX6_addLetterOfGame 95 = .ok (.iload 4, 2) := by decide +kernel
theorem dX6_addLetterOfGame_97 : decode cX6_addLetterOfGame 97 = .ok (.aload_n 0, 1) := by decide +kernel
theorem dX6_addLetterOfGame_98 : decode cX6_addLetterOfGame 98 = .ok (.getfield 37, 3) := by decide +kernel
theorem dX6_addLetterOfGame_101 : decode cX6_addLetterOfGame 101 = .ok (.aload_n 0, 1) := by decide +kernel
theorem dX6_addLetterOfGame_102 : decode cX6_addLetterOfGame 102 = .ok (.getfield 37, 3) := by decide +kernel
theorem dX6_addLetterOfGame_105 : decode cX6_addLetterOfGame 105 = .ok (.getfield 248, 3) := by decide +kernel
theorem dX6_addLetterOfGame_108 : decode cX6_addLetterOfGame 108 = .ok (.iload_n 1, 1) := by decide +kernel
theorem dX6_addLetterOfGame_109 : decode cX6_addLetterOfGame 109 = .ok (.invokevirtual 125, 3) := by decide +kernel
theorem dX6_addLetterOfGame_112 : decode cX6_addLetterOfGame 112 = .ok (.invokevirtual 68, 3) := by decide +kernel
theorem dX6_addLetterOfGame_115 : decode cX6_addLetterOfGame 115 = .ok (.ireturn, 1) := by decide +kernel
theorem dX6_letDaysPass_0 : decode cX6_letDaysPass 0 = .ok (.iload_n 1, 1) := by decide +kernel
theorem dX6_letDaysPass_1 : decode cX6_letDaysPass 1 = .ok (.iconst 1, 1) := by decide +kernel
theorem dX6_letDaysPass_2 : decode cX6_letDaysPass 2 = .ok (.if_icmp .lt 9, 3) := by decide +kernel
theorem dX6_letDaysPass_5 : decode cX6_letDaysPass 5 = .ok (.iload_n 1, 1) := by decide +kernel
theorem dX6_letDaysPass_6 : decode cX6_letDaysPass 6 = .ok (.bipush 99, 2) := by decide +kernel
theorem dX6_letDaysPass_8 : decode cX6_letDaysPass 8 = .ok (.if_icmp .le 6, 3) := by decide +kernel
theorem dX6_letDaysPass_11 : decode cX6_letDaysPass 11 = .ok (.bipush (-2), 2) := by decide +kernel
theorem dX6_letDaysPass_13 : decode cX6_letDaysPass 13 = .ok (.ireturn, 1) := by decide +kernel
theorem dX6_letDaysPass_14 : decode cX6_letDaysPass 14 = .ok (.aload_n 0, 1) := by decide +kernel
theorem dX6_letDaysPass_15 : decode cX6_letDaysPass 15 = .ok (.getfield 51, 3) := by decide +kernel
theorem dX6_letDaysPass_18 : decode cX6_letDaysPass 18 = .ok (.getfield 97, 3) := by decide +kernel
theorem dX6_letDaysPass_21 : decode cX6_letDaysPass 21 = .ok (.iload_n 1, 1) := by decide +kernel
theorem dX6_letDaysPass_22 : decode cX6_letDaysPass 22 = .ok (.iadd, 1) := by decide +kernel
theorem dX6_letDaysPass_23 : decode cX6_letDaysPass 23 = .ok (.sipush 9999, 3) := by decide +kernel
theorem dX6_letDaysPass_26 : decode cX6_letDaysPass 26 = .ok (.if_icmp .le 6, 3) := by decide +kernel
theorem dX6_letDaysPass_29 : decode cX6_letDaysPass 29 = .ok (.bipush (-3), 2) := by decide +kernel
theorem dX6_letDaysPass_31 : decode cX6_letDaysPass 31 = .ok (.ireturn, 1) := by decide +kernel
theorem dX6_letDaysPass_32 : decode cX6_letDaysPass 32 = .ok (.aload_n 0, 1) := by decide +kernel
theorem dX6_letDaysPass_33 : decode cX6_letDaysPass 33 = .ok (.getfield 30, 3) := by decide +kernel
theorem dX6_letDaysPass_36 : decode cX6_letDaysPass 36 = .ok (.aload_n 0, 1) := by decide +kernel
theorem dX6_letDaysPass_37 : decode cX6_letDaysPass 37 = .ok (.getfield 51, 3) := by decide +kernel
theorem dX6_letDaysPass_40 : decode cX6_letDaysPass 40 = .ok (.aload_n 0, 1) := by decide +kernel
theorem dX6_letDaysPass_41 : decode cX6_letDaysPass 41 = .ok (.getfield 51, 3) := by decide +kernel
theorem dX6_letDaysPass_44 : decode cX6_letDaysPass 44 = .ok (.getfield 97, 3) := by decide +kernel
theorem dX6_letDaysPass_47 : decode cX6_letDaysPass 47 = .ok (.iload_n 1, 1) := by decide +kernel
theorem dX6_letDaysPass_48 : decode cX6_letDaysPass 48 = .ok (.iadd, 1) := by decide +kernel
theorem dX6_letDaysPass_49 : decode cX6_letDaysPass 49 = .ok (.invokevirtual 202, 3) := by decide +kernel
theorem dX6_letDaysPass_52 : decode cX6_letDaysPass 52 = .ok (.ireturn, 1) := by decide +kernel
theorem dX6_recordUnlessError_0 : decode cX6_recordUnlessError 0 = .ok (.iload_n 1, 1) := by decide +kernel
theorem dX6_recordUnlessError_1 : decode cX6_recordUnlessError 1 = .ok (.ifCond .lt 14, 3) := by decide +kernel
theorem dX6_recordUnlessError_4 : decode cX6_recordUnlessError 4 = .ok (.aload_n 0, 1) := by decide +kernel
theorem dX6_recordUnlessError_5 : decode cX6_recordUnlessError 5 = .ok (.getfield 44, 3) := by decide +kernel
theorem dX6_recordUnlessError_8 : decode cX6_recordUnlessError 8 = .ok (.aload_n 0, 1) := by decide +kernel
theorem dX6_recordUnlessError_9 : decode cX6_recordUnlessError 9 = .ok (.getfield 55, 3) := by decide +kernel
theorem dX6_recordUnlessError_12 : decode cX6_recordUnlessError 12 = .ok (.invokevirtual 90, 3) := by decide +kernel
theorem dX6_recordUnlessError_15 : decode cX6_recordUnlessError 15 = .ok (.iload_n 1, 1) := by decide +kernel
theorem dX6_recordUnlessError_16 : decode cX6_recordUnlessError 16 = .ok (.ireturn, 1) := by decide +kernel
theorem dX6_edgesWithSomething_0 : decode cX6_edgesWithSomething 0 = .ok (.iconst 0, 1) := by decide +kernel
theorem dX6_edgesWithSomething_1 : decode cX6_edgesWithSomething 1 = .ok (.istore_n 2, 1) := by decide +kernel
theorem dX6_edgesWithSomething_2 : decode cX6_edgesWithSomething 2 = .ok (.iconst 0, 1) := by decide +kernel
theorem dX6_edgesWithSomething_3 : decode cX6_edgesWithSomething 3 = .ok (.istore_n 3, 1) := by decide +kernel
theorem dX6_edgesWithSomething_4 : decode cX6_edgesWithSomething 4 = .ok (.iload_n 3, 1) := by decide +kernel
theorem dX6_edgesWithSomething_5 : decode cX6_edgesWithSomething 5 = .ok (.iconst 4, 1) := by decide +kernel
theorem dX6_edgesWithSomething_6 : decode cX6_edgesWithSomething 6 = .ok (.if_icmp .ge 43, 3) := by decide +kernel
theorem dX6_edgesWithSomething_9 : decode cX6_edgesWithSomething 9 = .ok (.aload_n 0, 1) := by decide +kernel
theorem dX6_edgesWithSomething_10 : decode cX6_edgesWithSomething 10 = .ok (.getfield 10, 3) := by decide +kernel
theorem dX6_edgesWithSomething_13 : decode cX6_edgesWithSomething 13 = .ok (.iload_n 1, 1) := by decide +kernel
theorem dX6_edgesWithSomething_14 : decode cX6_edgesWithSomething 14 = .ok (.iload_n 3, 1) := by decide +kernel
theorem dX6_edgesWithSomething_15 : decode cX6_edgesWithSomething 15 = .ok (.invokevirtual 152, 3) := by decide +kernel
theorem dX6_edgesWithSomething_18 : decode cX6_edgesWithSomething 18 = .ok (.istore 4, 2) := by decide +kernel
theorem dX6_edgesWithSomething_20 : decode cX6_edgesWithSomething 20 = .ok (.iload 4, 2) := by decide +kernel
theorem dX6_edgesWithSomething_22 : decode cX6_edgesWithSomething 22 = .ok (.invokestatic 155, 3) := by decide +kernel
theorem dX6_edgesWithSomething_25 : decode cX6_edgesWithSomething 25 = .ok (.ifCond .eq 18, 3) := by decide +kernel
theorem dX6_edgesWithSomething_28 : decode cX6_edgesWithSomething 28 = .ok (.aload_n 0, 1) := by decide +kernel
theorem dX6_edgesWithSomething_29 : decode cX6_edgesWithSomething 29 = .ok (.getfield 51, 3) := by decide +kernel
theorem dX6_edgesWithSomething_32 : decode cX6_edgesWithSomething 32 = .ok (.iload 4, 2) := by decide +kernel
theorem dX6_edgesWithSomething_34 : decode cX6_edgesWithSomething 34 = .ok (.invokevirtual 158, 3) := by decide +kernel
theorem dX6_edgesWithSomething_37 : decode cX6_edgesWithSomething 37 = .ok (.ifCond .eq 6, 3) := by decide +kernel
theorem dX6_edgesWithSomething_40 : decode cX6_edgesWithSomething 40 = .ok (.iinc 2 1, 3) := by decide +kernel
theorem dX6_edgesWithSomething_43 : decode cX6_edgesWithSomething 43 = .ok (.iinc 3 1, 3) := by decide +kernel
theorem dX6_edgesWithSomething_46 : decode cX6_edgesWithSomething 46 = .ok (.goto (-42), 3) := by decide +kernel
theorem dX6_edgesWithSomething_49 : decode cX6_edgesWithSomething 49 = .ok (.iload_n 2, 1) := by decide +kernel
theorem dX6_edgesWithSomething_50 : decode cX6_edgesWithSomething 50 = .ok (.ireturn, 1) := by decide +kernel
theorem dX6_isPlayer_0 : decode cX6_isPlayer 0 = .ok (.iload_n 0, 1) := by decide +kernel
theorem dX6_isPlayer_1 : decode cX6_isPlayer 1 = .ok (.ifCond .lt 12, 3) := by decide +kernel
theorem dX6_isPlayer_4 : decode cX6_isPlayer 4 = .ok (.iload_n 0, 1) := by decide +kernel
theorem dX6_isPlayer_5 : decode cX6_isPlayer 5 = .ok (.iconst 2, 1) := by decide +kernel
theorem dX6_isPlayer_6 : decode cX6_isPlayer 6 = .ok (.if_icmp .ge 7, 3) := by decide +kernel
theorem dX6_isPlayer_9 : decode cX6_isPlayer 9 = .ok (.iconst 1, 1) := by decide +kernel
theorem dX6_isPlayer_10 : decode cX6_isPlayer 10 = .ok (.goto 4, 3) := by decide +kernel
theorem dX6_isPlayer_13 : decode cX6_isPlayer 13 = .ok (.iconst 0, 1) := by decide +kernel
theorem dX6_isPlayer_14 : decode cX6_isPlayer 14 = .ok (.ireturn, 1) := by decide +kernel
theorem dX6_isField_0 : decode cX6_isField 0 = .ok (.iload_n 0, 1) := by decide +kernel
theorem dX6_isField_1 : decode cX6_isField 1 = .ok (.ifCond .lt 13, 3) := by decide +kernel
theorem dX6_isField_4 : decode cX6_isField 4 = .ok (.iload_n 0, 1) := by decide +kernel
theorem dX6_isField_5 : decode cX6_isField 5 = .ok (.bipush 48, 2) := by decide +kernel
theorem dX6_isField_7 : decode cX6_isField 7 = .ok (.if_icmp .ge 7, 3) := by decide +kernel
theorem dX6_isField_10 : decode cX6_isField 10 = .ok (.iconst 1, 1) := by decide +kernel
theorem dX6_isField_11 : decode cX6_isField 11 = .ok (.goto 4, 3) := by decide +kernel
theorem dX6_isField_14 : decode cX6_isField 14 = .ok (.iconst 0, 1) := by decide +kernel
theorem dX6_isField_15 : decode cX6_isField 15 = .ok (.ireturn, 1) := by decide +kernel
theorem dX6_isEdge_0 : decode cX6_isEdge 0 = .ok (.iload_n 0, 1) := by decide +kernel
theorem dX6_isEdge_1 : decode cX6_isEdge 1 = .ok (.ifCond .lt 13, 3) := by decide +kernel
theorem dX6_isEdge_4 : decode cX6_isEdge 4 = .ok (.iload_n 0, 1) := by decide +kernel
theorem dX6_isEdge_5 : decode cX6_isEdge 5 = .ok (.bipush 82, 2) := by decide +kernel
theorem dX6_isEdge_7 : decode cX6_isEdge 7 = .ok (.if_icmp .ge 7, 3) := by decide +kernel
theorem dX6_isEdge_10 : decode cX6_isEdge 10 = .ok (.iconst 1, 1) := by decide +kernel
theorem dX6_isEdge_11 : decode cX6_isEdge 11 = .ok (.goto 4, 3) := by decide +kernel
theorem dX6_isEdge_14 : decode cX6_isEdge 14 = .ok (.iconst 0, 1) := by decide +kernel
theorem dX6_isEdge_15 : decode cX6_isEdge 15 = .ok (.ireturn, 1) := by decide +kernel
theorem dX6_fenceOf_0 : decode cX6_fenceOf 0 = .ok (.iload_n 0, 1) := by decide +kernel
theorem dX6_fenceOf_1 : decode cX6_fenceOf 1 = .ok (.iconst 1, 1) := by decide +kernel
theorem dX6_fenceOf_2 : decode cX6_fenceOf 2 = .ok (.iadd, 1) := by decide +kernel
theorem dX6_fenceOf_3 : decode cX6_fenceOf 3 = .ok (.ireturn, 1) := by decide +kernel
theorem dX7_init_0 : decode cX7_init 0 = .ok (.aload_n 0, 1) := by decide +kernel
theorem dX7_init_1 : decode cX7_init 1 = .ok (.invokespecial 1, 3) := by decide +kernel
theorem dX7_init_4 : decode cX7_init 4 = .ok (.aload_n 0, 1) := by decide +kernel
theorem dX7_init_5 : decode cX7_init 5 = .ok (.sipush 742, 3) := by decide +kernel
theorem dX7_init_8 : decode cX7_init 8 = .ok (.newarray .int, 2) := by decide +kernel
theorem dX7_init_10 : decode cX7_init 10 = .ok (.putfield 7, 3) := by decide +kernel
theorem dX7_init_13 : decode cX7_init 13 = .ok (.aload_n 0, 1) := by decide +kernel
theorem dX7_init_14 : decode cX7_init 14 = .ok (.sipush 742, 3) := by decide +kernel
theorem dX7_init_17 : decode cX7_init 17 = .ok (.newarray .int, 2) := by decide +kernel
theorem dX7_init_19 : decode cX7_init 19 = .ok (.putfield 13, 3) := by decide +kernel
theorem dX7_init_22 : decode cX7_init 22 = .ok (.aload_n 0, 1) := by decide +kernel
theorem dX7_init_23 : decode cX7_init 23 = .ok (.sipush 742, 3) := by decide +kernel
theorem dX7_init_26 : decode cX7_init 26 = .ok (.newarray .int, 2) := by decide +kernel
theorem dX7_init_28 : decode cX7_init 28 = .ok (.putfield 16, 3) := by decide +kernel
theorem dX7_init_31 : decode cX7_init 31 = .ok (.aload_n 0, 1) := by decide +kernel
theorem dX7_init_32 : decode cX7_init 32 = .ok (.sipush 742, 3) := by decide +kernel
theorem dX7_init_35 : decode cX7_init 35 = .ok (.newarray .int, 2) := by decide +kernel
theorem dX7_init_37 : decode cX7_init 37 = .ok (.putfield 19, 3) := by decide +kernel
theorem dX7_init_40 : decode cX7_init 40 = .ok (.aload_n 0, 1) := by decide +kernel
theorem dX7_init_41 : decode cX7_init 41 = .ok (.sipush 2968, 3) := by decide +kernel
theorem dX7_init_44 : decode cX7_init 44 = .ok (.newarray .int, 2) := by decide +kernel
theorem dX7_init_46 : decode cX7_init 46 = .ok (.putfield 22, 3) := by decide +kernel
theorem dX7_init_49 : decode cX7_init 49 = .ok (.aload_n 0, 1) := by decide +kernel
theorem dX7_init_50 : decode cX7_init 50 = .ok (.bipush 60, 2) := by decide +kernel
theorem dX7_init_52 : decode cX7_init 52 = .ok (.newarray .int, 2) := by decide +kernel
theorem dX7_init_54 : decode cX7_init 54 = .ok (.putfield 25, 3) := by decide +kernel
theorem dX7_init_57 : decode cX7_init 57 = .ok (.aload_n 0, 1) := by decide +kernel
theorem dX7_init_58 : decode cX7_init 58 = .ok (.bipush (-5), 2) := by decide +kernel
theorem dX7_init_60 : decode cX7_init 60 = .ok (.putfield 28, 3) := by decide +kernel
theorem dX7_init_63 : decode cX7_init 63 = .ok (.aload_n 0, 1) := by decide +kernel
theorem dX7_init_64 : decode cX7_init 64 = .ok (.bipush (-5), 2) := by decide +kernel
theorem dX7_init_66 : decode cX7_init 66 = .ok (.putfield 32, 3) := by decide +kernel
theorem dX7_init_69 : decode cX7_init 69 = .ok (.aload_n 0, 1) := by decide +kernel
theorem dX7_init_70 : decode cX7_init 70 = .ok (.bipush 48, 2) := by decide +kernel
theorem dX7_init_72 : decode cX7_init 72 = .ok (.newarray .boolean, 2) := by decide +kernel
theorem dX7_init_74 : decode cX7_init 74 = .ok (.putfield 35, 3) := by decide +kernel
theorem dX7_init_77 : decode cX7_init 77 = .ok (.aload_n 0, 1) := by decide +kernel
theorem dX7_init_78 : decode cX7_init 78 = .ok (.getfield 7, 3) := by decide +kernel
theorem dX7_init_81 : decode cX7_init 81 = .ok (.iconst 4, 1) := by decide +kernel
theorem dX7_init_82 : decode cX7_init 82 = .ok (.iconst 3, 1) := by decide +kernel
theorem dX7_init_83 : decode cX7_init 83 = .ok (.iastore, 1) := by decide +kernel
theorem dX7_init_84 : decode cX7_init 84 = .ok (.aload_n 0, 1) := by decide +kernel
theorem dX7_init_85 : decode cX7_init 85 = .ok (.getfield 7, 3) := by decide +kernel
theorem dX7_init_88 : decode cX7_init 88 = .ok (.iconst 5, 1) := by decide +kernel
theorem dX7_init_89 : decode cX7_init 89 = .ok (.bipush 9, 2) := by decide +kernel
theorem dX7_init_91 : decode cX7_init 91 = .ok (.iastore, 1) := by decide +kernel
theorem dX7_init_92 : decode cX7_init 92 = .ok (.aload_n 0, 1) := by decide +kernel
theorem dX7_init_93 : decode cX7_init 93 = .ok (.getfield 7, 3) := by decide +kernel
theorem dX7_init_96 : decode cX7_init 96 = .ok (.bipush 8, 2) := by decide +kernel
theorem dX7_init_98 : decode cX7_init 98 = .ok (.bipush (-5), 2) := by decide +kernel
theorem dX7_init_100 : decode cX7_init 100 = .ok (.iastore, 1) := by decide +kernel
theorem dX7_init_101 : decode cX7_init 101 = .ok (.iconst 0, 1) := by decide +kernel
theorem dX7_init_102 : decode cX7_init 102 = .ok (.istore_n 1, 1) := by decide +kernel
theorem dX7_init_103 : decode cX7_init 103 = .ok (.iload_n 1, 1) := by decide +kernel
theorem dX7_init_104 : decode cX7_init 104 = .ok (.bipush 48, 2) := by decide +kernel
theorem dX7_init_106 : decode cX7_init 106 = .ok (.if_icmp .ge 20, 3) := by decide +kernel
theorem dX7_init_109 : decode cX7_init 109 = .ok (.aload_n 0, 1) := by decide +kernel
theorem dX7_init_110 : decode cX7_init 110 = .ok (.getfield 7, 3) := by decide +kernel
theorem dX7_init_113 : decode cX7_init 113 = .ok (.bipush 94, 2) := by decide +kernel
theorem dX7_init_115 : decode cX7_init 115 = .ok (.iload_n 1, 1) := by decide +kernel
theorem dX7_init_116 : decode cX7_init 116 = .ok (.iadd, 1) := by decide +kernel
theorem dX7_init_117 : decode cX7_init 117 = .ok (.bipush (-5), 2) := by decide +kernel
theorem dX7_init_119 : decode cX7_init 119 = .ok (.iastore, 1) := by decide +kernel
theorem dX7_init_120 : decode cX7_init 120 = .ok (.iinc 1 1, 3) := by decide +kernel
theorem dX7_init_123 : decode cX7_init 123 = .ok (.goto (-20), 3) := by decide +kernel
theorem dX7_init_126 : decode cX7_init 126 = .ok (.return_, 1) := by decide +kernel
theorem dX7_in_0 : decode cX7_in 0 = .ok (.iload_n 0, 1) := by decide +kernel
theorem dX7_in_1 : decode cX7_in 1 = .ok (.iload_n 1, 1) := by decide +kernel
theorem dX7_in_2 : decode cX7_in 2 = .ok (.if_icmp .lt 12, 3) := by decide +kernel
theorem dX7_in_5 : decode cX7_in 5 = .ok (.iload_n 0, 1) := by decide +kernel
theorem dX7_in_6 : decode cX7_in 6 = .ok (.iload_n 2, 1) := by decide +kernel
theorem dX7_in_7 : decode cX7_in 7 = .ok (.if_icmp .gt 7, 3) := by decide +kernel
theorem dX7_in_10 : decode cX7_in 10 = .ok (.iconst 1, 1) := by decide +kernel
theorem dX7_in_11 : decode cX7_in 11 = .ok (.goto 4, 3) := by decide +kernel
theorem dX7_in_14 : decode cX7_in 14 = .ok (.iconst 0, 1) := by decide +kernel
theorem dX7_in_15 : decode cX7_in 15 = .ok (.ireturn, 1) := by decide +kernel
theorem dX7_isPlayer_0 : decode cX7_isPlayer 0 = .ok (.iload_n 0, 1) := by decide +kernel
theorem dX7_isPlayer_1 : decode cX7_isPlayer 1 = .ok (.iconst 0, 1) := by decide +kernel
theorem dX7_isPlayer_2 : decode cX7_isPlayer 2 = .ok (.iconst 1, 1) := by decide +kernel
theorem dX7_isPlayer_3 : decode cX7_isPlayer 3 = .ok (.invokestatic 39, 3) := by decide +kernel
theorem dX7_isPlayer_6 : decode cX7_isPlayer 6 = .ok (.ireturn, 1) := by decide +kernel
theorem dX7_isField_0 : decode cX7_isField 0 = .ok (.iload_n 0, 1) := by decide +kernel
theorem dX7_isField_1 : decode cX7_isField 1 = .ok (.iconst 0, 1) := by decide +kernel
theorem dX7_isField_2 : decode cX7_isField 2 = .ok (.bipush 47, 2) := by decide +kernel
theorem dX7_isField_4 : decode cX7_isField 4 = .ok (.invokestatic 39, 3) := by decide +kernel
theorem dX7_isField_7 : decode cX7_isField 7 = .ok (.ireturn, 1) := by decide +kernel
theorem dX7_isLetter_0 : decode cX7_isLetter 0 = .ok (.iload_n 1, 1) := by decide +kernel
theorem dX7_isLetter_1 : decode cX7_isLetter 1 = .ok (.iconst 0, 1) := by decide +kernel
theorem dX7_isLetter_2 : decode cX7_isLetter 2 = .ok (.aload_n 0, 1) := by decide +kernel
theorem dX7_isLetter_3 : decode cX7_isLetter 3 = .ok (.getfield 7, 3) := by decide +kernel
theorem dX7_isLetter_6 : decode cX7_isLetter 6 = .ok (.iconst 1, 1) := by decide +kernel
theorem dX7_isLetter_7 : decode cX7_isLetter 7 = .ok (.iaload, 1) := by decide +kernel
theorem dX7_isLetter_8 : decode cX7_isLetter 8 = .ok (.iconst 1, 1) := by decide +kernel
theorem dX7_isLetter_9 : decode cX7_isLetter 9 = .ok (.isub, 1) := by decide +kernel
theorem dX7_isLetter_10 : decode cX7_isLetter 10 = .ok (.invokestatic 39, 3) := by decide +kernel
theorem dX7_isLetter_13 : decode cX7_isLetter 13 = .ok (.ireturn, 1) := by decide +kernel
theorem dX7_at_0 : decode cX7_at 0 = .ok (.sipush 142, 3) := by decide +kernel
theorem dX7_at_3 : decode cX7_at 3 = .ok (.bipush 10, 2) := by decide +kernel
theorem dX7_at_5 : decode cX7_at 5 = .ok (.iload_n 0, 1) := by decide +kernel
theorem dX7_at_6 : decode cX7_at 6 = .ok (.imul, 1) := by decide +kernel
theorem dX7_at_7 : decode cX7_at 7 = .ok (.iadd, 1) := by decide +kernel
theorem dX7_at_8 : decode cX7_at 8 = .ok (.iload_n 1, 1) := by decide +kernel
theorem dX7_at_9 : decode cX7_at 9 = .ok (.iadd, 1) := by decide +kernel
theorem dX7_at_10 : decode cX7_at 10 = .ok (.ireturn, 1) := by decide +kernel
end
section
theorem dX7_of_0 : decode cX7_of 0 = .ok (.aload_n 0, 1) := by decide +kernel
theorem dX7_of_1 : decode cX7_of 1 = .ok (.getfield 7, 3) := by decide +kernel
theorem dX7_of_4 : decode cX7_of 4 = .ok (.iload_n 1, 1) := by decide +kernel
theorem dX7_of_5 : decode cX7_of 5 = .ok (.iload_n 2, 1) := by decide +kernel
theorem dX7_of_6 : decode cX7_of 6 = .ok (.invokestatic 43, 3) := by decide +kernel
theorem dX7_of_9 : decode cX7_of 9 = .ok (.iaload, 1) := by decide +kernel
theorem dX7_of_10 : decode cX7_of 10 = .ok (.ireturn, 1) := by decide +kernel
theorem dX7_looks_0 : decode cX7_looks 0 = .ok (.iconst 0, 1) := by decide +kernel
theorem dX7_looks_1 : decode cX7_looks 1 = .ok (.istore_n 1, 1) := by decide +kernel
theorem dX7_looks_2 : decode cX7_looks 2 = .ok (.iload_n 1, 1) := by decide +kernel
theorem dX7_looks_3 : decode cX7_looks 3 = .ok (.sipush 742, 3) := by decide +kernel
theorem dX7_looks_6 : decode cX7_looks 6 = .ok (.if_icmp .ge 21, 3) := by decide +kernel
theorem dX7_looks_9 : decode cX7_looks 9 = .ok (.aload_n 0, 1) := by decide +kernel
theorem dX7_looks_10 : decode cX7_looks 10 = .ok (.getfield 16, 3) := by decide +kernel
theorem dX7_looks_13 : decode cX7_looks 13 = .ok (.iload_n 1, 1) := by decide +kernel
theorem dX7_looks_14 : decode cX7_looks 14 = .ok (.aload_n 0, 1) := by decide +kernel
theorem dX7_looks_15 : decode cX7_looks 15 = .ok (.getfield 7, 3) := by decide +kernel
theorem dX7_looks_18 : decode cX7_looks 18 = .ok (.iload_n 1, 1) := by decide +kernel
theorem dX7_looks_19 : decode cX7_looks 19 = .ok (.iaload, 1) := by decide +kernel
theorem dX7_looks_20 : decode cX7_looks 20 = .ok (.iastore, 1) := by decide +kernel
theorem dX7_looks_21 : decode cX7_looks 21 = .ok (.iinc 1 1, 3) := by decide +kernel
theorem dX7_looks_24 : decode cX7_looks 24 = .ok (.goto (-22), 3) := by decide +kernel
theorem dX7_looks_27 : decode cX7_looks 27 = .ok (.return_, 1) := by decide +kernel
theorem dX7_records_0 : decode cX7_records 0 = .ok (.aload_n 0, 1) := by decide +kernel
theorem dX7_records_1 : decode cX7_records 1 = .ok (.getfield 47, 3) := by decide +kernel
theorem dX7_records_4 : decode cX7_records 4 = .ok (.iconst 4, 1) := by decide +kernel
theorem dX7_records_5 : decode cX7_records 5 = .ok (.if_icmp .ne 44, 3) := by decide +kernel
theorem dX7_records_8 : decode cX7_records 8 = .ok (.iconst 0, 1) := by decide +kernel
theorem dX7_records_9 : decode cX7_records 9 = .ok (.istore_n 1, 1) := by decide +kernel
theorem dX7_records_10 : decode cX7_records 10 = .ok (.iload_n 1, 1) := by decide +kernel
theorem dX7_records_11 : decode cX7_records 11 = .ok (.sipush 2226, 3) := by decide +kernel
theorem dX7_records_14 : decode cX7_records 14 = .ok (.if_icmp .ge 25, 3) := by decide +kernel
theorem dX7_records_17 : decode cX7_records 17 = .ok (.aload_n 0, 1) := by decide +kernel
theorem dX7_records_18 : decode cX7_records 18 = .ok (.getfield 22, 3) := by decide +kernel
theorem dX7_records_21 : decode cX7_records 21 = .ok (.iload_n 1, 1) := by decide +kernel
theorem dX7_records_22 : decode cX7_records 22 = .ok (.aload_n 0, 1) := by decide +kernel
theorem dX7_records_23 : decode cX7_records 23 = .ok (.getfield 22, 3) := by decide +kernel
theorem dX7_records_26 : decode cX7_records 26 = .ok (.sipush 742, 3) := by decide +kernel
theorem dX7_records_29 : decode cX7_records 29 = .ok (.iload_n 1, 1) := by decide +kernel
theorem dX7_records_30 : decode cX7_records 30 = .ok (.iadd, 1) := by decide +kernel
theorem dX7_records_31 : decode cX7_records 31 = .ok (.iaload, 1) := by decide +kernel
theorem dX7_records_32 : decode cX7_records 32 = .ok (.iastore, 1) := by decide +kernel
theorem dX7_records_33 : decode cX7_records 33 = .ok (.iinc 1 1, 3) := by decide +kernel
theorem dX7_records_36 : decode cX7_records 36 = .ok (.goto (-26), 3) := by decide +kernel
theorem dX7_records_39 : decode cX7_records 39 = .ok (.aload_n 0, 1) := by decide +kernel
theorem dX7_records_40 : decode cX7_records 40 = .ok (.dup, 1) := by decide +kernel
theorem dX7_records_41 : decode cX7_records 41 = .ok (.getfield 47, 3) := by decide +kernel
theorem dX7_records_44 : decode cX7_records 44 = .ok (.iconst 1, 1) := by decide +kernel
theorem dX7_records_45 : decode cX7_records 45 = .ok (.isub, 1) := by decide +kernel
theorem dX7_records_46 : decode cX7_records 46 = .ok (.putfield 47, 3) := by decide +kernel
theorem dX7_records_49 : decode cX7_records 49 = .ok (.iconst 0, 1) := by decide +kernel
theorem dX7_records_50 : decode cX7_records 50 = .ok (.istore_n 1, 1) := by decide +kernel
theorem dX7_records_51 : decode cX7_records 51 = .ok (.iload_n 1, 1) := by decide +kernel
theorem dX7_records_52 : decode cX7_records 52 = .ok (.sipush 742, 3) := by decide +kernel
theorem dX7_records_55 : decode cX7_records 55 = .ok (.if_icmp .ge 30, 3) := by decide +kernel
theorem dX7_records_58 : decode cX7_records 58 = .ok (.aload_n 0, 1) := by decide +kernel
theorem dX7_records_59 : decode cX7_records 59 = .ok (.getfield 22, 3) := by decide +kernel
theorem dX7_records_62 : decode cX7_records 62 = .ok (.sipush 742, 3) := by decide +kernel
theorem dX7_records_65 : decode cX7_records 65 = .ok (.aload_n 0, 1) := by decide +kernel
theorem dX7_records_66 : decode cX7_records 66 = .ok (.getfield 47, 3) := by decide +kernel
theorem dX7_records_69 : decode cX7_records 69 = .ok (.imul, 1) := by decide +kernel
theorem dX7_records_70 : decode cX7_records 70 = .ok (.iload_n 1, 1) := by decide +kernel
theorem dX7_records_71 : decode cX7_records 71 = .ok (.iadd, 1) := by decide +kernel
theorem dX7_records_72 : decode cX7_records 72 = .ok (.aload_n 0, 1) := by decide +kernel
theorem dX7_records_73 : decode cX7_records 73 = .ok (.getfield 16, 3) := by decide +kernel
theorem dX7_records_76 : decode cX7_records 76 = .ok (.iload_n 1, 1) := by decide +kernel
theorem dX7_records_77 : decode cX7_records 77 = .ok (.iaload, 1) := by decide +kernel
theorem dX7_records_78 : decode cX7_records 78 = .ok (.iastore, 1) := by decide +kernel
theorem dX7_records_79 : decode cX7_records 79 = .ok (.iinc 1 1, 3) := by decide +kernel
theorem dX7_records_82 : decode cX7_records 82 = .ok (.goto (-31), 3) := by decide +kernel
theorem dX7_records_85 : decode cX7_records 85 = .ok (.aload_n 0, 1) := by decide +kernel
theorem dX7_records_86 : decode cX7_records 86 = .ok (.dup, 1) := by decide +kernel
theorem dX7_records_87 : decode cX7_records 87 = .ok (.getfield 47, 3) := by decide +kernel
theorem dX7_records_90 : decode cX7_records 90 = .ok (.iconst 1, 1) := by decide +kernel
theorem dX7_records_91 : decode cX7_records 91 = .ok (.iadd, 1) := by decide +kernel
theorem dX7_records_92 : decode cX7_records 92 = .ok (.putfield 47, 3) := by decide +kernel
theorem dX7_records_95 : decode cX7_records 95 = .ok (.return_, 1) := by decide +kernel
theorem dX7_putAside_0 : decode cX7_putAside 0 = .ok (.iconst 0, 1) := by decide +kernel
theorem dX7_putAside_1 : decode cX7_putAside 1 = .ok (.istore_n 1, 1) := by decide +kernel
theorem dX7_putAside_2 : decode cX7_putAside 2 = .ok (.iload_n 1, 1) := by decide +kernel
theorem dX7_putAside_3 : decode cX7_putAside 3 = .ok (.sipush 742, 3) := by decide +kernel
theorem dX7_putAside_6 : decode cX7_putAside 6 = .ok (.if_icmp .ge 21, 3) := by decide +kernel
theorem dX7_putAside_9 : decode cX7_putAside 9 = .ok (.aload_n 0, 1) := by decide +kernel
theorem dX7_putAside_10 : decode cX7_putAside 10 = .ok (.getfield 13, 3) := by decide +kernel
theorem dX7_putAside_13 : decode cX7_putAside 13 = .ok (.iload_n 1, 1) := by decide +kernel
theorem dX7_putAside_14 : decode cX7_putAside 14 = .ok (.aload_n 0, 1) := by decide +kernel
theorem dX7_putAside_15 : decode cX7_putAside 15 = .ok (.getfield 7, 3) := by decide +kernel
theorem dX7_putAside_18 : decode cX7_putAside 18 = .ok (.iload_n 1, 1) := by decide +kernel
theorem dX7_putAside_19 : decode cX7_putAside 19 = .ok (.iaload, 1) := by decide +kernel
theorem dX7_putAside_20 : decode cX7_putAside 20 = .ok (.iastore, 1) := by decide +kernel
theorem dX7_putAside_21 : decode cX7_putAside 21 = .ok (.iinc 1 1, 3) := by decide +kernel
theorem dX7_putAside_24 : decode cX7_putAside 24 = .ok (.goto (-22), 3) := by decide +kernel
theorem dX7_putAside_27 : decode cX7_putAside 27 = .ok (.return_, 1) := by decide +kernel
theorem dX7_putBack_0 : decode cX7_putBack 0 = .ok (.iconst 0, 1) := by decide +kernel
theorem dX7_putBack_1 : decode cX7_putBack 1 = .ok (.istore_n 1, 1) := by decide +kernel
theorem dX7_putBack_2 : decode cX7_putBack 2 = .ok (.iload_n 1, 1) := by decide +kernel
theorem dX7_putBack_3 : decode cX7_putBack 3 = .ok (.sipush 742, 3) := by decide +kernel
theorem dX7_putBack_6 : decode cX7_putBack 6 = .ok (.if_icmp .ge 21, 3) := by decide +kernel
theorem dX7_putBack_9 : decode cX7_putBack 9 = .ok (.aload_n 0, 1) := by decide +kernel
theorem dX7_putBack_10 : decode cX7_putBack 10 = .ok (.getfield 7, 3) := by decide +kernel
theorem dX7_putBack_13 : decode cX7_putBack 13 = .ok (.iload_n 1, 1) := by decide +kernel
theorem dX7_putBack_14 : decode cX7_putBack 14 = .ok (.aload_n 0, 1) := by decide +kernel
theorem dX7_putBack_15 : decode cX7_putBack 15 = .ok (.getfield 13, 3) := by decide +kernel
theorem dX7_putBack_18 : decode cX7_putBack 18 = .ok (.iload_n 1, 1) := by decide +kernel
theorem dX7_putBack_19 : decode cX7_putBack 19 = .ok (.iaload, 1) := by decide +kernel
theorem dX7_putBack_20 : decode cX7_putBack 20 = .ok (.iastore, 1) := by decide +kernel
theorem dX7_putBack_21 : decode cX7_putBack 21 = .ok (.iinc 1 1, 3) := by decide +kernel
theorem dX7_putBack_24 : decode cX7_putBack 24 = .ok (.goto (-22), 3) := by decide +kernel
theorem dX7_putBack_27 : decode cX7_putBack 27 = .ok (.return_, 1) := by decide +kernel
theorem dX7_edgeAt_0 : decode cX7_edgeAt 0 = .ok (.iload_n 0, 1) := by decide +kernel
theorem dX7_edgeAt_1 : decode cX7_edgeAt 1 = .ok (.invokestatic 50, 3) := by decide +kernel
theorem dX7_edgeAt_4 : decode cX7_edgeAt 4 = .ok (.ifCond .ne 6, 3) := by decide +kernel
theorem dX7_edgeAt_7 : decode cX7_edgeAt 7 = .ok (.bipush (-5), 2) := by decide +kernel
theorem dX7_edgeAt_9 : decode cX7_edgeAt 9 = .ok (.ireturn, 1) := by decide +kernel
theorem dX7_edgeAt_10 : decode cX7_edgeAt 10 = .ok (.iload_n 0, 1) := by decide +kernel
theorem dX7_edgeAt_11 : decode cX7_edgeAt 11 = .ok (.bipush 8, 2) := by decide +kernel
theorem dX7_edgeAt_13 : decode cX7_edgeAt 13 = .ok (.idiv, 1) := by decide +kernel
theorem dX7_edgeAt_14 : decode cX7_edgeAt 14 = .ok (.istore_n 2, 1) := by decide +kernel
theorem dX7_edgeAt_15 : decode cX7_edgeAt 15 = .ok (.iload_n 0, 1) := by decide +kernel
theorem dX7_edgeAt_16 : decode cX7_edgeAt 16 = .ok (.bipush 8, 2) := by decide +kernel
theorem dX7_edgeAt_18 : decode cX7_edgeAt 18 = .ok (.irem, 1) := by decide +kernel
theorem dX7_edgeAt_19 : decode cX7_edgeAt 19 = .ok (.istore_n 3, 1) := by decide +kernel
theorem dX7_edgeAt_20 : decode cX7_edgeAt 20 = .ok (.iload_n 1, 1) := by decide +kernel
theorem dX7_edgeAt_21 : decode cX7_edgeAt 21 = .ok (.tableswitch 99 0 3 #[31, 48, 66, 81], 31) := by decide +kernel
theorem dX7_edgeAt_52 : decode cX7_edgeAt 52 = .ok (.iload_n 2, 1) := by decide +kernel
theorem dX7_edgeAt_53 : decode cX7_edgeAt 53 = .ok (.ifCond .le 13, 3) := by decide +kernel
theorem dX7_edgeAt_56 : decode cX7_edgeAt 56 = .ok (.bipush 42, 2) := by decide +kernel
theorem dX7_edgeAt_58 : decode cX7_edgeAt 58 = .ok (.iload_n 0, 1) := by decide +kernel
theorem dX7_edgeAt_59 : decode cX7_edgeAt 59 = .ok (.iadd, 1) := by decide +kernel
theorem dX7_edgeAt_60 : decode cX7_edgeAt 60 = .ok (.bipush 8, 2) := by decide +kernel
theorem dX7_edgeAt_62 : decode cX7_edgeAt 62 = .ok (.isub, 1) := by decide +kernel
theorem dX7_edgeAt_63 : decode cX7_edgeAt 63 = .ok (.goto 5, 3) := by decide +kernel
theorem dX7_edgeAt_66 : decode cX7_edgeAt 66 = .ok (.bipush (-5), 2) := by decide +kernel
theorem dX7_edgeAt_68 : decode cX7_edgeAt 68 = .ok (.ireturn, 1) := by decide +kernel
theorem dX7_edgeAt_69 : decode cX7_edgeAt 69 = .ok (.iload_n 3, 1) := by decide +kernel
theorem dX7_edgeAt_70 : decode cX7_edgeAt 70 = .ok (.bipush 7, 2) := by decide +kernel
theorem dX7_edgeAt_72 : decode cX7_edgeAt 72 = .ok (.if_icmp .ge 12, 3) := by decide +kernel
theorem dX7_edgeAt_75 : decode cX7_edgeAt 75 = .ok (.bipush 7, 2) := by decide +kernel
theorem dX7_edgeAt_77 : decode cX7_edgeAt 77 = .ok (.iload_n 2, 1) := by decide +kernel
theorem dX7_edgeAt_78 : decode cX7_edgeAt 78 = .ok (.imul, 1) := by decide +kernel
theorem dX7_edgeAt_79 : decode cX7_edgeAt 79 = .ok (.iload_n 3, 1) := by decide +kernel
theorem dX7_edgeAt_80 : decode cX7_edgeAt 80 = .ok (.iadd, 1) := by decide +kernel
theorem dX7_edgeAt_81 : decode cX7_edgeAt 81 = .ok (.goto 5, 3) := by decide +kernel
theorem dX7_edgeAt_84 : decode cX7_edgeAt 84 = .ok (.bipush (-5), 2) := by decide +kernel
theorem dX7_edgeAt_86 : decode cX7_edgeAt 86 = .ok (.ireturn, 1) := by decide +kernel
theorem dX7_edgeAt_87 : decode cX7_edgeAt 87 = .ok (.iload_n 2, 1) := by decide +kernel
theorem dX7_edgeAt_88 : decode cX7_edgeAt 88 = .ok (.iconst 5, 1) := by decide +kernel
theorem dX7_edgeAt_89 : decode cX7_edgeAt 89 = .ok (.if_icmp .ge 10, 3) := by decide +kernel
theorem dX7_edgeAt_92 : decode cX7_edgeAt 92 = .ok (.bipush 42, 2) := by decide +kernel
theorem dX7_edgeAt_94 : decode cX7_edgeAt 94 = .ok (.iload_n 0, 1) := by decide +kernel
theorem dX7_edgeAt_95 : decode cX7_edgeAt 95 = .ok (.iadd, 1) := by decide +kernel
theorem dX7_edgeAt_96 : decode cX7_edgeAt 96 = .ok (.goto 5, 3) := by decide +kernel
theorem dX7_edgeAt_99 : decode cX7_edgeAt 99 = .ok (.bipush (-5), 2) := by decide +kernel
theorem dX7_edgeAt_101 : decode cX7_edgeAt 101 = .ok (.ireturn, 1) := by decide +kernel
theorem dX7_edgeAt_102 : decode cX7_edgeAt 102 = .ok (.iload_n 3, 1) := by decide +kernel
theorem dX7_edgeAt_103 : decode cX7_edgeAt 103 = .ok (.ifCond .le 14, 3) := by decide +kernel
theorem dX7_edgeAt_106 : decode cX7_edgeAt 106 = .ok (.bipush 7, 2) := by decide +kernel
theorem dX7_edgeAt_108 : decode cX7_edgeAt 108 = .ok (.iload_n 2, 1) := by decide +kernel
theorem dX7_edgeAt_109 : decode cX7_edgeAt 109 = .ok (.imul, 1) := by decide +kernel
theorem dX7_edgeAt_110 : decode cX7_edgeAt 110 = .ok (.iload_n 3, 1) := by decide +kernel
theorem dX7_edgeAt_111 : decode cX7_edgeAt 111 = .ok (.iadd, 1) := by decide +kernel
theorem dX7_edgeAt_112 : decode cX7_edgeAt 112 = .ok (.iconst 1, 1) := by decide +kernel
theorem dX7_edgeAt_113 : decode cX7_edgeAt 113 = .ok (.isub, 1) := by decide +kernel
theorem dX7_edgeAt_114 : decode cX7_edgeAt 114 = .ok (.goto 5, 3) := by decide +kernel
theorem dX7_edgeAt_117 : decode cX7_edgeAt 117 = .ok (.bipush (-5), 2) := by decide +kernel
theorem dX7_edgeAt_119 : decode cX7_edgeAt 119 = .ok (.ireturn, 1) := by decide +kernel
theorem dX7_edgeAt_120 : decode cX7_edgeAt 120 = .ok (.bipush (-5), 2) := by decide +kernel
theorem dX7_edgeAt_122 : decode cX7_edgeAt 122 = .ok (.ireturn, 1) := by decide +kernel
theorem dX7_oneOf_0 : decode cX7_oneOf 0 = .ok (.iload_n 0, 1) := by decide +kernel
theorem dX7_oneOf_1 : decode cX7_oneOf 1 = .ok (.bipush 42, 2) := by decide +kernel
theorem dX7_oneOf_3 : decode cX7_oneOf 3 = .ok (.if_icmp .ge 18, 3) := by decide +kernel
theorem dX7_oneOf_6 : decode cX7_oneOf 6 = .ok (.iload_n 0, 1) := by decide +kernel
theorem dX7_oneOf_7 : decode cX7_oneOf 7 = .ok (.bipush 7, 2) := by decide +kernel
theorem dX7_oneOf_9 : decode cX7_oneOf 9 = .ok (.idiv, 1) := by decide +kernel
theorem dX7_oneOf_10 : decode cX7_oneOf 10 = .ok (.bipush 8, 2) := by decide +kernel
theorem dX7_oneOf_12 : decode cX7_oneOf 12 = .ok (.imul, 1) := by decide +kernel
theorem dX7_oneOf_13 : decode cX7_oneOf 13 = .ok (.iload_n 0, 1) := by decide +kernel
theorem dX7_oneOf_14 : decode cX7_oneOf 14 = .ok (.bipush 7, 2) := by decide +kernel
theorem dX7_oneOf_16 : decode cX7_oneOf 16 = .ok (.irem, 1) := by decide +kernel
theorem dX7_oneOf_17 : decode cX7_oneOf 17 = .ok (.iadd, 1) := by decide +kernel
theorem dX7_oneOf_18 : decode cX7_oneOf 18 = .ok (.goto 7, 3) := by decide +kernel
theorem dX7_oneOf_21 : decode cX7_oneOf 21 = .ok (.iload_n 0, 1) := by decide +kernel
theorem dX7_oneOf_22 : decode cX7_oneOf 22 = .ok (.bipush 42, 2) := by decide +kernel
theorem dX7_oneOf_24 : decode cX7_oneOf 24 = .ok (.isub, 1) := by decide +kernel
theorem dX7_oneOf_25 : decode cX7_oneOf 25 = .ok (.ireturn, 1) := by decide +kernel
theorem dX7_otherOf_0 : decode cX7_otherOf 0 = .ok (.iload_n 0, 1) := by decide +kernel
theorem dX7_otherOf_1 : decode cX7_otherOf 1 = .ok (.invokestatic 54, 3) := by decide +kernel
theorem dX7_otherOf_4 : decode cX7_otherOf 4 = .ok (.iload_n 0, 1) := by decide +kernel
theorem dX7_otherOf_5 : decode cX7_otherOf 5 = .ok (.bipush 42, 2) := by decide +kernel
theorem dX7_otherOf_7 : decode cX7_otherOf 7 = .ok (.if_icmp .ge 7, 3) := by decide +kernel
theorem dX7_otherOf_10 : decode cX7_otherOf 10 = .ok (.iconst 1, 1) := by decide +kernel
theorem dX7_otherOf_11 : decode cX7_otherOf 11 = .ok (.goto 5, 3) := by decide +kernel
theorem dX7_otherOf_14 : decode cX7_otherOf 14 = .ok (.bipush 8, 2) := by decide +kernel
theorem dX7_otherOf_16 : decode cX7_otherOf 16 = .ok (.iadd, 1) := by decide +kernel
theorem dX7_otherOf_17 : decode cX7_otherOf 17 = .ok (.ireturn, 1) := by decide +kernel
theorem dX7_mark_0 : decode cX7_mark 0 = .ok (.iconst 0, 1) := by decide +kernel
theorem dX7_mark_1 : decode cX7_mark 1 = .ok (.istore_n 2, 1) := by decide +kernel
theorem dX7_mark_2 : decode cX7_mark 2 = .ok (.iload_n 2, 1) := by decide +kernel
theorem dX7_mark_3 : decode cX7_mark 3 = .ok (.bipush 48, 2) := by decide +kernel
theorem dX7_mark_5 : decode cX7_mark 5 = .ok (.if_icmp .ge 25, 3) := by decide +kernel
theorem dX7_mark_8 : decode cX7_mark 8 = .ok (.aload_n 0, 1) := by decide +kernel
theorem dX7_mark_9 : decode cX7_mark 9 = .ok (.getfield 35, 3) := by decide +kernel
theorem dX7_mark_12 : decode cX7_mark 12 = .ok (.iload_n 2, 1) := by decide +kernel
theorem dX7_mark_13 : decode cX7_mark 13 = .ok (.iload_n 2, 1) := by decide +kernel
theorem dX7_mark_14 : decode cX7_mark 14 = .ok (.iload_n 1, 1) := by decide +kernel
theorem dX7_mark_15 : decode cX7_mark 15 = .ok (.if_icmp .ne 7, 3) := by decide +kernel
theorem dX7_mark_18 : decode cX7_mark 18 = .ok (.iconst 1, 1) := by decide +kernel
theorem dX7_mark_19 : decode cX7_mark 19 = .ok (.goto 4, 3) := by decide +kernel
theorem dX7_mark_22 : decode cX7_mark 22 = .ok (.iconst 0, 1) := by decide +kernel
theorem dX7_mark_23 : decode cX7_mark 23 = .ok (.bastore, 1) := by decide +kernel
theorem dX7_mark_24 : decode cX7_mark 24 = .ok (.iinc 2 1, 3) := by decide +kernel
theorem dX7_mark_27 : decode cX7_mark 27 = .ok (.goto (-25), 3) := by decide +kernel
theorem dX7_mark_30 : decode cX7_mark 30 = .ok (.iconst 1, 1) := by decide +kernel
theorem dX7_mark_31 : decode cX7_mark 31 = .ok (.istore_n 2, 1) := by decide +kernel
theorem dX7_mark_32 : decode cX7_mark 32 = .ok (.iload_n 2, 1) := by decide +kernel
theorem dX7_mark_33 : decode cX7_mark 33 = .ok (.ifCond .eq 89, 3) := by decide +kernel
theorem dX7_mark_36 : decode cX7_mark 36 = .ok (.iconst 0, 1) := by decide +kernel
theorem dX7_mark_37 : decode cX7_mark 37 = .ok (.istore_n 2, 1) := by decide +kernel
theorem dX7_mark_38 : decode cX7_mark 38 = .ok (.iconst 0, 1) := by decide +kernel
theorem dX7_mark_39 : decode cX7_mark 39 = .ok (.istore_n 3, 1) := by decide +kernel
theorem dX7_mark_40 : decode cX7_mark 40 = .ok (.iload_n 3, 1) := by decide +kernel
theorem dX7_mark_41 : decode cX7_mark 41 = .ok (.bipush 82, 2) := by decide +kernel
theorem dX7_mark_43 : decode cX7_mark 43 = .ok (.if_icmp .ge 76, 3) := by decide +kernel
theorem dX7_mark_46 : decode cX7_mark 46 = .ok (.aload_n 0, 1) := by decide +kernel
theorem dX7_mark_47 : decode cX7_mark 47 = .ok (.getfield 7, 3) := by decide +kernel
theorem dX7_mark_50 : decode cX7_mark 50 = .ok (.bipush 12, 2) := by decide +kernel
theorem dX7_mark_52 : decode cX7_mark 52 = .ok (.iload_n 3, 1) := by decide +kernel
theorem dX7_mark_53 : decode cX7_mark 53 = .ok (.iadd, 1) := by decide +kernel
theorem dX7_mark_54 : decode cX7_mark 54 = .ok (.iaload, 1) := by decide +kernel
theorem dX7_mark_55 : decode cX7_mark 55 = .ok (.ifCond .ne 28, 3) := by decide +kernel
theorem dX7_mark_58 : decode cX7_mark 58 = .ok (.aload_n 0, 1) := by decide +kernel
theorem dX7_mark_59 : decode cX7_mark 59 = .ok (.getfield 35, 3) := by decide +kernel
theorem dX7_mark_62 : decode cX7_mark 62 = .ok (.iload_n 3, 1) := by decide +kernel
theorem dX7_mark_63 : decode cX7_mark 63 = .ok (.invokestatic 54, 3) := by decide +kernel
theorem dX7_mark_66 : decode cX7_mark 66 = .ok (.baload, 1) := by decide +kernel
theorem dX7_mark_67 : decode cX7_mark 67 = .ok (.aload_n 0, 1) := by decide +kernel
theorem dX7_mark_68 : decode cX7_mark 68 = .ok (.getfield 35, 3) := by decide +kernel
theorem dX7_mark_71 : decode cX7_mark 71 = .ok (.iload_n 3, 1) := by decide +kernel
theorem dX7_mark_72 : decode cX7_mark 72 = .ok (.invokestatic 58, 3) := by decide +kernel
theorem dX7_mark_75 : decode cX7_mark 75 = .ok (.baload, 1) := by decide +kernel
theorem dX7_mark_76 : decode cX7_mark 76 = .ok (.if_icmp .eq 7, 3) := by decide +kernel
theorem dX7_mark_79 : decode cX7_mark 79 = .ok (.iconst 1, 1) := by decide +kernel
theorem dX7_mark_80 : decode cX7_mark 80 = .ok (.goto 4, 3) := by decide +kernel
theorem dX7_mark_83 : decode cX7_mark 83 = .ok (.iconst 0, 1) := by decide +kernel
theorem dX7_mark_84 : decode cX7_mark 84 = .ok (.istore 4, 2) := by decide +kernel
theorem dX7_mark_86 : decode cX7_mark 86 = .ok (.iload 4, 2) := by decide +kernel
theorem dX7_mark_88 : decode cX7_mark 88 = .ok (.ifCond .eq 25, 3) := by decide +kernel
theorem dX7_mark_91 : decode cX7_mark 91 = .ok (.aload_n 0, 1) := by decide +kernel
theorem dX7_mark_92 : decode cX7_mark 92 = .ok (.getfield 35, 3) := by decide +kernel
theorem dX7_mark_95 : decode cX7_mark 95 = .ok (.iload_n 3, 1) := by decide +kernel
theorem dX7_mark_96 : decode cX7_mark 96 = .ok (.invokestatic 54, 3) := by decide +kernel
theorem dX7_mark_99 : decode cX7_mark 99 = .ok (.iconst 1, 1) := by decide +kernel
theorem dX7_mark_100 : decode cX7_mark 100 = .ok (.bastore, 1) := by decide +kernel
theorem dX7_mark_101 : decode cX7_mark 101 = .ok (.aload_n 0, 1) := by decide +kernel
theorem dX7_mark_102 : decode cX7_mark 102 = .ok (.getfield 35, 3) := by decide +kernel
theorem dX7_mark_105 : decode cX7_mark 105 = .ok (.iload_n 3, 1) := by decide +kernel
theorem dX7_mark_106 : decode cX7_mark 106 = .ok (.invokestatic 58, 3) := by decide +kernel
theorem dX7_mark_109 : decode cX7_mark 109 = .ok (.iconst 1, 1) := by decide +kernel
theorem dX7_mark_110 : decode cX7_mark 110 = .ok (.bastore, 1) := by decide +kernel
theorem dX7_mark_111 : decode cX7_mark 111 = .ok (.iconst 1, 1) := by decide +kernel
theorem dX7_mark_112 : decode cX7_mark 112 = .ok (.istore_n 2, 1) := by decide +kernel
theorem dX7_mark_113 : decode cX7_mark 113 = .ok (.iinc 3 1, 3) := by decide +kernel
theorem dX7_mark_116 : decode cX7_mark 116 = .ok (.goto (-76), 3) := by decide +kernel
theorem dX7_mark_119 : decode cX7_mark 119 = .ok (.goto (-87), 3) := by decide +kernel
theorem dX7_mark_122 : decode cX7_mark 122 = .ok (.iconst 0, 1) := by decide +kernel
theorem dX7_mark_123 : decode cX7_mark 123 = .ok (.istore_n 3, 1) := by decide +kernel
theorem dX7_mark_124 : decode cX7_mark 124 = .ok (.iconst 0, 1) := by decide +kernel
theorem dX7_mark_125 : decode cX7_mark 125 = .ok (.istore 4, 2) := by decide +kernel
theorem dX7_mark_127 : decode cX7_mark 127 = .ok (.iload 4, 2) := by decide +kernel
theorem dX7_mark_129 : decode cX7_mark 129 = .ok (.bipush 48, 2) := by decide +kernel
theorem dX7_mark_131 : decode cX7_mark 131 = .ok (.if_icmp .ge 27, 3) := by decide +kernel
theorem dX7_mark_134 : decode cX7_mark 134 = .ok (.iload_n 3, 1) := by decide +kernel
theorem dX7_mark_135 : decode cX7_mark 135 = .ok (.aload_n 0, 1) := by decide +kernel
theorem dX7_mark_136 : decode cX7_mark 136 = .ok (.getfield 35, 3) := by decide +kernel
theorem dX7_mark_139 : decode cX7_mark 139 = .ok (.iload 4, 2) := by decide +kernel
theorem dX7_mark_141 : decode cX7_mark 141 = .ok (.baload, 1) := by decide +kernel
theorem dX7_mark_142 : decode cX7_mark 142 = .ok (.ifCond .eq 7, 3) := by decide +kernel
theorem dX7_mark_145 : decode cX7_mark 145 = .ok (.iconst 1, 1) := by decide +kernel
theorem dX7_mark_146 : decode cX7_mark 146 = .ok (.goto 4, 3) := by decide +kernel
theorem dX7_mark_149 : decode cX7_mark 149 = .ok (.iconst 0, 1) := by decide +kernel
theorem dX7_mark_150 : decode cX7_mark 150 = .ok (.iadd, 1) := by decide +kernel
theorem dX7_mark_151 : decode cX7_mark 151 = .ok (.istore_n 3, 1) := by decide +kernel
theorem dX7_mark_152 : decode cX7_mark 152 = .ok (.iinc 4 1, 3) := by decide +kernel
theorem dX7_mark_155 : decode cX7_mark 155 = .ok (.goto (-28), 3) := by decide +kernel
theorem dX7_mark_158 : decode cX7_mark 158 = .ok (.iload_n 3, 1) := by decide +kernel
theorem dX7_mark_159 : decode cX7_mark 159 = .ok (.ireturn, 1) := by decide +kernel
theorem dX7_freeIn_0 : decode cX7_freeIn 0 = .ok (.aload_n 0, 1) := by decide +kernel
theorem dX7_freeIn_1 : decode cX7_freeIn 1 = .ok (.iload_n 1, 1) := by decide +kernel
theorem dX7_freeIn_2 : decode cX7_freeIn 2 = .ok (.invokevirtual 61, 3) := by decide +kernel
theorem dX7_freeIn_5 : decode cX7_freeIn 5 = .ok (.istore_n 2, 1) := by decide +kernel
theorem dX7_freeIn_6 : decode cX7_freeIn 6 = .ok (.iconst 0, 1) := by decide +kernel
theorem dX7_freeIn_7 : decode cX7_freeIn 7 = .ok (.istore_n 3, 1) := by decide +kernel
theorem dX7_freeIn_8 : decode cX7_freeIn 8 = .ok (.iconst 0, 1) := by decide +kernel
theorem dX7_freeIn_9 : decode cX7_freeIn 9 = .ok (.istore 4, 2) := by decide +kernel
theorem dX7_freeIn_11 : decode cX7_freeIn 11 = .ok (.iload 4, 2) := by decide +kernel
theorem dX7_freeIn_13 : decode cX7_freeIn 13 = .ok (.bipush 48, 2) := by decide +kernel
theorem dX7_freeIn_15 : decode cX7_freeIn 15 = .ok (.if_icmp .ge 42, 3) := by decide +kernel
theorem dX7_freeIn_18 : decode cX7_freeIn 18 = .ok (.iload_n 3, 1) := by decide +kernel
theorem dX7_freeIn_19 : decode cX7_freeIn 19 = .ok (.aload_n 0, 1) := by decide +kernel
theorem dX7_freeIn_20 : decode cX7_freeIn 20 = .ok (.getfield 35, 3) := by decide +kernel
theorem dX7_freeIn_23 : decode cX7_freeIn 23 = .ok (.iload 4, 2) := by decide +kernel
theorem dX7_freeIn_25 : decode cX7_freeIn 25 = .ok (.baload, 1) := by decide +kernel
theorem dX7_freeIn_26 : decode cX7_freeIn 26 = .ok (.ifCond .eq 22, 3) := by decide +kernel
theorem dX7_freeIn_29 : decode cX7_freeIn 29 = .ok (.aload_n 0, 1) := by decide +kernel
theorem dX7_freeIn_30 : decode cX7_freeIn 30 = .ok (.getfield 7, 3) := by decide +kernel
theorem dX7_freeIn_33 : decode cX7_freeIn 33 = .ok (.bipush 94, 2) := by decide +kernel
theorem dX7_freeIn_35 : decode cX7_freeIn 35 = .ok (.iload 4, 2) := by decide +kernel
theorem dX7_freeIn_37 : decode cX7_freeIn 37 = .ok (.iadd, 1) := by decide +kernel
theorem dX7_freeIn_38 : decode cX7_freeIn 38 = .ok (.iaload, 1) := by decide +kernel
theorem dX7_freeIn_39 : decode cX7_freeIn 39 = .ok (.bipush (-5), 2) := by decide +kernel
theorem dX7_freeIn_41 : decode cX7_freeIn 41 = .ok (.if_icmp .ne 7, 3) := by decide +kernel
theorem dX7_freeIn_44 : decode cX7_freeIn 44 = .ok (.iconst 1, 1) := by decide +kernel
theorem dX7_freeIn_45 : decode cX7_freeIn 45 = .ok (.goto 4, 3) := by decide +kernel
theorem dX7_freeIn_48 : decode cX7_freeIn 48 = .ok (.iconst 0, 1) := by decide +kernel
theorem dX7_freeIn_49 : decode cX7_freeIn 49 = .ok (.iadd, 1) := by decide +kernel
theorem dX7_freeIn_50 : decode cX7_freeIn 50 = .ok (.istore_n 3, 1) := by decide +kernel
theorem dX7_freeIn_51 : decode cX7_freeIn 51 = .ok (.iinc 4 1, 3) := by decide +kernel
theorem dX7_freeIn_54 : decode cX7_freeIn 54 = .ok (.goto (-43), 3) := by decide +kernel
theorem dX7_freeIn_57 : decode cX7_freeIn 57 = .ok (.iload_n 3, 1) := by decide +kernel
theorem dX7_freeIn_58 : decode cX7_freeIn 58 = .ok (.ireturn, 1) := by decide +kernel
theorem dX7_lowestIn_0 : decode cX7_lowestIn 0 = .ok (.aload_n 0, 1) := by decide +kernel
theorem dX7_lowestIn_1 : decode cX7_lowestIn 1 = .ok (.iload_n 1, 1) := by decide +kernel
theorem dX7_lowestIn_2 : decode cX7_lowestIn 2 = .ok (.invokevirtual 61, 3) := by decide +kernel
theorem dX7_lowestIn_5 : decode cX7_lowestIn 5 = .ok (.istore_n 2, 1) := by decide +kernel
theorem dX7_lowestIn_6 : decode cX7_lowestIn 6 = .ok (.iconst 0, 1) := by decide +kernel
theorem dX7_lowestIn_7 : decode cX7_lowestIn 7 = .ok (.istore_n 3, 1) := by decide +kernel
theorem dX7_lowestIn_8 : decode cX7_lowestIn 8 = .ok (.aload_n 0, 1) := by decide +kernel
theorem dX7_lowestIn_9 : decode cX7_lowestIn 9 = .ok (.getfield 35, 3) := by decide +kernel
theorem dX7_lowestIn_12 : decode cX7_lowestIn 12 = .ok (.iload_n 3, 1) := by decide +kernel
theorem dX7_lowestIn_13 : decode cX7_lowestIn 13 = .ok (.baload, 1) := by decide +kernel
theorem dX7_lowestIn_14 : decode cX7_lowestIn 14 = .ok (.ifCond .ne 9, 3) := by decide +kernel
theorem dX7_lowestIn_17 : decode cX7_lowestIn 17 = .ok (.iinc 3 1, 3) := by decide +kernel
theorem dX7_lowestIn_20 : decode cX7_lowestIn 20 = .ok (.goto (-12), 3) := by decide +kernel
theorem dX7_lowestIn_23 : decode cX7_lowestIn 23 = .ok (.iload_n 3, 1) := by decide +kernel
theorem dX7_lowestIn_24 : decode cX7_lowestIn 24 = .ok (.ireturn, 1) := by decide +kernel
theorem dX7_isTruce_0 : decode cX7_isTruce 0 = .ok (.aload_n 0, 1) := by decide +kernel
theorem dX7_isTruce_1 : decode cX7_isTruce 1 = .ok (.getfield 7, 3) := by decide +kernel
theorem dX7_isTruce_4 : decode cX7_isTruce 4 = .ok (.iconst 0, 1) := by decide +kernel
theorem dX7_isTruce_5 : decode cX7_isTruce 5 = .ok (.iaload, 1) := by decide +kernel
theorem dX7_isTruce_6 : decode cX7_isTruce 6 = .ok (.aload_n 0, 1) := by decide +kernel
theorem dX7_isTruce_7 : decode cX7_isTruce 7 = .ok (.getfield 7, 3) := by decide +kernel
theorem dX7_isTruce_10 : decode cX7_isTruce 10 = .ok (.bipush 6, 2) := by decide +kernel
theorem dX7_isTruce_12 : decode cX7_isTruce 12 = .ok (.iaload, 1) := by decide +kernel
theorem dX7_isTruce_13 : decode cX7_isTruce 13 = .ok (.if_icmp .ge 23, 3) := by decide +kernel
theorem dX7_isTruce_16 : decode cX7_isTruce 16 = .ok (.aload_n 0, 1) := by decide +kernel
theorem dX7_isTruce_17 : decode cX7_isTruce 17 = .ok (.getfield 7, 3) := by decide +kernel
theorem dX7_isTruce_20 : decode cX7_isTruce 20 = .ok (.iconst 0, 1) := by decide +kernel
theorem dX7_isTruce_21 : decode cX7_isTruce 21 = .ok (.iaload, 1) := by decide +kernel
theorem dX7_isTruce_22 : decode cX7_isTruce 22 = .ok (.aload_n 0, 1) := by decide +kernel
theorem dX7_isTruce_23 : decode cX7_isTruce 23 = .ok (.getfield 7, 3) := by decide +kernel
theorem dX7_isTruce_26 : decode cX7_isTruce 26 = .ok (.bipush 7, 2) := by decide +kernel
theorem dX7_isTruce_28 : decode cX7_isTruce 28 = .ok (.iaload, 1) := by decide +kernel
theorem dX7_isTruce_29 : decode cX7_isTruce 29 = .ok (.if_icmp .ge 7, 3) := by decide +kernel
theorem dX7_isTruce_32 : decode cX7_isTruce 32 = .ok (.iconst 1, 1) := by decide +kernel
theorem dX7_isTruce_33 : decode cX7_isTruce 33 = .ok (.goto 4, 3) := by decide +kernel
theorem dX7_isTruce_36 : decode cX7_isTruce 36 = .ok (.iconst 0, 1) := by decide +kernel
theorem dX7_isTruce_37 : decode cX7_isTruce 37 = .ok (.ireturn, 1) := by decide +kernel
theorem dX7_whyEdge_0 : decode cX7_whyEdge 0 = .ok (.aload_n 0, 1) := by decide +kernel
theorem dX7_whyEdge_1 : decode cX7_whyEdge 1 = .ok (.getfield 7, 3) := by decide +kernel
theorem dX7_whyEdge_4 : decode cX7_whyEdge 4 = .ok (.bipush 12, 2) := by decide +kernel
theorem dX7_whyEdge_6 : decode cX7_whyEdge 6 = .ok (.iload_n 2, 1) := by decide +kernel
theorem dX7_whyEdge_7 : decode cX7_whyEdge 7 = .ok (.iadd, 1) := by decide +kernel
theorem dX7_whyEdge_8 : decode cX7_whyEdge 8 = .ok (.iaload, 1) := by decide +kernel
theorem dX7_whyEdge_9 : decode cX7_whyEdge 9 = .ok (.istore_n 3, 1) := by decide +kernel
theorem dX7_whyEdge_10 : decode cX7_whyEdge 10 = .ok (.iload_n 1, 1) := by decide +kernel
theorem dX7_whyEdge_11 : decode cX7_whyEdge 11 = .ok (.ifCond .ne 13, 3) := by decide +kernel
theorem dX7_whyEdge_14 : decode cX7_whyEdge 14 = .ok (.iload_n 3, 1) := by decide +kernel
theorem dX7_whyEdge_15 : decode cX7_whyEdge 15 = .ok (.ifCond .le 7, 3) := by decide +kernel
theorem dX7_whyEdge_18 : decode cX7_whyEdge 18 = .ok (.iconst 1, 1) := by decide +kernel
theorem dX7_whyEdge_19 : decode cX7_whyEdge 19 = .ok (.goto 4, 3) := by decide +kernel
theorem dX7_whyEdge_22 : decode cX7_whyEdge 22 = .ok (.iconst 0, 1) := by decide +kernel
theorem dX7_whyEdge_23 : decode cX7_whyEdge 23 = .ok (.ireturn, 1) := by decide +kernel
theorem dX7_whyEdge_24 : decode cX7_whyEdge 24 = .ok (.iload_n 3, 1) := by decide +kernel
theorem dX7_whyEdge_25 : decode cX7_whyEdge 25 = .ok (.ifCond .eq 8, 3) := by decide +kernel
theorem dX7_whyEdge_28 : decode cX7_whyEdge 28 = .ok (.iload_n 3, 1) := by decide +kernel
theorem dX7_whyEdge_29 : decode cX7_whyEdge 29 = .ok (.iconst 3, 1) := by decide +kernel
theorem dX7_whyEdge_30 : decode cX7_whyEdge 30 = .ok (.if_icmp .ne 7, 3) := by decide +kernel
theorem dX7_whyEdge_33 : decode cX7_whyEdge 33 = .ok (.iconst 2, 1) := by decide +kernel
theorem dX7_whyEdge_34 : decode cX7_whyEdge 34 = .ok (.goto 15, 3) := by decide +kernel
theorem dX7_whyEdge_37 : decode cX7_whyEdge 37 = .ok (.aload_n 0, 1) := by decide +kernel
theorem dX7_whyEdge_38 : decode cX7_whyEdge 38 = .ok (.invokevirtual 64, 3) := by decide +kernel
theorem dX7_whyEdge_41 : decode cX7_whyEdge 41 = .ok (.ifCond .eq 7, 3) := by decide +kernel
theorem dX7_whyEdge_44 : decode cX7_whyEdge 44 = .ok (.iconst 3, 1) := by decide +kernel
theorem dX7_whyEdge_45 : decode cX7_whyEdge 45 = .ok (.goto 4, 3) := by decide +kernel
theorem dX7_whyEdge_48 : decode cX7_whyEdge 48 = .ok (.iconst 0, 1) := by decide +kernel
theorem dX7_whyEdge_49 : decode cX7_whyEdge 49 = .ok (.ireturn, 1) := by decide +kernel
theorem dX7_whyClaim_0 : decode cX7_whyClaim 0 = .ok (.aload_n 0, 1) := by decide +kernel
theorem dX7_whyClaim_1 : decode cX7_whyClaim 1 = .ok (.getfield 7, 3) := by decide +kernel
theorem dX7_whyClaim_4 : decode cX7_whyClaim 4 = .ok (.bipush 94, 2) := by decide +kernel
theorem dX7_whyClaim_6 : decode cX7_whyClaim 6 = .ok (.iload_n 1, 1) := by decide +kernel
theorem dX7_whyClaim_7 : decode cX7_whyClaim 7 = .ok (.iadd, 1) := by decide +kernel
theorem dX7_whyClaim_8 : decode cX7_whyClaim 8 = .ok (.iaload, 1) := by decide +kernel
theorem dX7_whyClaim_9 : decode cX7_whyClaim 9 = .ok (.bipush (-5), 2) := by decide +kernel
theorem dX7_whyClaim_11 : decode cX7_whyClaim 11 = .ok (.if_icmp .eq 7, 3) := by decide +kernel
theorem dX7_whyClaim_14 : decode cX7_whyClaim 14 = .ok (.iconst 4, 1) := by decide +kernel
theorem dX7_whyClaim_15 : decode cX7_whyClaim 15 = .ok (.goto 22, 3) := by decide +kernel
theorem dX7_whyClaim_18 : decode cX7_whyClaim 18 = .ok (.aload_n 0, 1) := by decide +kernel
theorem dX7_whyClaim_19 : decode cX7_whyClaim 19 = .ok (.iload_n 1, 1) := by decide +kernel
theorem dX7_whyClaim_20 : decode cX7_whyClaim 20 = .ok (.invokevirtual 61, 3) := by decide +kernel
theorem dX7_whyClaim_23 : decode cX7_whyClaim 23 = .ok (.aload_n 0, 1) := by decide +kernel
theorem dX7_whyClaim_24 : decode cX7_whyClaim 24 = .ok (.getfield 7, 3) := by decide +kernel
theorem dX7_whyClaim_27 : decode cX7_whyClaim 27 = .ok (.iconst 5, 1) := by decide +kernel
theorem dX7_whyClaim_28 : decode cX7_whyClaim 28 = .ok (.iaload, 1) := by decide +kernel
theorem dX7_whyClaim_29 : decode cX7_whyClaim 29 = .ok (.if_icmp .le 7, 3) := by decide +kernel
theorem dX7_whyClaim_32 : decode cX7_whyClaim 32 = .ok (.iconst 5, 1) := by decide +kernel
theorem dX7_whyClaim_33 : decode cX7_whyClaim 33 = .ok (.goto 4, 3) := by decide +kernel
theorem dX7_whyClaim_36 : decode cX7_whyClaim 36 = .ok (.iconst 0, 1) := by decide +kernel
theorem dX7_whyClaim_37 : decode cX7_whyClaim 37 = .ok (.ireturn, 1) := by decide +kernel
theorem dX7_isTaken_0 : decode cX7_isTaken 0 = .ok (.aload_n 0, 1) := by decide +kernel
theorem dX7_isTaken_1 : decode cX7_isTaken 1 = .ok (.getfield 7, 3) := by decide +kernel
theorem dX7_isTaken_4 : decode cX7_isTaken 4 = .ok (.bipush 10, 2) := by decide +kernel
theorem dX7_isTaken_6 : decode cX7_isTaken 6 = .ok (.iload_n 1, 1) := by decide +kernel
theorem dX7_isTaken_7 : decode cX7_isTaken 7 = .ok (.bipush 24, 2) := by decide +kernel
theorem dX7_isTaken_9 : decode cX7_isTaken 9 = .ok (.idiv, 1) := by decide +kernel
theorem dX7_isTaken_10 : decode cX7_isTaken 10 = .ok (.iadd, 1) := by decide +kernel
theorem dX7_isTaken_11 : decode cX7_isTaken 11 = .ok (.iaload, 1) := by decide +kernel
theorem dX7_isTaken_12 : decode cX7_isTaken 12 = .ok (.iload_n 1, 1) := by decide +kernel
theorem dX7_isTaken_13 : decode cX7_isTaken 13 = .ok (.bipush 24, 2) := by decide +kernel
theorem dX7_isTaken_15 : decode cX7_isTaken 15 = .ok (.irem, 1) := by decide +kernel
theorem dX7_isTaken_16 : decode cX7_isTaken 16 = .ok (.ishr, 1) := by decide +kernel
theorem dX7_isTaken_17 : decode cX7_isTaken 17 = .ok (.iconst 1, 1) := by decide +kernel
theorem dX7_isTaken_18 : decode cX7_isTaken 18 = .ok (.iand, 1) := by decide +kernel
theorem dX7_isTaken_19 : decode cX7_isTaken 19 = .ok (.iconst 1, 1) := by decide +kernel
theorem dX7_isTaken_20 : decode cX7_isTaken 20 = .ok (.if_icmp .ne 7, 3) := by decide +kernel
theorem dX7_isTaken_23 : decode cX7_isTaken 23 = .ok (.iconst 1, 1) := by decide +kernel
theorem dX7_isTaken_24 : decode cX7_isTaken 24 = .ok (.goto 4, 3) := by decide +kernel
theorem dX7_isTaken_27 : decode cX7_isTaken 27 = .ok (.iconst 0, 1) := by decide +kernel
theorem dX7_isTaken_28 : decode cX7_isTaken 28 = .ok (.ireturn, 1) := by decide +kernel
theorem dX7_forgetsTaken_0 : decode cX7_forgetsTaken 0 = .ok (.aload_n 0, 1) := by decide +kernel
theorem dX7_forgetsTaken_1 : decode cX7_forgetsTaken 1 = .ok (.getfield 7, 3) := by decide +kernel
theorem dX7_forgetsTaken_4 : decode cX7_forgetsTaken 4 = .ok (.bipush 10, 2) := by decide +kernel
theorem dX7_forgetsTaken_6 : decode cX7_forgetsTaken 6 = .ok (.iconst 0, 1) := by decide +kernel
theorem dX7_forgetsTaken_7 : decode cX7_forgetsTaken 7 = .ok (.iastore, 1) := by decide +kernel
theorem dX7_forgetsTaken_8 : decode cX7_forgetsTaken 8 = .ok (.aload_n 0, 1) := by decide +kernel
theorem dX7_forgetsTaken_9 : decode cX7_forgetsTaken 9 = .ok (.getfield 7, 3) := by decide +kernel
theorem dX7_forgetsTaken_12 : decode cX7_forgetsTaken 12 = .ok (.bipush 11, 2) := by decide +kernel
theorem dX7_forgetsTaken_14 : decode cX7_forgetsTaken 14 = .ok (.iconst 0, 1) := by decide +kernel
theorem dX7_forgetsTaken_15 : decode cX7_forgetsTaken 15 = .ok (.iastore, 1) := by decide +kernel
theorem dX7_forgetsTaken_16 : decode cX7_forgetsTaken 16 = .ok (.return_, 1) := by decide +kernel
theorem dX7_isSecond_0 : decode cX7_isSecond 0 = .ok (.aload_n 0, 1) := by decide +kernel
theorem dX7_isSecond_1 : decode cX7_isSecond 1 = .ok (.getfield 7, 3) := by decide +kernel
theorem dX7_isSecond_4 : decode cX7_isSecond 4 = .ok (.bipush 8, 2) := by decide +kernel
theorem dX7_isSecond_6 : decode cX7_isSecond 6 = .ok (.iaload, 1) := by decide +kernel
theorem dX7_isSecond_7 : decode cX7_isSecond 7 = .ok (.istore_n 2, 1) := by decide +kernel
theorem dX7_isSecond_8 : decode cX7_isSecond 8 = .ok (.iload_n 2, 1) := by decide +kernel
theorem dX7_isSecond_9 : decode cX7_isSecond 9 = .ok (.bipush (-5), 2) := by decide +kernel
theorem dX7_isSecond_11 : decode cX7_isSecond 11 = .ok (.if_icmp .eq 62, 3) := by decide +kernel
theorem dX7_isSecond_14 : decode cX7_isSecond 14 = .ok (.aload_n 0, 1) := by decide +kernel
theorem dX7_isSecond_15 : decode cX7_isSecond 15 = .ok (.getfield 7, 3) := by decide +kernel
theorem dX7_isSecond_18 : decode cX7_isSecond 18 = .ok (.bipush 9, 2) := by decide +kernel
theorem dX7_isSecond_20 : decode cX7_isSecond 20 = .ok (.iaload, 1) := by decide +kernel
theorem dX7_isSecond_21 : decode cX7_isSecond 21 = .ok (.ifCond .ne 52, 3) := by decide +kernel
theorem dX7_isSecond_24 : decode cX7_isSecond 24 = .ok (.aload_n 0, 1) := by decide +kernel
theorem dX7_isSecond_25 : decode cX7_isSecond 25 = .ok (.iload_n 2, 1) := by decide +kernel
theorem dX7_isSecond_26 : decode cX7_isSecond 26 = .ok (.iconst 0, 1) := by decide +kernel
theorem dX7_isSecond_27 : decode cX7_isSecond 27 = .ok (.invokevirtual 68, 3) := by decide +kernel
theorem dX7_isSecond_30 : decode cX7_isSecond 30 = .ok (.aload_n 0, 1) := by decide +kernel
theorem dX7_isSecond_31 : decode cX7_isSecond 31 = .ok (.iload_n 1, 1) := by decide +kernel
theorem dX7_isSecond_32 : decode cX7_isSecond 32 = .ok (.iconst 0, 1) := by decide +kernel
theorem dX7_isSecond_33 : decode cX7_isSecond 33 = .ok (.invokevirtual 68, 3) := by decide +kernel
theorem dX7_isSecond_36 : decode cX7_isSecond 36 = .ok (.if_icmp .eq 37, 3) := by decide +kernel
theorem dX7_isSecond_39 : decode cX7_isSecond 39 = .ok (.aload_n 0, 1) := by decide +kernel
theorem dX7_isSecond_40 : decode cX7_isSecond 40 = .ok (.iload_n 2, 1) := by decide +kernel
theorem dX7_isSecond_41 : decode cX7_isSecond 41 = .ok (.iconst 4, 1) := by decide +kernel
theorem dX7_isSecond_42 : decode cX7_isSecond 42 = .ok (.invokevirtual 68, 3) := by decide +kernel
theorem dX7_isSecond_45 : decode cX7_isSecond 45 = .ok (.aload_n 0, 1) := by decide +kernel
theorem dX7_isSecond_46 : decode cX7_isSecond 46 = .ok (.iload_n 1, 1) := by decide +kernel
theorem dX7_isSecond_47 : decode cX7_isSecond 47 = .ok (.iconst 5, 1) := by decide +kernel
theorem dX7_isSecond_48 : decode cX7_isSecond 48 = .ok (.invokevirtual 68, 3) := by decide +kernel
theorem dX7_isSecond_51 : decode cX7_isSecond 51 = .ok (.if_icmp .ge 22, 3) := by decide +kernel
theorem dX7_isSecond_54 : decode cX7_isSecond 54 = .ok (.aload_n 0, 1) := by decide +kernel
theorem dX7_isSecond_55 : decode cX7_isSecond 55 = .ok (.iload_n 1, 1) := by decide +kernel
theorem dX7_isSecond_56 : decode cX7_isSecond 56 = .ok (.iconst 4, 1) := by decide +kernel
theorem dX7_isSecond_57 : decode cX7_isSecond 57 = .ok (.invokevirtual 68, 3) := by decide +kernel
theorem dX7_isSecond_60 : decode cX7_isSecond 60 = .ok (.aload_n 0, 1) := by decide +kernel
theorem dX7_isSecond_61 : decode cX7_isSecond 61 = .ok (.iload_n 2, 1) := by decide +kernel
theorem dX7_isSecond_62 : decode cX7_isSecond 62 = .ok (.iconst 5, 1) := by decide +kernel
theorem dX7_isSecond_63 : decode cX7_isSecond 63 = .ok (.invokevirtual 68, 3) := by decide +kernel
theorem dX7_isSecond_66 : decode cX7_isSecond 66 = .ok (.if_icmp .ge 7, 3) := by decide +kernel
theorem dX7_isSecond_69 : decode cX7_isSecond 69 = .ok (.iconst 1, 1) := by decide +kernel
theorem dX7_isSecond_70 : decode cX7_isSecond 70 = .ok (.goto 4, 3) := by decide +kernel
theorem dX7_isSecond_73 : decode cX7_isSecond 73 = .ok (.iconst 0, 1) := by decide +kernel
theorem dX7_isSecond_74 : decode cX7_isSecond 74 = .ok (.istore_n 3, 1) := by decide +kernel
theorem dX7_isSecond_75 : decode cX7_isSecond 75 = .ok (.iload_n 3, 1) := by decide +kernel
theorem dX7_isSecond_76 : decode cX7_isSecond 76 = .ok (.ifCond .eq 48, 3) := by decide +kernel
theorem dX7_isSecond_79 : decode cX7_isSecond 79 = .ok (.aload_n 0, 1) := by decide +kernel
theorem dX7_isSecond_80 : decode cX7_isSecond 80 = .ok (.getfield 7, 3) := by decide +kernel
theorem dX7_isSecond_83 : decode cX7_isSecond 83 = .ok (.bipush 9, 2) := by decide +kernel
theorem dX7_isSecond_85 : decode cX7_isSecond 85 = .ok (.iconst 1, 1) := by decide +kernel
theorem dX7_isSecond_86 : decode cX7_isSecond 86 = .ok (.iastore, 1) := by decide +kernel
theorem dX7_isSecond_87 : decode cX7_isSecond 87 = .ok (.aload_n 0, 1) := by decide +kernel
theorem dX7_isSecond_88 : decode cX7_isSecond 88 = .ok (.getfield 7, 3) := by decide +kernel
theorem dX7_isSecond_91 : decode cX7_isSecond 91 = .ok (.iconst 3, 1) := by decide +kernel
theorem dX7_isSecond_92 : decode cX7_isSecond 92 = .ok (.dup2, 1) := by decide +kernel
theorem dX7_isSecond_93 : decode cX7_isSecond 93 = .ok (.iaload, 1) := by decide +kernel
theorem dX7_isSecond_94 : decode cX7_isSecond 94 = .ok (.iconst 1, 1) := by decide +kernel
theorem dX7_isSecond_95 : decode cX7_isSecond 95 = .ok (.iadd, 1) := by decide +kernel
theorem dX7_isSecond_96 : decode cX7_isSecond 96 = .ok (.iastore, 1) := by decide +kernel
theorem dX7_isSecond_97 : decode cX7_isSecond 97 = .ok (.aload_n 0, 1) := by decide +kernel
theorem dX7_isSecond_98 : decode cX7_isSecond 98 = .ok (.getfield 7, 3) := by decide +kernel
theorem dX7_isSecond_101 : decode cX7_isSecond 101 = .ok (.iload_n 2, 1) := by decide +kernel
theorem dX7_isSecond_102 : decode cX7_isSecond 102 = .ok (.bipush 9, 2) := by decide +kernel
theorem dX7_isSecond_104 : decode cX7_isSecond 104 = .ok (.invokestatic 43, 3) := by decide +kernel
theorem dX7_isSecond_107 : decode cX7_isSecond 107 = .ok (.iload_n 1, 1) := by decide +kernel
theorem dX7_isSecond_108 : decode cX7_isSecond 108 = .ok (.iastore, 1) := by decide +kernel
theorem dX7_isSecond_109 : decode cX7_isSecond 109 = .ok (.aload_n 0, 1) := by decide +kernel
theorem dX7_isSecond_110 : decode cX7_isSecond 110 = .ok (.getfield 7, 3) := by decide +kernel
theorem dX7_isSecond_113 : decode cX7_isSecond 113 = .ok (.iload_n 1, 1) := by decide +kernel
theorem dX7_isSecond_114 : decode cX7_isSecond 114 = .ok (.bipush 9, 2) := by decide +kernel
theorem dX7_isSecond_116 : decode cX7_isSecond 116 = .ok (.invokestatic 43, 3) := by decide +kernel
theorem dX7_isSecond_119 : decode cX7_isSecond 119 = .ok (.iload_n 2, 1) := by decide +kernel
theorem dX7_isSecond_120 : decode cX7_isSecond 120 = .ok (.iastore, 1) := by decide +kernel
theorem dX7_isSecond_121 : decode cX7_isSecond 121 = .ok (.goto 29, 3) := by decide +kernel
theorem dX7_isSecond_124 : decode cX7_isSecond 124 = .ok (.aload_n 0, 1) := by decide +kernel
theorem dX7_isSecond_125 : decode cX7_isSecond 125 = .ok (.getfield 7, 3) := by decide +kernel
theorem dX7_isSecond_128 : decode cX7_isSecond 128 = .ok (.iconst 2, 1) := by decide +kernel
theorem dX7_isSecond_129 : decode cX7_isSecond 129 = .ok (.dup2, 1) := by decide +kernel
theorem dX7_isSecond_130 : decode cX7_isSecond 130 = .ok (.iaload, 1) := by decide +kernel
theorem dX7_isSecond_131 : decode cX7_isSecond 131 = .ok (.iconst 1, 1) := by decide +kernel
theorem dX7_isSecond_132 : decode cX7_isSecond 132 = .ok (.iadd, 1) := by decide +kernel
theorem dX7_isSecond_133 : decode cX7_isSecond 133 = .ok (.iastore, 1) := by decide +kernel
theorem dX7_isSecond_134 : decode cX7_isSecond 134 = .ok (.aload_n 0, 1) := by decide +kernel
theorem dX7_isSecond_135 : decode cX7_isSecond 135 = .ok (.getfield 7, 3) := by decide +kernel
theorem dX7_isSecond_138 : decode cX7_isSecond 138 = .ok (.bipush 8, 2) := by decide +kernel
theorem dX7_isSecond_140 : decode cX7_isSecond 140 = .ok (.iload_n 1, 1) := by decide +kernel
theorem dX7_isSecond_141 : decode cX7_isSecond 141 = .ok (.iastore, 1) := by decide +kernel
theorem dX7_isSecond_142 : decode cX7_isSecond 142 = .ok (.aload_n 0, 1) := by decide +kernel
theorem dX7_isSecond_143 : decode cX7_isSecond 143 = .ok (.getfield 7, 3) := by decide +kernel
theorem dX7_isSecond_146 : decode cX7_isSecond 146 = .ok (.bipush 9, 2) := by decide +kernel
theorem dX7_isSecond_148 : decode cX7_isSecond 148 = .ok (.iconst 0, 1) := by decide +kernel
theorem dX7_isSecond_149 : decode cX7_isSecond 149 = .ok (.iastore, 1) := by decide +kernel
theorem dX7_isSecond_150 : decode cX7_isSecond 150 = .ok (.aload_n 0, 1) := by decide +kernel
theorem dX7_isSecond_151 : decode cX7_isSecond 151 = .ok (.getfield 7, 3) := by decide +kernel
theorem dX7_isSecond_154 : decode cX7_isSecond 154 = .ok (.iload_n 1, 1) := by decide +kernel
theorem dX7_isSecond_155 : decode cX7_isSecond 155 = .ok (.bipush 8, 2) := by decide +kernel
theorem dX7_isSecond_157 : decode cX7_isSecond 157 = .ok (.invokestatic 43, 3) := by decide +kernel
theorem dX7_isSecond_160 : decode cX7_isSecond 160 = .ok (.aload_n 0, 1) := by decide +kernel
theorem dX7_isSecond_161 : decode cX7_isSecond 161 = .ok (.getfield 7, 3) := by decide +kernel
theorem dX7_isSecond_164 : decode cX7_isSecond 164 = .ok (.iconst 2, 1) := by decide +kernel
theorem dX7_isSecond_165 : decode cX7_isSecond 165 = .ok (.iaload, 1) := by decide +kernel
theorem dX7_isSecond_166 : decode cX7_isSecond 166 = .ok (.iastore, 1) := by decide +kernel
theorem dX7_isSecond_167 : decode cX7_isSecond 167 = .ok (.iload_n 3, 1) := by decide +kernel
theorem dX7_isSecond_168 : decode cX7_isSecond 168 = .ok (.ireturn, 1) := by decide +kernel
theorem dX7_edgeOf_0 : decode cX7_edgeOf 0 = .ok (.bipush 12, 2) := by decide +kernel
theorem dX7_edgeOf_2 : decode cX7_edgeOf 2 = .ok (.aload_n 0, 1) := by decide +kernel
theorem dX7_edgeOf_3 : decode cX7_edgeOf 3 = .ok (.iload_n 1, 1) := by decide +kernel
theorem dX7_edgeOf_4 : decode cX7_edgeOf 4 = .ok (.iconst 2, 1) := by decide +kernel
theorem dX7_edgeOf_5 : decode cX7_edgeOf 5 = .ok (.invokevirtual 68, 3) := by decide +kernel
theorem dX7_edgeOf_8 : decode cX7_edgeOf 8 = .ok (.aload_n 0, 1) := by decide +kernel
theorem dX7_edgeOf_9 : decode cX7_edgeOf 9 = .ok (.iload_n 1, 1) := by decide +kernel
theorem dX7_edgeOf_10 : decode cX7_edgeOf 10 = .ok (.iconst 3, 1) := by decide +kernel
theorem dX7_edgeOf_11 : decode cX7_edgeOf 11 = .ok (.invokevirtual 68, 3) := by decide +kernel
theorem dX7_edgeOf_14 : decode cX7_edgeOf 14 = .ok (.invokestatic 71, 3) := by decide +kernel
theorem dX7_edgeOf_17 : decode cX7_edgeOf 17 = .ok (.iadd, 1) := by decide +kernel
theorem dX7_edgeOf_18 : decode cX7_edgeOf 18 = .ok (.ireturn, 1) := by decide +kernel
theorem dX7_does_0 : decode cX7_does 0 = .ok (.aload_n 0, 1) := by decide +kernel
theorem dX7_does_1 : decode cX7_does 1 = .ok (.iload_n 1, 1) := by decide +kernel
theorem dX7_does_2 : decode cX7_does 2 = .ok (.iconst 0, 1) := by decide +kernel
theorem dX7_does_3 : decode cX7_does 3 = .ok (.invokevirtual 68, 3) := by decide +kernel
theorem dX7_does_6 : decode cX7_does 6 = .ok (.istore_n 2, 1) := by decide +kernel
theorem dX7_does_7 : decode cX7_does 7 = .ok (.aload_n 0, 1) := by decide +kernel
theorem dX7_does_8 : decode cX7_does 8 = .ok (.iload_n 1, 1) := by decide +kernel
theorem dX7_does_9 : decode cX7_does 9 = .ok (.iconst 1, 1) := by decide +kernel
theorem dX7_does_10 : decode cX7_does 10 = .ok (.invokevirtual 68, 3) := by decide +kernel
theorem dX7_does_13 : decode cX7_does 13 = .ok (.istore_n 3, 1) := by decide +kernel
theorem dX7_does_14 : decode cX7_does 14 = .ok (.aload_n 0, 1) := by decide +kernel
theorem dX7_does_15 : decode cX7_does 15 = .ok (.iload_n 1, 1) := by decide +kernel
theorem dX7_does_16 : decode cX7_does 16 = .ok (.iconst 2, 1) := by decide +kernel
theorem dX7_does_17 : decode cX7_does 17 = .ok (.invokevirtual 68, 3) := by decide +kernel
theorem dX7_does_20 : decode cX7_does 20 = .ok (.istore 4, 2) := by decide +kernel
theorem dX7_does_22 : decode cX7_does 22 = .ok (.iload_n 3, 1) := by decide +kernel
theorem dX7_does_23 : decode cX7_does 23 = .ok (.iconst 3, 1) := by decide +kernel
theorem dX7_does_24 : decode cX7_does 24 = .ok (.if_icmp .ne 27, 3) := by decide +kernel
theorem dX7_does_27 : decode cX7_does 27 = .ok (.aload_n 0, 1) := by decide +kernel
theorem dX7_does_28 : decode cX7_does 28 = .ok (.getfield 7, 3) := by decide +kernel
theorem dX7_does_31 : decode cX7_does 31 = .ok (.bipush 6, 2) := by decide +kernel
theorem dX7_does_33 : decode cX7_does 33 = .ok (.iload_n 2, 1) := by decide +kernel
theorem dX7_does_34 : decode cX7_does 34 = .ok (.iadd, 1) := by decide +kernel
theorem dX7_does_35 : decode cX7_does 35 = .ok (.aload_n 0, 1) := by decide +kernel
theorem dX7_does_36 : decode cX7_does 36 = .ok (.getfield 7, 3) := by decide +kernel
theorem dX7_does_39 : decode cX7_does 39 = .ok (.iconst 0, 1) := by decide +kernel
theorem dX7_does_40 : decode cX7_does 40 = .ok (.iaload, 1) := by decide +kernel
theorem dX7_does_41 : decode cX7_does 41 = .ok (.aload_n 0, 1) := by decide +kernel
theorem dX7_does_42 : decode cX7_does 42 = .ok (.iload_n 1, 1) := by decide +kernel
theorem dX7_does_43 : decode cX7_does 43 = .ok (.iconst 3, 1) := by decide +kernel
theorem dX7_does_44 : decode cX7_does 44 = .ok (.invokevirtual 68, 3) := by decide +kernel
theorem dX7_does_47 : decode cX7_does 47 = .ok (.iadd, 1) := by decide +kernel
theorem dX7_does_48 : decode cX7_does 48 = .ok (.iastore, 1) := by decide +kernel
theorem dX7_does_49 : decode cX7_does 49 = .ok (.iconst 0, 1) := by decide +kernel
theorem dX7_does_50 : decode cX7_does 50 = .ok (.ireturn, 1) := by decide +kernel
theorem dX7_does_51 : decode cX7_does 51 = .ok (.iload_n 3, 1) := by decide +kernel
theorem dX7_does_52 : decode cX7_does 52 = .ok (.iconst 2, 1) := by decide +kernel
theorem dX7_does_53 : decode cX7_does 53 = .ok (.if_icmp .eq 70, 3) := by decide +kernel
theorem dX7_does_56 : decode cX7_does 56 = .ok (.aload_n 0, 1) := by decide +kernel
theorem dX7_does_57 : decode cX7_does 57 = .ok (.iload_n 3, 1) := by decide +kernel
theorem dX7_does_58 : decode cX7_does 58 = .ok (.iconst 1, 1) := by decide +kernel
theorem dX7_does_59 : decode cX7_does 59 = .ok (.if_icmp .ne 7, 3) := by decide +kernel
theorem dX7_does_62 : decode cX7_does 62 = .ok (.iconst 1, 1) := by decide +kernel
theorem dX7_does_63 : decode cX7_does 63 = .ok (.goto 4, 3) := by decide +kernel
theorem dX7_does_66 : decode cX7_does 66 = .ok (.iconst 0, 1) := by decide +kernel
theorem dX7_does_67 : decode cX7_does 67 = .ok (.aload_n 0, 1) := by decide +kernel
theorem dX7_does_68 : decode cX7_does 68 = .ok (.iload_n 1, 1) := by decide +kernel
theorem dX7_does_69 : decode cX7_does 69 = .ok (.invokevirtual 74, 3) := by decide +kernel
theorem dX7_does_72 : decode cX7_does 72 = .ok (.bipush 12, 2) := by decide +kernel
theorem dX7_does_74 : decode cX7_does 74 = .ok (.isub, 1) := by decide +kernel
theorem dX7_does_75 : decode cX7_does 75 = .ok (.invokevirtual 77, 3) := by decide +kernel
theorem dX7_does_78 : decode cX7_does 78 = .ok (.istore 5, 2) := by decide +kernel
theorem dX7_does_80 : decode cX7_does 80 = .ok (.aload_n 0, 1) := by decide +kernel
theorem dX7_does_81 : decode cX7_does 81 = .ok (.getfield 7, 3) := by decide +kernel
theorem dX7_does_84 : decode cX7_does 84 = .ok (.aload_n 0, 1) := by decide +kernel
theorem dX7_does_85 : decode cX7_does 85 = .ok (.iload_n 1, 1) := by decide +kernel
theorem dX7_does_86 : decode cX7_does 86 = .ok (.invokevirtual 74, 3) := by decide +kernel
theorem dX7_does_89 : decode cX7_does 89 = .ok (.iload 5, 2) := by decide +kernel
theorem dX7_does_91 : decode cX7_does 91 = .ok (.ifCond .le 16, 3) := by decide +kernel
theorem dX7_does_94 : decode cX7_does 94 = .ok (.aload_n 0, 1) := by decide +kernel
theorem dX7_does_95 : decode cX7_does 95 = .ok (.getfield 7, 3) := by decide +kernel
theorem dX7_does_98 : decode cX7_does 98 = .ok (.aload_n 0, 1) := by decide +kernel
theorem dX7_does_99 : decode cX7_does 99 = .ok (.iload_n 1, 1) := by decide +kernel
theorem dX7_does_100 : decode cX7_does 100 = .ok (.invokevirtual 74, 3) := by decide +kernel
theorem dX7_does_103 : decode cX7_does 103 = .ok (.iaload, 1) := by decide +kernel
theorem dX7_does_104 : decode cX7_does 104 = .ok (.goto 15, 3) := by decide +kernel
theorem dX7_does_107 : decode cX7_does 107 = .ok (.iload_n 3, 1) := by decide +kernel
theorem dX7_does_108 : decode cX7_does 108 = .ok (.iconst 1, 1) := by decide +kernel
theorem dX7_does_109 : decode cX7_does 109 = .ok (.if_icmp .ne 7, 3) := by decide +kernel
theorem dX7_does_112 : decode cX7_does 112 = .ok (.iconst 0, 1) := by decide +kernel
theorem dX7_does_113 : decode cX7_does 113 = .ok (.goto 6, 3) := by decide +kernel
theorem dX7_does_116 : decode cX7_does 116 = .ok (.iconst 1, 1) := by decide +kernel
theorem dX7_does_117 : decode cX7_does 117 = .ok (.iload_n 2, 1) := by decide +kernel
theorem dX7_does_118 : decode cX7_does 118 = .ok (.iadd, 1) := by decide +kernel
theorem dX7_does_119 : decode cX7_does 119 = .ok (.iastore, 1) := by decide +kernel
theorem dX7_does_120 : decode cX7_does 120 = .ok (.iload 5, 2) := by decide +kernel
theorem dX7_does_122 : decode cX7_does 122 = .ok (.ireturn, 1) := by decide +kernel
theorem dX7_does_123 : decode cX7_does 123 = .ok (.aload_n 0, 1) := by decide +kernel
theorem dX7_does_124 : decode cX7_does 124 = .ok (.iload 4, 2) := by decide +kernel
theorem dX7_does_126 : decode cX7_does 126 = .ok (.invokevirtual 81, 3) := by decide +kernel
theorem dX7_does_129 : decode cX7_does 129 = .ok (.istore 5, 2) := by decide +kernel
theorem dX7_does_131 : decode cX7_does 131 = .ok (.iconst 0, 1) := by decide +kernel
theorem dX7_does_132 : decode cX7_does 132 = .ok (.istore 6, 2) := by decide +kernel
theorem dX7_does_134 : decode cX7_does 134 = .ok (.iload 6, 2) := by decide +kernel
theorem dX7_does_136 : decode cX7_does 136 = .ok (.bipush 48, 2) := by decide +kernel
theorem dX7_does_138 : decode cX7_does 138 = .ok (.if_icmp .ge 73, 3) := by decide +kernel
theorem dX7_does_141 : decode cX7_does 141 = .ok (.iload 5, 2) := by decide +kernel
theorem dX7_does_143 : decode cX7_does 143 = .ok (.ifCond .ne 68, 3) := by decide +kernel
theorem dX7_does_146 : decode cX7_does 146 = .ok (.aload_n 0, 1) := by decide +kernel
theorem dX7_does_147 : decode cX7_does 147 = .ok (.getfield 35, 3) := by decide +kernel
theorem dX7_does_150 : decode cX7_does 150 = .ok (.iload 6, 2) := by decide +kernel
theorem dX7_does_152 : decode cX7_does 152 = .ok (.baload, 1) := by decide +kernel
theorem dX7_does_153 : decode cX7_does 153 = .ok (.ifCond .eq 52, 3) := by decide +kernel
theorem dX7_does_156 : decode cX7_does 156 = .ok (.aload_n 0, 1) := by decide +kernel
theorem dX7_does_157 : decode cX7_does 157 = .ok (.getfield 7, 3) := by decide +kernel
theorem dX7_does_160 : decode cX7_does 160 = .ok (.bipush 94, 2) := by decide +kernel
theorem dX7_does_162 : decode cX7_does 162 = .ok (.iload 6, 2) := by decide +kernel
theorem dX7_does_164 : decode cX7_does 164 = .ok (.iadd, 1) := by decide +kernel
theorem dX7_does_165 : decode cX7_does 165 = .ok (.iaload, 1) := by decide +kernel
theorem dX7_does_166 : decode cX7_does 166 = .ok (.bipush (-5), 2) := by decide +kernel
theorem dX7_does_168 : decode cX7_does 168 = .ok (.if_icmp .ne 37, 3) := by decide +kernel
theorem dX7_does_171 : decode cX7_does 171 = .ok (.aload_n 0, 1) := by decide +kernel
theorem dX7_does_172 : decode cX7_does 172 = .ok (.getfield 7, 3) := by decide +kernel
theorem dX7_does_175 : decode cX7_does 175 = .ok (.bipush 94, 2) := by decide +kernel
theorem dX7_does_177 : decode cX7_does 177 = .ok (.iload 6, 2) := by decide +kernel
theorem dX7_does_179 : decode cX7_does 179 = .ok (.iadd, 1) := by decide +kernel
theorem dX7_does_180 : decode cX7_does 180 = .ok (.iload_n 2, 1) := by decide +kernel
theorem dX7_does_181 : decode cX7_does 181 = .ok (.iastore, 1) := by decide +kernel
theorem dX7_does_182 : decode cX7_does 182 = .ok (.aload_n 0, 1) := by decide +kernel
theorem dX7_does_183 : decode cX7_does 183 = .ok (.getfield 7, 3) := by decide +kernel
theorem dX7_does_186 : decode cX7_does 186 = .ok (.bipush 10, 2) := by decide +kernel
theorem dX7_does_188 : decode cX7_does 188 = .ok (.iload 6, 2) := by decide +kernel
theorem dX7_does_190 : decode cX7_does 190 = .ok (.bipush 24, 2) := by decide +kernel
theorem dX7_does_192 : decode cX7_does 192 = .ok (.idiv, 1) := by decide +kernel
theorem dX7_does_193 : decode cX7_does 193 = .ok (.iadd, 1) := by decide +kernel
theorem dX7_does_194 : decode cX7_does 194 = .ok (.dup2, 1) := by decide +kernel
theorem dX7_does_195 : decode cX7_does 195 = .ok (.iaload, 1) := by decide +kernel
theorem dX7_does_196 : decode cX7_does 196 = .ok (.iconst 1, 1) := by decide +kernel
theorem dX7_does_197 : decode cX7_does 197 = .ok (.iload 6, 2) := by decide +kernel
theorem dX7_does_199 : decode cX7_does 199 = .ok (.bipush 24, 2) := by decide +kernel
theorem dX7_does_201 : decode cX7_does 201 = .ok (.irem, 1) := by decide +kernel
theorem dX7_does_202 : decode cX7_does 202 = .ok (.ishl, 1) := by decide +kernel
theorem dX7_does_203 : decode cX7_does 203 = .ok (.ior, 1) := by decide +kernel
theorem dX7_does_204 : decode cX7_does 204 = .ok (.iastore, 1) := by decide +kernel
theorem dX7_does_205 : decode cX7_does 205 = .ok (.iinc 6 1, 3) := by decide +kernel
theorem dX7_does_208 : decode cX7_does 208 = .ok (.goto (-74), 3) := by decide +kernel
theorem dX7_does_211 : decode cX7_does 211 = .ok (.iload 5, 2) := by decide +kernel
theorem dX7_does_213 : decode cX7_does 213 = .ok (.ireturn, 1) := by decide +kernel
theorem dX7_doesSecond_0 : decode cX7_doesSecond 0 = .ok (.aload_n 0, 1) := by decide +kernel
theorem dX7_doesSecond_1 : decode cX7_doesSecond 1 = .ok (.getfield 7, 3) := by decide +kernel
theorem dX7_doesSecond_4 : decode cX7_doesSecond 4 = .ok (.bipush 8, 2) := by decide +kernel
theorem dX7_doesSecond_6 : decode cX7_doesSecond 6 = .ok (.iaload, 1) := by decide +kernel
theorem dX7_doesSecond_7 : decode cX7_doesSecond 7 = .ok (.istore_n 2, 1) := by decide +kernel
theorem dX7_doesSecond_8 : decode cX7_doesSecond 8 = .ok (.aload_n 0, 1) := by decide +kernel
theorem dX7_doesSecond_9 : decode cX7_doesSecond 9 = .ok (.iload_n 1, 1) := by decide +kernel
theorem dX7_doesSecond_10 : decode cX7_doesSecond 10 = .ok (.iconst 1, 1) := by decide +kernel
theorem dX7_doesSecond_11 : decode cX7_doesSecond 11 = .ok (.invokevirtual 68, 3) := by decide +kernel
theorem dX7_doesSecond_14 : decode cX7_doesSecond 14 = .ok (.istore_n 3, 1) := by decide +kernel
theorem dX7_doesSecond_15 : decode cX7_doesSecond 15 = .ok (.iload_n 3, 1) := by decide +kernel
theorem dX7_doesSecond_16 : decode cX7_doesSecond 16 = .ok (.aload_n 0, 1) := by decide +kernel
theorem dX7_doesSecond_17 : decode cX7_doesSecond 17 = .ok (.iload_n 2, 1) := by decide +kernel
theorem dX7_doesSecond_18 : decode cX7_doesSecond 18 = .ok (.iconst 1, 1) := by decide +kernel
theorem dX7_doesSecond_19 : decode cX7_doesSecond 19 = .ok (.invokevirtual 68, 3) := by decide +kernel
theorem dX7_doesSecond_22 : decode cX7_doesSecond 22 = .ok (.if_icmp .ne 14, 3) := by decide +kernel
theorem dX7_doesSecond_25 : decode cX7_doesSecond 25 = .ok (.aload_n 0, 1) := by decide +kernel
theorem dX7_doesSecond_26 : decode cX7_doesSecond 26 = .ok (.iload_n 2, 1) := by decide +kernel
theorem dX7_doesSecond_27 : decode cX7_doesSecond 27 = .ok (.bipush 6, 2) := by decide +kernel
theorem dX7_doesSecond_29 : decode cX7_doesSecond 29 = .ok (.invokevirtual 68, 3) := by decide +kernel
theorem dX7_doesSecond_32 : decode cX7_doesSecond 32 = .ok (.iconst 1, 1) := by decide +kernel
theorem dX7_doesSecond_33 : decode cX7_doesSecond 33 = .ok (.if_icmp .eq 6, 3) := by decide +kernel
theorem dX7_doesSecond_36 : decode cX7_doesSecond 36 = .ok (.bipush (-5), 2) := by decide +kernel
theorem dX7_doesSecond_38 : decode cX7_doesSecond 38 = .ok (.ireturn, 1) := by decide +kernel
theorem dX7_doesSecond_39 : decode cX7_doesSecond 39 = .ok (.iload_n 3, 1) := by decide +kernel
theorem dX7_doesSecond_40 : decode cX7_doesSecond 40 = .ok (.ifCond .ne 50, 3) := by decide +kernel
theorem dX7_doesSecond_43 : decode cX7_doesSecond 43 = .ok (.aload_n 0, 1) := by decide +kernel
theorem dX7_doesSecond_44 : decode cX7_doesSecond 44 = .ok (.iload_n 1, 1) := by decide +kernel
theorem dX7_doesSecond_45 : decode cX7_doesSecond 45 = .ok (.invokevirtual 74, 3) := by decide +kernel
theorem dX7_doesSecond_48 : decode cX7_doesSecond 48 = .ok (.aload_n 0, 1) := by decide +kernel
theorem dX7_doesSecond_49 : decode cX7_doesSecond 49 = .ok (.iload_n 2, 1) := by decide +kernel
theorem dX7_doesSecond_50 : decode cX7_doesSecond 50 = .ok (.invokevirtual 74, 3) := by decide +kernel
theorem dX7_doesSecond_53 : decode cX7_doesSecond 53 = .ok (.if_icmp .ne 37, 3) := by decide +kernel
theorem dX7_doesSecond_56 : decode cX7_doesSecond 56 = .ok (.aload_n 0, 1) := by decide +kernel
theorem dX7_doesSecond_57 : decode cX7_doesSecond 57 = .ok (.getfield 7, 3) := by decide +kernel
theorem dX7_doesSecond_60 : decode cX7_doesSecond 60 = .ok (.aload_n 0, 1) := by decide +kernel
theorem dX7_doesSecond_61 : decode cX7_doesSecond 61 = .ok (.iload_n 1, 1) := by decide +kernel
theorem dX7_doesSecond_62 : decode cX7_doesSecond 62 = .ok (.invokevirtual 74, 3) := by decide +kernel
theorem dX7_doesSecond_65 : decode cX7_doesSecond 65 = .ok (.iaload, 1) := by decide +kernel
theorem dX7_doesSecond_66 : decode cX7_doesSecond 66 = .ok (.iconst 1, 1) := by decide +kernel
theorem dX7_doesSecond_67 : decode cX7_doesSecond 67 = .ok (.aload_n 0, 1) := by decide +kernel
theorem dX7_doesSecond_68 : decode cX7_doesSecond 68 = .ok (.iload_n 2, 1) := by decide +kernel
theorem dX7_doesSecond_69 : decode cX7_doesSecond 69 = .ok (.iconst 0, 1) := by decide +kernel
theorem dX7_doesSecond_70 : decode cX7_doesSecond 70 = .ok (.invokevirtual 68, 3) := by decide +kernel
theorem dX7_doesSecond_73 : decode cX7_doesSecond 73 = .ok (.iadd, 1) := by decide +kernel
theorem dX7_doesSecond_74 : decode cX7_doesSecond 74 = .ok (.if_icmp .ne 16, 3) := by decide +kernel
theorem dX7_doesSecond_77 : decode cX7_doesSecond 77 = .ok (.aload_n 0, 1) := by decide +kernel
theorem dX7_doesSecond_78 : decode cX7_doesSecond 78 = .ok (.getfield 7, 3) := by decide +kernel
theorem dX7_doesSecond_81 : decode cX7_doesSecond 81 = .ok (.aload_n 0, 1) := by decide +kernel
theorem dX7_doesSecond_82 : decode cX7_doesSecond 82 = .ok (.iload_n 1, 1) := by decide +kernel
theorem dX7_doesSecond_83 : decode cX7_doesSecond 83 = .ok (.invokevirtual 74, 3) := by decide +kernel
theorem dX7_doesSecond_86 : decode cX7_doesSecond 86 = .ok (.iconst 3, 1) := by decide +kernel
theorem dX7_doesSecond_87 : decode cX7_doesSecond 87 = .ok (.iastore, 1) := by decide +kernel
theorem dX7_doesSecond_88 : decode cX7_doesSecond 88 = .ok (.iconst 0, 1) := by decide +kernel
theorem dX7_doesSecond_89 : decode cX7_doesSecond 89 = .ok (.ireturn, 1) := by decide +kernel
theorem dX7_doesSecond_90 : decode cX7_doesSecond 90 = .ok (.iload_n 3, 1) := by decide +kernel
theorem dX7_doesSecond_91 : decode cX7_doesSecond 91 = .ok (.iconst 2, 1) := by decide +kernel
theorem dX7_doesSecond_92 : decode cX7_doesSecond 92 = .ok (.if_icmp .ne 69, 3) := by decide +kernel
theorem dX7_doesSecond_95 : decode cX7_doesSecond 95 = .ok (.aload_n 0, 1) := by decide +kernel
theorem dX7_doesSecond_96 : decode cX7_doesSecond 96 = .ok (.aload_n 0, 1) := by decide +kernel
theorem dX7_doesSecond_97 : decode cX7_doesSecond 97 = .ok (.iload_n 1, 1) := by decide +kernel
theorem dX7_doesSecond_98 : decode cX7_doesSecond 98 = .ok (.iconst 2, 1) := by decide +kernel
theorem dX7_doesSecond_99 : decode cX7_doesSecond 99 = .ok (.invokevirtual 68, 3) := by decide +kernel
theorem dX7_doesSecond_102 : decode cX7_doesSecond 102 = .ok (.invokevirtual 84, 3) := by decide +kernel
theorem dX7_doesSecond_105 : decode cX7_doesSecond 105 = .ok (.ifCond .eq 56, 3) := by decide +kernel
theorem dX7_doesSecond_108 : decode cX7_doesSecond 108 = .ok (.iconst 0, 1) := by decide +kernel
theorem dX7_doesSecond_109 : decode cX7_doesSecond 109 = .ok (.istore 4, 2) := by decide +kernel
theorem dX7_doesSecond_111 : decode cX7_doesSecond 111 = .ok (.iload 4, 2) := by decide +kernel
theorem dX7_doesSecond_113 : decode cX7_doesSecond 113 = .ok (.bipush 48, 2) := by decide +kernel
theorem dX7_doesSecond_115 : decode cX7_doesSecond 115 = .ok (.if_icmp .ge 43, 3) := by decide +kernel
theorem dX7_doesSecond_118 : decode cX7_doesSecond 118 = .ok (.aload_n 0, 1) := by decide +kernel
theorem dX7_doesSecond_119 : decode cX7_doesSecond 119 = .ok (.getfield 7, 3) := by decide +kernel
theorem dX7_doesSecond_122 : decode cX7_doesSecond 122 = .ok (.bipush 94, 2) := by decide +kernel
theorem dX7_doesSecond_124 : decode cX7_doesSecond 124 = .ok (.iload 4, 2) := by decide +kernel
theorem dX7_doesSecond_126 : decode cX7_doesSecond 126 = .ok (.iadd, 1) := by decide +kernel
theorem dX7_doesSecond_127 : decode cX7_doesSecond 127 = .ok (.aload_n 0, 1) := by decide +kernel
theorem dX7_doesSecond_128 : decode cX7_doesSecond 128 = .ok (.iload 4, 2) := by decide +kernel
theorem dX7_doesSecond_130 : decode cX7_doesSecond 130 = .ok (.invokevirtual 84, 3) := by decide +kernel
theorem dX7_doesSecond_133 : decode cX7_doesSecond 133 = .ok (.ifCond .eq 8, 3) := by decide +kernel
theorem dX7_doesSecond_136 : decode cX7_doesSecond 136 = .ok (.bipush (-5), 2) := by decide +kernel
theorem dX7_doesSecond_138 : decode cX7_doesSecond 138 = .ok (.goto 13, 3) := by decide +kernel
theorem dX7_doesSecond_141 : decode cX7_doesSecond 141 = .ok (.aload_n 0, 1) := by decide +kernel
theorem dX7_doesSecond_142 : decode cX7_doesSecond 142 = .ok (.getfield 7, 3) := by decide +kernel
theorem dX7_doesSecond_145 : decode cX7_doesSecond 145 = .ok (.bipush 94, 2) := by decide +kernel
theorem dX7_doesSecond_147 : decode cX7_doesSecond 147 = .ok (.iload 4, 2) := by decide +kernel
theorem dX7_doesSecond_149 : decode cX7_doesSecond 149 = .ok (.iadd, 1) := by decide +kernel
theorem dX7_doesSecond_150 : decode cX7_doesSecond 150 = .ok (.iaload, 1) := by decide +kernel
theorem dX7_doesSecond_151 : decode cX7_doesSecond 151 = .ok (.iastore, 1) := by decide +kernel
theorem dX7_doesSecond_152 : decode cX7_doesSecond 152 = .ok (.iinc 4 1, 3) := by decide +kernel
theorem dX7_doesSecond_155 : decode cX7_doesSecond 155 = .ok (.goto (-44), 3) := by decide +kernel
theorem dX7_doesSecond_158 : decode cX7_doesSecond 158 = .ok (.bipush 6, 2) := by decide +kernel
theorem dX7_doesSecond_160 : decode cX7_doesSecond 160 = .ok (.ireturn, 1) := by decide +kernel
theorem dX7_doesSecond_161 : decode cX7_doesSecond 161 = .ok (.bipush (-5), 2) := by decide +kernel
theorem dX7_doesSecond_163 : decode cX7_doesSecond 163 = .ok (.ireturn, 1) := by decide +kernel
theorem dX7_comes_0 : decode cX7_comes 0 = .ok (.aload_n 0, 1) := by decide +kernel
theorem dX7_comes_1 : decode cX7_comes 1 = .ok (.iload_n 1, 1) := by decide +kernel
theorem dX7_comes_2 : decode cX7_comes 2 = .ok (.invokevirtual 87, 3) := by decide +kernel
theorem dX7_comes_5 : decode cX7_comes 5 = .ok (.ifCond .eq 11, 3) := by decide +kernel
theorem dX7_comes_8 : decode cX7_comes 8 = .ok (.aload_n 0, 1) := by decide +kernel
theorem dX7_comes_9 : decode cX7_comes 9 = .ok (.iload_n 1, 1) := by decide +kernel
theorem dX7_comes_10 : decode cX7_comes 10 = .ok (.invokevirtual 90, 3) := by decide +kernel
theorem dX7_comes_13 : decode cX7_comes 13 = .ok (.goto 5, 3) := by decide +kernel
theorem dX7_comes_16 : decode cX7_comes 16 = .ok (.bipush (-5), 2) := by decide +kernel
theorem dX7_comes_18 : decode cX7_comes 18 = .ok (.istore_n 2, 1) := by decide +kernel
theorem dX7_comes_19 : decode cX7_comes 19 = .ok (.iload_n 2, 1) := by decide +kernel
theorem dX7_comes_20 : decode cX7_comes 20 = .ok (.bipush (-5), 2) := by decide +kernel
theorem dX7_comes_22 : decode cX7_comes 22 = .ok (.if_icmp .ne 13, 3) := by decide +kernel
theorem dX7_comes_25 : decode cX7_comes 25 = .ok (.aload_n 0, 1) := by decide +kernel
theorem dX7_comes_26 : decode cX7_comes 26 = .ok (.invokevirtual 93, 3) := by decide +kernel
theorem dX7_comes_29 : decode cX7_comes 29 = .ok (.aload_n 0, 1) := by decide +kernel
theorem dX7_comes_30 : decode cX7_comes 30 = .ok (.iload_n 1, 1) := by decide +kernel
theorem dX7_comes_31 : decode cX7_comes 31 = .ok (.invokevirtual 96, 3) := by decide +kernel
theorem dX7_comes_34 : decode cX7_comes 34 = .ok (.istore_n 2, 1) := by decide +kernel
theorem dX7_comes_35 : decode cX7_comes 35 = .ok (.aload_n 0, 1) := by decide +kernel
theorem dX7_comes_36 : decode cX7_comes 36 = .ok (.getfield 7, 3) := by decide +kernel
theorem dX7_comes_39 : decode cX7_comes 39 = .ok (.iload_n 1, 1) := by decide +kernel
theorem dX7_comes_40 : decode cX7_comes 40 = .ok (.bipush 7, 2) := by decide +kernel
theorem dX7_comes_42 : decode cX7_comes 42 = .ok (.invokestatic 43, 3) := by decide +kernel
theorem dX7_comes_45 : decode cX7_comes 45 = .ok (.iload_n 2, 1) := by decide +kernel
theorem dX7_comes_46 : decode cX7_comes 46 = .ok (.iastore, 1) := by decide +kernel
theorem dX7_comes_47 : decode cX7_comes 47 = .ok (.aload_n 0, 1) := by decide +kernel
theorem dX7_comes_48 : decode cX7_comes 48 = .ok (.getfield 7, 3) := by decide +kernel
theorem dX7_comes_51 : decode cX7_comes 51 = .ok (.iload_n 1, 1) := by decide +kernel
theorem dX7_comes_52 : decode cX7_comes 52 = .ok (.bipush 6, 2) := by decide +kernel
theorem dX7_comes_54 : decode cX7_comes 54 = .ok (.invokestatic 43, 3) := by decide +kernel
theorem dX7_comes_57 : decode cX7_comes 57 = .ok (.iload_n 2, 1) := by decide +kernel
theorem dX7_comes_58 : decode cX7_comes 58 = .ok (.ifCond .le 7, 3) := by decide +kernel
theorem dX7_comes_61 : decode cX7_comes 61 = .ok (.iconst 2, 1) := by decide +kernel
theorem dX7_comes_62 : decode cX7_comes 62 = .ok (.goto 4, 3) := by decide +kernel
theorem dX7_comes_65 : decode cX7_comes 65 = .ok (.iconst 1, 1) := by decide +kernel
theorem dX7_comes_66 : decode cX7_comes 66 = .ok (.iastore, 1) := by decide +kernel
theorem dX7_comes_67 : decode cX7_comes 67 = .ok (.return_, 1) := by decide +kernel
theorem dX7_day_0 : decode cX7_day 0 = .ok (.iconst 0, 1) := by decide +kernel
theorem dX7_day_1 : decode cX7_day 1 = .ok (.istore_n 1, 1) := by decide +kernel
theorem dX7_day_2 : decode cX7_day 2 = .ok (.aload_n 0, 1) := by decide +kernel
theorem dX7_day_3 : decode cX7_day 3 = .ok (.getfield 7, 3) := by decide +kernel
theorem dX7_day_6 : decode cX7_day 6 = .ok (.iconst 0, 1) := by decide +kernel
theorem dX7_day_7 : decode cX7_day 7 = .ok (.dup2, 1) := by decide +kernel
theorem dX7_day_8 : decode cX7_day 8 = .ok (.iaload, 1) := by decide +kernel
theorem dX7_day_9 : decode cX7_day 9 = .ok (.iconst 1, 1) := by decide +kernel
theorem dX7_day_10 : decode cX7_day 10 = .ok (.iadd, 1) := by decide +kernel
theorem dX7_day_11 : decode cX7_day 11 = .ok (.iastore, 1) := by decide +kernel
theorem dX7_day_12 : decode cX7_day 12 = .ok (.iconst 0, 1) := by decide +kernel
theorem dX7_day_13 : decode cX7_day 13 = .ok (.istore_n 2, 1) := by decide +kernel
theorem dX7_day_14 : decode cX7_day 14 = .ok (.iload_n 2, 1) := by decide +kernel
theorem dX7_day_15 : decode cX7_day 15 = .ok (.aload_n 0, 1) := by decide +kernel
theorem dX7_day_16 : decode cX7_day 16 = .ok (.getfield 7, 3) := by decide +kernel
theorem dX7_day_19 : decode cX7_day 19 = .ok (.iconst 1, 1) := by decide +kernel
theorem dX7_day_20 : decode cX7_day 20 = .ok (.iaload, 1) := by decide +kernel
theorem dX7_day_21 : decode cX7_day 21 = .ok (.if_icmp .ge 42, 3) := by decide +kernel
theorem dX7_day_24 : decode cX7_day 24 = .ok (.aload_n 0, 1) := by decide +kernel
theorem dX7_day_25 : decode cX7_day 25 = .ok (.iload_n 2, 1) := by decide +kernel
theorem dX7_day_26 : decode cX7_day 26 = .ok (.bipush 6, 2) := by decide +kernel
theorem dX7_day_28 : decode cX7_day 28 = .ok (.invokevirtual 68, 3) := by decide +kernel
theorem dX7_day_31 : decode cX7_day 31 = .ok (.ifCond .ne 26, 3) := by decide +kernel
theorem dX7_day_34 : decode cX7_day 34 = .ok (.aload_n 0, 1) := by decide +kernel
theorem dX7_day_35 : decode cX7_day 35 = .ok (.iload_n 2, 1) := by decide +kernel
theorem dX7_day_36 : decode cX7_day 36 = .ok (.iconst 5, 1) := by decide +kernel
theorem dX7_day_37 : decode cX7_day 37 = .ok (.invokevirtual 68, 3) := by decide +kernel
theorem dX7_day_40 : decode cX7_day 40 = .ok (.aload_n 0, 1) := by decide +kernel
theorem dX7_day_41 : decode cX7_day 41 = .ok (.getfield 7, 3) := by decide +kernel
theorem dX7_day_44 : decode cX7_day 44 = .ok (.iconst 0, 1) := by decide +kernel
theorem dX7_day_45 : decode cX7_day 45 = .ok (.iaload, 1) := by decide +kernel
theorem dX7_day_46 : decode cX7_day 46 = .ok (.if_icmp .ne 11, 3) := by decide +kernel
theorem dX7_day_49 : decode cX7_day 49 = .ok (.aload_n 0, 1) := by decide +kernel
theorem dX7_day_50 : decode cX7_day 50 = .ok (.iload_n 2, 1) := by decide +kernel
theorem dX7_day_51 : decode cX7_day 51 = .ok (.invokevirtual 99, 3) := by decide +kernel
theorem dX7_day_54 : decode cX7_day 54 = .ok (.iinc 1 1, 3) := by decide +kernel
theorem dX7_day_57 : decode cX7_day 57 = .ok (.iinc 2 1, 3) := by decide +kernel
theorem dX7_day_60 : decode cX7_day 60 = .ok (.goto (-46), 3) := by decide +kernel
theorem dX7_day_63 : decode cX7_day 63 = .ok (.iload_n 1, 1) := by decide +kernel
theorem dX7_day_64 : decode cX7_day 64 = .ok (.ireturn, 1) := by decide +kernel
theorem dX7_passes_0 : decode cX7_passes 0 = .ok (.aload_n 0, 1) := by decide +kernel
theorem dX7_passes_1 : decode cX7_passes 1 = .ok (.getfield 7, 3) := by decide +kernel
theorem dX7_passes_4 : decode cX7_passes 4 = .ok (.iconst 0, 1) := by decide +kernel
theorem dX7_passes_5 : decode cX7_passes 5 = .ok (.iaload, 1) := by decide +kernel
theorem dX7_passes_6 : decode cX7_passes 6 = .ok (.iload_n 1, 1) := by decide +kernel
theorem dX7_passes_7 : decode cX7_passes 7 = .ok (.iadd, 1) := by decide +kernel
theorem dX7_passes_8 : decode cX7_passes 8 = .ok (.sipush 9999, 3) := by decide +kernel
theorem dX7_passes_11 : decode cX7_passes 11 = .ok (.if_icmp .le 6, 3) := by decide +kernel
theorem dX7_passes_14 : decode cX7_passes 14 = .ok (.bipush (-3), 2) := by decide +kernel
theorem dX7_passes_16 : decode cX7_passes 16 = .ok (.ireturn, 1) := by decide +kernel
theorem dX7_passes_17 : decode cX7_passes 17 = .ok (.iconst 0, 1) := by decide +kernel
theorem dX7_passes_18 : decode cX7_passes 18 = .ok (.istore_n 2, 1) := by decide +kernel
theorem dX7_passes_19 : decode cX7_passes 19 = .ok (.iconst 0, 1) := by decide +kernel
theorem dX7_passes_20 : decode cX7_passes 20 = .ok (.istore_n 3, 1) := by decide +kernel
theorem dX7_passes_21 : decode cX7_passes 21 = .ok (.iload_n 3, 1) := by decide +kernel
theorem dX7_passes_22 : decode cX7_passes 22 = .ok (.iload_n 1, 1) := by decide +kernel
theorem dX7_passes_23 : decode cX7_passes 23 = .ok (.if_icmp .ge 16, 3) := by decide +kernel
theorem dX7_passes_26 : decode cX7_passes 26 = .ok (.iload_n 2, 1) := by decide +kernel
theorem dX7_passes_27 : decode cX7_passes 27 = .ok (.aload_n 0, 1) := by decide +kernel
theorem dX7_passes_28 : decode cX7_passes 28 = .ok (.invokevirtual 103, 3) := by decide +kernel
theorem dX7_passes_31 : decode cX7_passes 31 = .ok (.iadd, 1) := by decide +kernel
theorem dX7_passes_32 : decode cX7_passes 32 = .ok (.istore_n 2, 1) := by decide +kernel
theorem dX7_passes_33 : decode cX7_passes 33 = .ok (.iinc 3 1, 3) := by decide +kernel
theorem dX7_passes_36 : decode cX7_passes 36 = .ok (.goto (-15), 3) := by decide +kernel
theorem dX7_passes_39 : decode cX7_passes 39 = .ok (.iload_n 2, 1) := by decide +kernel
theorem dX7_passes_40 : decode cX7_passes 40 = .ok (.ireturn, 1) := by decide +kernel
theorem dX7_writes_0 : decode cX7_writes 0 = .ok (.iload_n 2, 1) := by decide +kernel
theorem dX7_writes_1 : decode cX7_writes 1 = .ok (.ifCond .eq 8, 3) := by decide +kernel
theorem dX7_writes_4 : decode cX7_writes 4 = .ok (.iload_n 2, 1) := by decide +kernel
theorem dX7_writes_5 : decode cX7_writes 5 = .ok (.iconst 1, 1) := by decide +kernel
theorem dX7_writes_6 : decode cX7_writes 6 = .ok (.if_icmp .ne 7, 3) := by decide +kernel
theorem dX7_writes_9 : decode cX7_writes 9 = .ok (.iconst 1, 1) := by decide +kernel
theorem dX7_writes_10 : decode cX7_writes 10 = .ok (.goto 4, 3) := by decide +kernel
theorem dX7_writes_13 : decode cX7_writes 13 = .ok (.iconst 0, 1) := by decide +kernel
theorem dX7_writes_14 : decode cX7_writes 14 = .ok (.istore 5, 2) := by decide +kernel
theorem dX7_writes_16 : decode cX7_writes 16 = .ok (.iload_n 1, 1) := by decide +kernel
theorem dX7_writes_17 : decode cX7_writes 17 = .ok (.invokestatic 107, 3) := by decide +kernel
theorem dX7_writes_20 : decode cX7_writes 20 = .ok (.ifCond .eq 31, 3) := by decide +kernel
theorem dX7_writes_23 : decode cX7_writes 23 = .ok (.iload_n 2, 1) := by decide +kernel
theorem dX7_writes_24 : decode cX7_writes 24 = .ok (.iconst 3, 1) := by decide +kernel
theorem dX7_writes_25 : decode cX7_writes 25 = .ok (.if_icmp .eq 10, 3) := by decide +kernel
theorem dX7_writes_28 : decode cX7_writes 28 = .ok (.iload_n 3, 1) := by decide +kernel
theorem dX7_writes_29 : decode cX7_writes 29 = .ok (.invokestatic 50, 3) := by decide +kernel
theorem dX7_writes_32 : decode cX7_writes 32 = .ok (.ifCond .eq 19, 3) := by decide +kernel
theorem dX7_writes_35 : decode cX7_writes 35 = .ok (.iload 5, 2) := by decide +kernel
theorem dX7_writes_37 : decode cX7_writes 37 = .ok (.ifCond .eq 16, 3) := by decide +kernel
theorem dX7_writes_40 : decode cX7_writes 40 = .ok (.iload_n 3, 1) := by decide +kernel
theorem dX7_writes_41 : decode cX7_writes 41 = .ok (.iload 4, 2) := by decide +kernel
theorem dX7_writes_43 : decode cX7_writes 43 = .ok (.invokestatic 71, 3) := by decide +kernel
theorem dX7_writes_46 : decode cX7_writes 46 = .ok (.bipush (-5), 2) := by decide +kernel
theorem dX7_writes_48 : decode cX7_writes 48 = .ok (.if_icmp .ne 5, 3) := by decide +kernel
theorem dX7_writes_51 : decode cX7_writes 51 = .ok (.iconst (-1), 1) := by decide +kernel
theorem dX7_writes_52 : decode cX7_writes 52 = .ok (.ireturn, 1) := by decide +kernel
theorem dX7_writes_53 : decode cX7_writes 53 = .ok (.iload_n 2, 1) := by decide +kernel
theorem dX7_writes_54 : decode cX7_writes 54 = .ok (.iconst 3, 1) := by decide +kernel
theorem dX7_writes_55 : decode cX7_writes 55 = .ok (.if_icmp .ne 17, 3) := by decide +kernel
theorem dX7_writes_58 : decode cX7_writes 58 = .ok (.iload 4, 2) := by decide +kernel
theorem dX7_writes_60 : decode cX7_writes 60 = .ok (.iconst 1, 1) := by decide +kernel
theorem dX7_writes_61 : decode cX7_writes 61 = .ok (.bipush 99, 2) := by decide +kernel
theorem dX7_writes_63 : decode cX7_writes 63 = .ok (.invokestatic 39, 3) := by decide +kernel
theorem dX7_writes_66 : decode cX7_writes 66 = .ok (.ifCond .ne 6, 3) := by decide +kernel
theorem dX7_writes_69 : decode cX7_writes 69 = .ok (.bipush (-2), 2) := by decide +kernel
theorem dX7_writes_71 : decode cX7_writes 71 = .ok (.ireturn, 1) := by decide +kernel
theorem dX7_writes_72 : decode cX7_writes 72 = .ok (.aload_n 0, 1) := by decide +kernel
theorem dX7_writes_73 : decode cX7_writes 73 = .ok (.getfield 7, 3) := by decide +kernel
theorem dX7_writes_76 : decode cX7_writes 76 = .ok (.iconst 1, 1) := by decide +kernel
theorem dX7_writes_77 : decode cX7_writes 77 = .ok (.iaload, 1) := by decide +kernel
theorem dX7_writes_78 : decode cX7_writes 78 = .ok (.bipush 60, 2) := by decide +kernel
theorem dX7_writes_80 : decode cX7_writes 80 = .ok (.if_icmp .ne 6, 3) := by decide +kernel
theorem dX7_writes_83 : decode cX7_writes 83 = .ok (.bipush (-3), 2) := by decide +kernel
theorem dX7_writes_85 : decode cX7_writes 85 = .ok (.ireturn, 1) := by decide +kernel
theorem dX7_writes_86 : decode cX7_writes 86 = .ok (.aload_n 0, 1) := by decide +kernel
theorem dX7_writes_87 : decode cX7_writes 87 = .ok (.getfield 7, 3) := by decide +kernel
theorem dX7_writes_90 : decode cX7_writes 90 = .ok (.iconst 1, 1) := by decide +kernel
theorem dX7_writes_91 : decode cX7_writes 91 = .ok (.iaload, 1) := by decide +kernel
theorem dX7_writes_92 : decode cX7_writes 92 = .ok (.istore 6, 2) := by decide +kernel
theorem dX7_writes_94 : decode cX7_writes 94 = .ok (.aload_n 0, 1) := by decide +kernel
theorem dX7_writes_95 : decode cX7_writes 95 = .ok (.getfield 7, 3) := by decide +kernel
theorem dX7_writes_98 : decode cX7_writes 98 = .ok (.iconst 1, 1) := by decide +kernel
theorem dX7_writes_99 : decode cX7_writes 99 = .ok (.dup2, 1) := by decide +kernel
theorem dX7_writes_100 : decode cX7_writes 100 = .ok (.iaload, 1) := by decide +kernel
theorem dX7_writes_101 : decode cX7_writes 101 = .ok (.iconst 1, 1) := by decide +kernel
theorem dX7_writes_102 : decode cX7_writes 102 = .ok (.iadd, 1) := by decide +kernel
theorem dX7_writes_103 : decode cX7_writes 103 = .ok (.iastore, 1) := by decide +kernel
theorem dX7_writes_104 : decode cX7_writes 104 = .ok (.aload_n 0, 1) := by decide +kernel
theorem dX7_writes_105 : decode cX7_writes 105 = .ok (.getfield 7, 3) := by decide +kernel
theorem dX7_writes_108 : decode cX7_writes 108 = .ok (.iload 6, 2) := by decide +kernel
theorem dX7_writes_110 : decode cX7_writes 110 = .ok (.iconst 0, 1) := by decide +kernel
theorem dX7_writes_111 : decode cX7_writes 111 = .ok (.invokestatic 43, 3) := by decide +kernel
theorem dX7_writes_114 : decode cX7_writes 114 = .ok (.iload_n 1, 1) := by decide +kernel
theorem dX7_writes_115 : decode cX7_writes 115 = .ok (.iastore, 1) := by decide +kernel
theorem dX7_writes_116 : decode cX7_writes 116 = .ok (.aload_n 0, 1) := by decide +kernel
theorem dX7_writes_117 : decode cX7_writes 117 = .ok (.getfield 7, 3) := by decide +kernel
theorem dX7_writes_120 : decode cX7_writes 120 = .ok (.iload 6, 2) := by decide +kernel
theorem dX7_writes_122 : decode cX7_writes 122 = .ok (.iconst 1, 1) := by decide +kernel
theorem dX7_writes_123 : decode cX7_writes 123 = .ok (.invokestatic 43, 3) := by decide +kernel
theorem dX7_writes_126 : decode cX7_writes 126 = .ok (.iload_n 2, 1) := by decide +kernel
theorem dX7_writes_127 : decode cX7_writes 127 = .ok (.iastore, 1) := by decide +kernel
theorem dX7_writes_128 : decode cX7_writes 128 = .ok (.aload_n 0, 1) := by decide +kernel
theorem dX7_writes_129 : decode cX7_writes 129 = .ok (.getfield 7, 3) := by decide +kernel
theorem dX7_writes_132 : decode cX7_writes 132 = .ok (.iload 6, 2) := by decide +kernel
theorem dX7_writes_134 : decode cX7_writes 134 = .ok (.iconst 2, 1) := by decide +kernel
theorem dX7_writes_135 : decode cX7_writes 135 = .ok (.invokestatic 43, 3) := by decide +kernel
theorem dX7_writes_138 : decode cX7_writes 138 = .ok (.iload_n 3, 1) := by decide +kernel
theorem dX7_writes_139 : decode cX7_writes 139 = .ok (.iastore, 1) := by decide +kernel
theorem dX7_writes_140 : decode cX7_writes 140 = .ok (.aload_n 0, 1) := by decide +kernel
theorem dX7_writes_141 : decode cX7_writes 141 = .ok (.getfield 7, 3) := by decide +kernel
theorem dX7_writes_144 : decode cX7_writes 144 = .ok (.iload 6, 2) := by decide +kernel
theorem dX7_writes_146 : decode cX7_writes 146 = .ok (.iconst 3, 1) := by decide +kernel
theorem dX7_writes_147 : decode cX7_writes 147 = .ok (.invokestatic 43, 3) := by decide +kernel
theorem dX7_writes_150 : decode cX7_writes 150 = .ok (.iload 4, 2) := by decide +kernel
theorem dX7_writes_152 : decode cX7_writes 152 = .ok (.iastore, 1) := by decide +kernel
theorem dX7_writes_153 : decode cX7_writes 153 = .ok (.aload_n 0, 1) := by decide +kernel
theorem dX7_writes_154 : decode cX7_writes 154 = .ok (.getfield 7, 3) := by decide +kernel
theorem dX7_writes_157 : decode cX7_writes 157 = .ok (.iload 6, 2) := by decide +kernel
theorem dX7_writes_159 : decode cX7_writes 159 = .ok (.iconst 4, 1) := by decide +kernel
theorem dX7_writes_160 : decode cX7_writes 160 = .ok (.invokestatic 43, 3) := by decide +kernel
theorem dX7_writes_163 : decode cX7_writes 163 = .ok (.aload_n 0, 1) := by decide +kernel
theorem dX7_writes_164 : decode cX7_writes 164 = .ok (.getfield 7, 3) := by decide +kernel
theorem dX7_writes_167 : decode cX7_writes 167 = .ok (.iconst 0, 1) := by decide +kernel
theorem dX7_writes_168 : decode cX7_writes 168 = .ok (.iaload, 1) := by decide +kernel
theorem dX7_writes_169 : decode cX7_writes 169 = .ok (.iastore, 1) := by decide +kernel
theorem dX7_writes_170 : decode cX7_writes 170 = .ok (.aload_n 0, 1) := by decide +kernel
theorem dX7_writes_171 : decode cX7_writes 171 = .ok (.getfield 7, 3) := by decide +kernel
theorem dX7_writes_174 : decode cX7_writes 174 = .ok (.iload 6, 2) := by decide +kernel
theorem dX7_writes_176 : decode cX7_writes 176 = .ok (.iconst 5, 1) := by decide +kernel
theorem dX7_writes_177 : decode cX7_writes 177 = .ok (.invokestatic 43, 3) := by decide +kernel
theorem dX7_writes_180 : decode cX7_writes 180 = .ok (.aload_n 0, 1) := by decide +kernel
theorem dX7_writes_181 : decode cX7_writes 181 = .ok (.getfield 7, 3) := by decide +kernel
theorem dX7_writes_184 : decode cX7_writes 184 = .ok (.iconst 0, 1) := by decide +kernel
theorem dX7_writes_185 : decode cX7_writes 185 = .ok (.iaload, 1) := by decide +kernel
theorem dX7_writes_186 : decode cX7_writes 186 = .ok (.aload_n 0, 1) := by decide +kernel
theorem dX7_writes_187 : decode cX7_writes 187 = .ok (.getfield 7, 3) := by decide +kernel
theorem dX7_writes_190 : decode cX7_writes 190 = .ok (.iconst 4, 1) := by decide +kernel
theorem dX7_writes_191 : decode cX7_writes 191 = .ok (.iaload, 1) := by decide +kernel
theorem dX7_writes_192 : decode cX7_writes 192 = .ok (.iadd, 1) := by decide +kernel
theorem dX7_writes_193 : decode cX7_writes 193 = .ok (.iastore, 1) := by decide +kernel
theorem dX7_writes_194 : decode cX7_writes 194 = .ok (.aload_n 0, 1) := by decide +kernel
theorem dX7_writes_195 : decode cX7_writes 195 = .ok (.getfield 7, 3) := by decide +kernel
theorem dX7_writes_198 : decode cX7_writes 198 = .ok (.iload 6, 2) := by decide +kernel
theorem dX7_writes_200 : decode cX7_writes 200 = .ok (.bipush 6, 2) := by decide +kernel
theorem dX7_writes_202 : decode cX7_writes 202 = .ok (.invokestatic 43, 3) := by decide +kernel
theorem dX7_writes_205 : decode cX7_writes 205 = .ok (.iconst 0, 1) := by decide +kernel
theorem dX7_writes_206 : decode cX7_writes 206 = .ok (.iastore, 1) := by decide +kernel
theorem dX7_writes_207 : decode cX7_writes 207 = .ok (.aload_n 0, 1) := by decide +kernel
theorem dX7_writes_208 : decode cX7_writes 208 = .ok (.getfield 7, 3) := by decide +kernel
theorem dX7_writes_211 : decode cX7_writes 211 = .ok (.iload 6, 2) := by decide +kernel
theorem dX7_writes_213 : decode cX7_writes 213 = .ok (.bipush 7, 2) := by decide +kernel
theorem dX7_writes_215 : decode cX7_writes 215 = .ok (.invokestatic 43, 3) := by decide +kernel
theorem dX7_writes_218 : decode cX7_writes 218 = .ok (.iconst 0, 1) := by decide +kernel
theorem dX7_writes_219 : decode cX7_writes 219 = .ok (.iastore, 1) := by decide +kernel
theorem dX7_writes_220 : decode cX7_writes 220 = .ok (.aload_n 0, 1) := by decide +kernel
theorem dX7_writes_221 : decode cX7_writes 221 = .ok (.getfield 7, 3) := by decide +kernel
theorem dX7_writes_224 : decode cX7_writes 224 = .ok (.iload 6, 2) := by decide +kernel
theorem dX7_writes_226 : decode cX7_writes 226 = .ok (.bipush 8, 2) := by decide +kernel
theorem dX7_writes_228 : decode cX7_writes 228 = .ok (.invokestatic 43, 3) := by decide +kernel
theorem dX7_writes_231 : decode cX7_writes 231 = .ok (.bipush (-5), 2) := by decide +kernel
theorem dX7_writes_233 : decode cX7_writes 233 = .ok (.iastore, 1) := by decide +kernel
theorem dX7_writes_234 : decode cX7_writes 234 = .ok (.aload_n 0, 1) := by decide +kernel
theorem dX7_writes_235 : decode cX7_writes 235 = .ok (.getfield 7, 3) := by decide +kernel
theorem dX7_writes_238 : decode cX7_writes 238 = .ok (.iload 6, 2) := by decide +kernel
theorem dX7_writes_240 : decode cX7_writes 240 = .ok (.bipush 9, 2) := by decide +kernel
theorem dX7_writes_242 : decode cX7_writes 242 = .ok (.invokestatic 43, 3) := by decide +kernel
theorem dX7_writes_245 : decode cX7_writes 245 = .ok (.bipush (-5), 2) := by decide +kernel
theorem dX7_writes_247 : decode cX7_writes 247 = .ok (.iastore, 1) := by decide +kernel
theorem dX7_writes_248 : decode cX7_writes 248 = .ok (.iload 6, 2) := by decide +kernel
theorem dX7_writes_250 : decode cX7_writes 250 = .ok (.ireturn, 1) := by decide +kernel
theorem dX7_acted_0 : decode cX7_acted 0 = .ok (.iload_n 1, 1) := by decide +kernel
theorem dX7_acted_1 : decode cX7_acted 1 = .ok (.ifCond .lt 7, 3) := by decide +kernel
theorem dX7_acted_4 : decode cX7_acted 4 = .ok (.aload_n 0, 1) := by decide +kernel
theorem dX7_acted_5 : decode cX7_acted 5 = .ok (.invokevirtual 110, 3) := by decide +kernel
theorem dX7_acted_8 : decode cX7_acted 8 = .ok (.iload_n 1, 1) := by decide +kernel
theorem dX7_acted_9 : decode cX7_acted 9 = .ok (.ireturn, 1) := by decide +kernel
theorem dX7_writeEdge_0 : decode cX7_writeEdge 0 = .ok (.aload_n 0, 1) := by decide +kernel
theorem dX7_writeEdge_1 : decode cX7_writeEdge 1 = .ok (.invokevirtual 113, 3) := by decide +kernel
theorem dX7_writeEdge_4 : decode cX7_writeEdge 4 = .ok (.aload_n 0, 1) := by decide +kernel
theorem dX7_writeEdge_5 : decode cX7_writeEdge 5 = .ok (.aload_n 0, 1) := by decide +kernel
theorem dX7_writeEdge_6 : decode cX7_writeEdge 6 = .ok (.iload_n 1, 1) := by decide +kernel
theorem dX7_writeEdge_7 : decode cX7_writeEdge 7 = .ok (.iload_n 2, 1) := by decide +kernel
theorem dX7_writeEdge_8 : decode cX7_writeEdge 8 = .ok (.ifCond .eq 7, 3) := by decide +kernel
theorem dX7_writeEdge_11 : decode cX7_writeEdge 11 = .ok (.iconst 1, 1) := by decide +kernel
theorem dX7_writeEdge_12 : decode cX7_writeEdge 12 = .ok (.goto 4, 3) := by decide +kernel
theorem dX7_writeEdge_15 : decode cX7_writeEdge 15 = .ok (.iconst 0, 1) := by decide +kernel
theorem dX7_writeEdge_16 : decode cX7_writeEdge 16 = .ok (.iload_n 3, 1) := by decide +kernel
theorem dX7_writeEdge_17 : decode cX7_writeEdge 17 = .ok (.iload 4, 2) := by decide +kernel
theorem dX7_writeEdge_19 : decode cX7_writeEdge 19 = .ok (.invokevirtual 116, 3) := by decide +kernel
theorem dX7_writeEdge_22 : decode cX7_writeEdge 22 = .ok (.invokevirtual 120, 3) := by decide +kernel
theorem dX7_writeEdge_25 : decode cX7_writeEdge 25 = .ok (.ireturn, 1) := by decide +kernel
theorem dX7_writeClaim_0 : decode cX7_writeClaim 0 = .ok (.aload_n 0, 1) := by decide +kernel
theorem dX7_writeClaim_1 : decode cX7_writeClaim 1 = .ok (.invokevirtual 113, 3) := by decide +kernel
theorem dX7_writeClaim_4 : decode cX7_writeClaim 4 = .ok (.aload_n 0, 1) := by decide +kernel
theorem dX7_writeClaim_5 : decode cX7_writeClaim 5 = .ok (.aload_n 0, 1) := by decide +kernel
theorem dX7_writeClaim_6 : decode cX7_writeClaim 6 = .ok (.iload_n 1, 1) := by decide +kernel
theorem dX7_writeClaim_7 : decode cX7_writeClaim 7 = .ok (.iconst 2, 1) := by decide +kernel
theorem dX7_writeClaim_8 : decode cX7_writeClaim 8 = .ok (.iload_n 2, 1) := by decide +kernel
theorem dX7_writeClaim_9 : decode cX7_writeClaim 9 = .ok (.bipush (-5), 2) := by decide +kernel
theorem dX7_writeClaim_11 : decode cX7_writeClaim 11 = .ok (.invokevirtual 116, 3) := by decide +kernel
theorem dX7_writeClaim_14 : decode cX7_writeClaim 14 = .ok (.invokevirtual 120, 3) := by decide +kernel
theorem dX7_writeClaim_17 : decode cX7_writeClaim 17 = .ok (.ireturn, 1) := by decide +kernel
theorem dX7_writeTruce_0 : decode cX7_writeTruce 0 = .ok (.aload_n 0, 1) := by decide +kernel
theorem dX7_writeTruce_1 : decode cX7_writeTruce 1 = .ok (.invokevirtual 113, 3) := by decide +kernel
theorem dX7_writeTruce_4 : decode cX7_writeTruce 4 = .ok (.aload_n 0, 1) := by decide +kernel
theorem dX7_writeTruce_5 : decode cX7_writeTruce 5 = .ok (.aload_n 0, 1) := by decide +kernel
theorem dX7_writeTruce_6 : decode cX7_writeTruce 6 = .ok (.iload_n 1, 1) := by decide +kernel
theorem dX7_writeTruce_7 : decode cX7_writeTruce 7 = .ok (.iconst 3, 1) := by decide +kernel
theorem dX7_writeTruce_8 : decode cX7_writeTruce 8 = .ok (.bipush (-5), 2) := by decide +kernel
theorem dX7_writeTruce_10 : decode cX7_writeTruce 10 = .ok (.iload_n 2, 1) := by decide +kernel
theorem dX7_writeTruce_11 : decode cX7_writeTruce 11 = .ok (.invokevirtual 116, 3) := by decide +kernel
theorem dX7_writeTruce_14 : decode cX7_writeTruce 14 = .ok (.invokevirtual 120, 3) := by decide +kernel
theorem dX7_writeTruce_17 : decode cX7_writeTruce 17 = .ok (.ireturn, 1) := by decide +kernel
theorem dX7_callBack_0 : decode cX7_callBack 0 = .ok (.aload_n 0, 1) := by decide +kernel
theorem dX7_callBack_1 : decode cX7_callBack 1 = .ok (.iload_n 1, 1) := by decide +kernel
theorem dX7_callBack_2 : decode cX7_callBack 2 = .ok (.invokevirtual 123, 3) := by decide +kernel
theorem dX7_callBack_5 : decode cX7_callBack 5 = .ok (.ifCond .ne 5, 3) := by decide +kernel
theorem dX7_callBack_8 : decode cX7_callBack 8 = .ok (.iconst (-1), 1) := by decide +kernel
theorem dX7_callBack_9 : decode cX7_callBack 9 = .ok (.ireturn, 1) := by decide +kernel
theorem dX7_callBack_10 : decode cX7_callBack 10 = .ok (.aload_n 0, 1) := by decide +kernel
theorem dX7_callBack_11 : decode cX7_callBack 11 = .ok (.iload_n 1, 1) := by decide +kernel
theorem dX7_callBack_12 : decode cX7_callBack 12 = .ok (.bipush 6, 2) := by decide +kernel
theorem dX7_callBack_14 : decode cX7_callBack 14 = .ok (.invokevirtual 68, 3) := by decide +kernel
theorem dX7_callBack_17 : decode cX7_callBack 17 = .ok (.ifCond .eq 6, 3) := by decide +kernel
theorem dX7_callBack_20 : decode cX7_callBack 20 = .ok (.bipush (-4), 2) := by decide +kernel
theorem dX7_callBack_22 : decode cX7_callBack 22 = .ok (.ireturn, 1) := by decide +kernel
theorem dX7_callBack_23 : decode cX7_callBack 23 = .ok (.aload_n 0, 1) := by decide +kernel
theorem dX7_callBack_24 : decode cX7_callBack 24 = .ok (.invokevirtual 113, 3) := by decide +kernel
theorem dX7_callBack_27 : decode cX7_callBack 27 = .ok (.aload_n 0, 1) := by decide +kernel
theorem dX7_callBack_28 : decode cX7_callBack 28 = .ok (.invokevirtual 110, 3) := by decide +kernel
theorem dX7_callBack_31 : decode cX7_callBack 31 = .ok (.aload_n 0, 1) := by decide +kernel
theorem dX7_callBack_32 : decode cX7_callBack 32 = .ok (.getfield 7, 3) := by decide +kernel
theorem dX7_callBack_35 : decode cX7_callBack 35 = .ok (.iload_n 1, 1) := by decide +kernel
theorem dX7_callBack_36 : decode cX7_callBack 36 = .ok (.bipush 6, 2) := by decide +kernel
theorem dX7_callBack_38 : decode cX7_callBack 38 = .ok (.invokestatic 43, 3) := by decide +kernel
theorem dX7_callBack_41 : decode cX7_callBack 41 = .ok (.iconst 3, 1) := by decide +kernel
theorem dX7_callBack_42 : decode cX7_callBack 42 = .ok (.iastore, 1) := by decide +kernel
theorem dX7_callBack_43 : decode cX7_callBack 43 = .ok (.aload_n 0, 1) := by decide +kernel
theorem dX7_callBack_44 : decode cX7_callBack 44 = .ok (.iload_n 1, 1) := by decide +kernel
theorem dX7_callBack_45 : decode cX7_callBack 45 = .ok (.iconst 5, 1) := by decide +kernel
theorem dX7_callBack_46 : decode cX7_callBack 46 = .ok (.invokevirtual 68, 3) := by decide +kernel
theorem dX7_callBack_49 : decode cX7_callBack 49 = .ok (.aload_n 0, 1) := by decide +kernel
theorem dX7_callBack_50 : decode cX7_callBack 50 = .ok (.getfield 7, 3) := by decide +kernel
theorem dX7_callBack_53 : decode cX7_callBack 53 = .ok (.iconst 0, 1) := by decide +kernel
theorem dX7_callBack_54 : decode cX7_callBack 54 = .ok (.iaload, 1) := by decide +kernel
theorem dX7_callBack_55 : decode cX7_callBack 55 = .ok (.isub, 1) := by decide +kernel
theorem dX7_callBack_56 : decode cX7_callBack 56 = .ok (.ireturn, 1) := by decide +kernel
theorem dX7_pass_0 : decode cX7_pass 0 = .ok (.aload_n 0, 1) := by decide +kernel
theorem dX7_pass_1 : decode cX7_pass 1 = .ok (.invokevirtual 113, 3) := by decide +kernel
theorem dX7_pass_4 : decode cX7_pass 4 = .ok (.iload_n 1, 1) := by decide +kernel
theorem dX7_pass_5 : decode cX7_pass 5 = .ok (.iconst 1, 1) := by decide +kernel
theorem dX7_pass_6 : decode cX7_pass 6 = .ok (.bipush 99, 2) := by decide +kernel
theorem dX7_pass_8 : decode cX7_pass 8 = .ok (.invokestatic 39, 3) := by decide +kernel
theorem dX7_pass_11 : decode cX7_pass 11 = .ok (.ifCond .eq 15, 3) := by decide +kernel
theorem dX7_pass_14 : decode cX7_pass 14 = .ok (.aload_n 0, 1) := by decide +kernel
theorem dX7_pass_15 : decode cX7_pass 15 = .ok (.aload_n 0, 1) := by decide +kernel
theorem dX7_pass_16 : decode cX7_pass 16 = .ok (.iload_n 1, 1) := by decide +kernel
theorem dX7_pass_17 : decode cX7_pass 17 = .ok (.invokevirtual 126, 3) := by decide +kernel
theorem dX7_pass_20 : decode cX7_pass 20 = .ok (.invokevirtual 120, 3) := by decide +kernel
theorem dX7_pass_23 : decode cX7_pass 23 = .ok (.goto 5, 3) := by decide +kernel
theorem dX7_pass_26 : decode cX7_pass 26 = .ok (.bipush (-2), 2) := by decide +kernel
theorem dX7_pass_28 : decode cX7_pass 28 = .ok (.ireturn, 1) := by decide +kernel
theorem dX7_set_0 : decode cX7_set 0 = .ok (.iload_n 1, 1) := by decide +kernel
theorem dX7_set_1 : decode cX7_set 1 = .ok (.iconst 0, 1) := by decide +kernel
theorem dX7_set_2 : decode cX7_set 2 = .ok (.iconst 1, 1) := by decide +kernel
theorem dX7_set_3 : decode cX7_set 3 = .ok (.invokestatic 39, 3) := by decide +kernel
theorem dX7_set_6 : decode cX7_set 6 = .ok (.ifCond .ne 5, 3) := by decide +kernel
theorem dX7_set_9 : decode cX7_set 9 = .ok (.iconst (-1), 1) := by decide +kernel
theorem dX7_set_10 : decode cX7_set 10 = .ok (.ireturn, 1) := by decide +kernel
theorem dX7_set_11 : decode cX7_set 11 = .ok (.iload_n 2, 1) := by decide +kernel
theorem dX7_set_12 : decode cX7_set 12 = .ok (.iconst 1, 1) := by decide +kernel
theorem dX7_set_13 : decode cX7_set 13 = .ok (.iload_n 1, 1) := by decide +kernel
theorem dX7_set_14 : decode cX7_set 14 = .ok (.ifCond .ne 8, 3) := by decide +kernel
theorem dX7_set_17 : decode cX7_set 17 = .ok (.bipush 9, 2) := by decide +kernel
theorem dX7_set_19 : decode cX7_set 19 = .ok (.goto 5, 3) := by decide +kernel
theorem dX7_set_22 : decode cX7_set 22 = .ok (.bipush 48, 2) := by decide +kernel
theorem dX7_set_24 : decode cX7_set 24 = .ok (.invokestatic 39, 3) := by decide +kernel
theorem dX7_set_27 : decode cX7_set 27 = .ok (.ifCond .ne 6, 3) := by decide +kernel
theorem dX7_set_30 : decode cX7_set 30 = .ok (.bipush (-2), 2) := by decide +kernel
theorem dX7_set_32 : decode cX7_set 32 = .ok (.ireturn, 1) := by decide +kernel
theorem dX7_set_33 : decode cX7_set 33 = .ok (.aload_n 0, 1) := by decide +kernel
theorem dX7_set_34 : decode cX7_set 34 = .ok (.getfield 7, 3) := by decide +kernel
theorem dX7_set_37 : decode cX7_set 37 = .ok (.iconst 4, 1) := by decide +kernel
theorem dX7_set_38 : decode cX7_set 38 = .ok (.iload_n 1, 1) := by decide +kernel
theorem dX7_set_39 : decode cX7_set 39 = .ok (.iadd, 1) := by decide +kernel
theorem dX7_set_40 : decode cX7_set 40 = .ok (.iaload, 1) := by decide +kernel
theorem dX7_set_41 : decode cX7_set 41 = .ok (.istore_n 3, 1) := by decide +kernel
theorem dX7_set_42 : decode cX7_set 42 = .ok (.iload_n 3, 1) := by decide +kernel
theorem dX7_set_43 : decode cX7_set 43 = .ok (.iload_n 2, 1) := by decide +kernel
theorem dX7_set_44 : decode cX7_set 44 = .ok (.if_icmp .ne 6, 3) := by decide +kernel
theorem dX7_set_47 : decode cX7_set 47 = .ok (.bipush (-5), 2) := by decide +kernel
theorem dX7_set_49 : decode cX7_set 49 = .ok (.ireturn, 1) := by decide +kernel
theorem dX7_set_50 : decode cX7_set 50 = .ok (.aload_n 0, 1) := by decide +kernel
theorem dX7_set_51 : decode cX7_set 51 = .ok (.invokevirtual 113, 3) := by decide +kernel
theorem dX7_set_54 : decode cX7_set 54 = .ok (.aload_n 0, 1) := by decide +kernel
theorem dX7_set_55 : decode cX7_set 55 = .ok (.invokevirtual 110, 3) := by decide +kernel
theorem dX7_set_58 : decode cX7_set 58 = .ok (.aload_n 0, 1) := by decide +kernel
theorem dX7_set_59 : decode cX7_set 59 = .ok (.getfield 7, 3) := by decide +kernel
theorem dX7_set_62 : decode cX7_set 62 = .ok (.iconst 4, 1) := by decide +kernel
theorem dX7_set_63 : decode cX7_set 63 = .ok (.iload_n 1, 1) := by decide +kernel
theorem dX7_set_64 : decode cX7_set 64 = .ok (.iadd, 1) := by decide +kernel
theorem dX7_set_65 : decode cX7_set 65 = .ok (.iload_n 2, 1) := by decide +kernel
theorem dX7_set_66 : decode cX7_set 66 = .ok (.iastore, 1) := by decide +kernel
theorem dX7_set_67 : decode cX7_set 67 = .ok (.iload_n 3, 1) := by decide +kernel
theorem dX7_set_68 : decode cX7_set 68 = .ok (.ireturn, 1) := by decide +kernel
theorem dX7_type_0 : decode cX7_type 0 = .ok (.aload_n 0, 1) := by decide +kernel
theorem dX7_type_1 : decode cX7_type 1 = .ok (.getfield 129, 3) := by decide +kernel
theorem dX7_type_4 : decode cX7_type 4 = .ok (.bipush 60, 2) := by decide +kernel
theorem dX7_type_6 : decode cX7_type 6 = .ok (.if_icmp .ne 6, 3) := by decide +kernel
theorem dX7_type_9 : decode cX7_type 9 = .ok (.bipush (-3), 2) := by decide +kernel
theorem dX7_type_11 : decode cX7_type 11 = .ok (.ireturn, 1) := by decide +kernel
theorem dX7_type_12 : decode cX7_type 12 = .ok (.aload_n 0, 1) := by decide +kernel
theorem dX7_type_13 : decode cX7_type 13 = .ok (.getfield 25, 3) := by decide +kernel
theorem dX7_type_16 : decode cX7_type 16 = .ok (.aload_n 0, 1) := by decide +kernel
theorem dX7_type_17 : decode cX7_type 17 = .ok (.getfield 129, 3) := by decide +kernel
theorem dX7_type_20 : decode cX7_type 20 = .ok (.iload_n 1, 1) := by decide +kernel
theorem dX7_type_21 : decode cX7_type 21 = .ok (.iastore, 1) := by decide +kernel
theorem dX7_type_22 : decode cX7_type 22 = .ok (.aload_n 0, 1) := by decide +kernel
theorem dX7_type_23 : decode cX7_type 23 = .ok (.dup, 1) := by decide +kernel
theorem dX7_type_24 : decode cX7_type 24 = .ok (.getfield 129, 3) := by decide +kernel
theorem dX7_type_27 : decode cX7_type 27 = .ok (.iconst 1, 1) := by decide +kernel
theorem dX7_type_28 : decode cX7_type 28 = .ok (.iadd, 1) := by decide +kernel
theorem dX7_type_29 : decode cX7_type 29 = .ok (.putfield 129, 3) := by decide +kernel
theorem dX7_type_32 : decode cX7_type 32 = .ok (.aload_n 0, 1) := by decide +kernel
theorem dX7_type_33 : decode cX7_type 33 = .ok (.getfield 129, 3) := by decide +kernel
theorem dX7_type_36 : decode cX7_type 36 = .ok (.ireturn, 1) := by decide +kernel
theorem dX7_clearText_0 : decode cX7_clearText 0 = .ok (.aload_n 0, 1) := by decide +kernel
theorem dX7_clearText_1 : decode cX7_clearText 1 = .ok (.getfield 129, 3) := by decide +kernel
theorem dX7_clearText_4 : decode cX7_clearText 4 = .ok (.istore_n 1, 1) := by decide +kernel
theorem dX7_clearText_5 : decode cX7_clearText 5 = .ok (.aload_n 0, 1) := by decide +kernel
theorem dX7_clearText_6 : decode cX7_clearText 6 = .ok (.iconst 0, 1) := by decide +kernel
theorem dX7_clearText_7 : decode cX7_clearText 7 = .ok (.putfield 129, 3) := by decide +kernel
theorem dX7_clearText_10 : decode cX7_clearText 10 = .ok (.iload_n 1, 1) := by decide +kernel
theorem dX7_clearText_11 : decode cX7_clearText 11 = .ok (.ireturn, 1) := by decide +kernel
theorem dX7_isNext_0 : decode cX7_isNext 0 = .ok (.aload_n 0, 1) := by decide +kernel
theorem dX7_isNext_1 : decode cX7_isNext 1 = .ok (.getfield 132, 3) := by decide +kernel
theorem dX7_isNext_4 : decode cX7_isNext 4 = .ok (.ifCond .ne 35, 3) := by decide +kernel
theorem dX7_isNext_7 : decode cX7_isNext 7 = .ok (.aload_n 0, 1) := by decide +kernel
theorem dX7_isNext_8 : decode cX7_isNext 8 = .ok (.getfield 136, 3) := by decide +kernel
theorem dX7_isNext_11 : decode cX7_isNext 11 = .ok (.aload_n 0, 1) := by decide +kernel
theorem dX7_isNext_12 : decode cX7_isNext 12 = .ok (.getfield 129, 3) := by decide +kernel
theorem dX7_isNext_15 : decode cX7_isNext 15 = .ok (.if_icmp .ge 24, 3) := by decide +kernel
theorem dX7_isNext_18 : decode cX7_isNext 18 = .ok (.aload_n 0, 1) := by decide +kernel
theorem dX7_isNext_19 : decode cX7_isNext 19 = .ok (.getfield 25, 3) := by decide +kernel
theorem dX7_isNext_22 : decode cX7_isNext 22 = .ok (.aload_n 0, 1) := by decide +kernel
theorem dX7_isNext_23 : decode cX7_isNext 23 = .ok (.getfield 136, 3) := by decide +kernel
theorem dX7_isNext_26 : decode cX7_isNext 26 = .ok (.iaload, 1) := by decide +kernel
theorem dX7_isNext_27 : decode cX7_isNext 27 = .ok (.iload_n 1, 1) := by decide +kernel
theorem dX7_isNext_28 : decode cX7_isNext 28 = .ok (.iload_n 2, 1) := by decide +kernel
theorem dX7_isNext_29 : decode cX7_isNext 29 = .ok (.invokestatic 39, 3) := by decide +kernel
theorem dX7_isNext_32 : decode cX7_isNext 32 = .ok (.ifCond .eq 7, 3) := by decide +kernel
theorem dX7_isNext_35 : decode cX7_isNext 35 = .ok (.iconst 1, 1) := by decide +kernel
theorem dX7_isNext_36 : decode cX7_isNext 36 = .ok (.goto 4, 3) := by decide +kernel
theorem dX7_isNext_39 : decode cX7_isNext 39 = .ok (.iconst 0, 1) := by decide +kernel
theorem dX7_isNext_40 : decode cX7_isNext 40 = .ok (.ireturn, 1) := by decide +kernel
theorem dX7_takes_0 : decode cX7_takes 0 = .ok (.aload_n 0, 1) := by decide +kernel
theorem dX7_takes_1 : decode cX7_takes 1 = .ok (.getfield 136, 3) := by decide +kernel
theorem dX7_takes_4 : decode cX7_takes 4 = .ok (.aload_n 0, 1) := by decide +kernel
theorem dX7_takes_5 : decode cX7_takes 5 = .ok (.getfield 129, 3) := by decide +kernel
theorem dX7_takes_8 : decode cX7_takes 8 = .ok (.if_icmp .ge 15, 3) := by decide +kernel
theorem dX7_takes_11 : decode cX7_takes 11 = .ok (.aload_n 0, 1) := by decide +kernel
theorem dX7_takes_12 : decode cX7_takes 12 = .ok (.getfield 25, 3) := by decide +kernel
theorem dX7_takes_15 : decode cX7_takes 15 = .ok (.aload_n 0, 1) := by decide +kernel
theorem dX7_takes_16 : decode cX7_takes 16 = .ok (.getfield 136, 3) := by decide +kernel
theorem dX7_takes_19 : decode cX7_takes 19 = .ok (.iaload, 1) := by decide +kernel
theorem dX7_takes_20 : decode cX7_takes 20 = .ok (.goto 4, 3) := by decide +kernel
theorem dX7_takes_23 : decode cX7_takes 23 = .ok (.iconst 0, 1) := by decide +kernel
theorem dX7_takes_24 : decode cX7_takes 24 = .ok (.istore_n 3, 1) := by decide +kernel
theorem dX7_takes_25 : decode cX7_takes 25 = .ok (.aload_n 0, 1) := by decide +kernel
theorem dX7_takes_26 : decode cX7_takes 26 = .ok (.aload_n 0, 1) := by decide +kernel
theorem dX7_takes_27 : decode cX7_takes 27 = .ok (.getfield 132, 3) := by decide +kernel
theorem dX7_takes_30 : decode cX7_takes 30 = .ok (.ifCond .ne 12, 3) := by decide +kernel
theorem dX7_takes_33 : decode cX7_takes 33 = .ok (.iload_n 3, 1) := by decide +kernel
theorem dX7_takes_34 : decode cX7_takes 34 = .ok (.iload_n 1, 1) := by decide +kernel
theorem dX7_takes_35 : decode cX7_takes 35 = .ok (.iload_n 2, 1) := by decide +kernel
theorem dX7_takes_36 : decode cX7_takes 36 = .ok (.invokestatic 39, 3) := by decide +kernel
theorem dX7_takes_39 : decode cX7_takes 39 = .ok (.ifCond .ne 7, 3) := by decide +kernel
theorem dX7_takes_42 : decode cX7_takes 42 = .ok (.iconst 1, 1) := by decide +kernel
theorem dX7_takes_43 : decode cX7_takes 43 = .ok (.goto 4, 3) := by decide +kernel
theorem dX7_takes_46 : decode cX7_takes 46 = .ok (.iconst 0, 1) := by decide +kernel
theorem dX7_takes_47 : decode cX7_takes 47 = .ok (.putfield 132, 3) := by decide +kernel
theorem dX7_takes_50 : decode cX7_takes 50 = .ok (.aload_n 0, 1) := by decide +kernel
theorem dX7_takes_51 : decode cX7_takes 51 = .ok (.dup, 1) := by decide +kernel
theorem dX7_takes_52 : decode cX7_takes 52 = .ok (.getfield 136, 3) := by decide +kernel
theorem dX7_takes_55 : decode cX7_takes 55 = .ok (.aload_n 0, 1) := by decide +kernel
theorem dX7_takes_56 : decode cX7_takes 56 = .ok (.getfield 132, 3) := by decide +kernel
theorem dX7_takes_59 : decode cX7_takes 59 = .ok (.ifCond .eq 7, 3) := by decide +kernel
theorem dX7_takes_62 : decode cX7_takes 62 = .ok (.iconst 0, 1) := by decide +kernel
theorem dX7_takes_63 : decode cX7_takes 63 = .ok (.goto 4, 3) := by decide +kernel
theorem dX7_takes_66 : decode cX7_takes 66 = .ok (.iconst 1, 1) := by decide +kernel
theorem dX7_takes_67 : decode cX7_takes 67 = .ok (.iadd, 1) := by decide +kernel
theorem dX7_takes_68 : decode cX7_takes 68 = .ok (.putfield 136, 3) := by decide +kernel
theorem dX7_takes_71 : decode cX7_takes 71 = .ok (.iload_n 3, 1) := by decide +kernel
theorem dX7_takes_72 : decode cX7_takes 72 = .ok (.iload_n 1, 1) := by decide +kernel
theorem dX7_takes_73 : decode cX7_takes 73 = .ok (.isub, 1) := by decide +kernel
theorem dX7_takes_74 : decode cX7_takes 74 = .ok (.ireturn, 1) := by decide +kernel
theorem dX7_takesNumber_0 : decode cX7_takesNumber 0 = .ok (.iload_n 1, 1) := by decide +kernel
theorem dX7_takesNumber_1 : decode cX7_takesNumber 1 = .ok (.aload_n 0, 1) := by decide +kernel
theorem dX7_takesNumber_2 : decode cX7_takesNumber 2 = .ok (.bipush 48, 2) := by decide +kernel
theorem dX7_takesNumber_4 : decode cX7_takesNumber 4 = .ok (.iload_n 1, 1) := by decide +kernel
theorem dX7_takesNumber_5 : decode cX7_takesNumber 5 = .ok (.iadd, 1) := by decide +kernel
theorem dX7_takesNumber_6 : decode cX7_takesNumber 6 = .ok (.bipush 57, 2) := by decide +kernel
theorem dX7_takesNumber_8 : decode cX7_takesNumber 8 = .ok (.invokevirtual 139, 3) := by decide +kernel
theorem dX7_takesNumber_11 : decode cX7_takesNumber 11 = .ok (.iadd, 1) := by decide +kernel
theorem dX7_takesNumber_12 : decode cX7_takesNumber 12 = .ok (.istore_n 3, 1) := by decide +kernel
theorem dX7_takesNumber_13 : decode cX7_takesNumber 13 = .ok (.iload_n 3, 1) := by decide +kernel
theorem dX7_takesNumber_14 : decode cX7_takesNumber 14 = .ok (.ifCond .le 7, 3) := by decide +kernel
theorem dX7_takesNumber_17 : decode cX7_takesNumber 17 = .ok (.iconst 1, 1) := by decide +kernel
theorem dX7_takesNumber_18 : decode cX7_takesNumber 18 = .ok (.goto 4, 3) := by decide +kernel
theorem dX7_takesNumber_21 : decode cX7_takesNumber 21 = .ok (.iconst 0, 1) := by decide +kernel
theorem dX7_takesNumber_22 : decode cX7_takesNumber 22 = .ok (.istore 4, 2) := by decide +kernel
theorem dX7_takesNumber_24 : decode cX7_takesNumber 24 = .ok (.iload 4, 2) := by decide +kernel
theorem dX7_takesNumber_26 : decode cX7_takesNumber 26 = .ok (.ifCond .eq 68, 3) := by decide +kernel
theorem dX7_takesNumber_29 : decode cX7_takesNumber 29 = .ok (.aload_n 0, 1) := by decide +kernel
theorem dX7_takesNumber_30 : decode cX7_takesNumber 30 = .ok (.bipush 48, 2) := by decide +kernel
theorem dX7_takesNumber_32 : decode cX7_takesNumber 32 = .ok (.bipush 57, 2) := by decide +kernel
theorem dX7_takesNumber_34 : decode cX7_takesNumber 34 = .ok (.invokevirtual 142, 3) := by decide +kernel
theorem dX7_takesNumber_37 : decode cX7_takesNumber 37 = .ok (.ifCond .eq 28, 3) := by decide +kernel
theorem dX7_takesNumber_40 : decode cX7_takesNumber 40 = .ok (.bipush 10, 2) := by decide +kernel
theorem dX7_takesNumber_42 : decode cX7_takesNumber 42 = .ok (.iload_n 3, 1) := by decide +kernel
theorem dX7_takesNumber_43 : decode cX7_takesNumber 43 = .ok (.imul, 1) := by decide +kernel
theorem dX7_takesNumber_44 : decode cX7_takesNumber 44 = .ok (.aload_n 0, 1) := by decide +kernel
theorem dX7_takesNumber_45 : decode cX7_takesNumber 45 = .ok (.getfield 25, 3) := by decide +kernel
theorem dX7_takesNumber_48 : decode cX7_takesNumber 48 = .ok (.aload_n 0, 1) := by decide +kernel
theorem dX7_takesNumber_49 : decode cX7_takesNumber 49 = .ok (.getfield 136, 3) := by decide +kernel
theorem dX7_takesNumber_52 : decode cX7_takesNumber 52 = .ok (.iaload, 1) := by decide +kernel
theorem dX7_takesNumber_53 : decode cX7_takesNumber 53 = .ok (.iadd, 1) := by decide +kernel
theorem dX7_takesNumber_54 : decode cX7_takesNumber 54 = .ok (.bipush 48, 2) := by decide +kernel
theorem dX7_takesNumber_56 : decode cX7_takesNumber 56 = .ok (.isub, 1) := by decide +kernel
theorem dX7_takesNumber_57 : decode cX7_takesNumber 57 = .ok (.iload_n 2, 1) := by decide +kernel
theorem dX7_takesNumber_58 : decode cX7_takesNumber 58 = .ok (.if_icmp .gt 7, 3) := by decide +kernel
theorem dX7_takesNumber_61 : decode cX7_takesNumber 61 = .ok (.iconst 1, 1) := by decide +kernel
theorem dX7_takesNumber_62 : decode cX7_takesNumber 62 = .ok (.goto 4, 3) := by decide +kernel
theorem dX7_takesNumber_65 : decode cX7_takesNumber 65 = .ok (.iconst 0, 1) := by decide +kernel
theorem dX7_takesNumber_66 : decode cX7_takesNumber 66 = .ok (.istore 4, 2) := by decide +kernel
theorem dX7_takesNumber_68 : decode cX7_takesNumber 68 = .ok (.iload 4, 2) := by decide +kernel
theorem dX7_takesNumber_70 : decode cX7_takesNumber 70 = .ok (.ifCond .eq 19, 3) := by decide +kernel
theorem dX7_takesNumber_73 : decode cX7_takesNumber 73 = .ok (.bipush 10, 2) := by decide +kernel
theorem dX7_takesNumber_75 : decode cX7_takesNumber 75 = .ok (.iload_n 3, 1) := by decide +kernel
theorem dX7_takesNumber_76 : decode cX7_takesNumber 76 = .ok (.imul, 1) := by decide +kernel
theorem dX7_takesNumber_77 : decode cX7_takesNumber 77 = .ok (.aload_n 0, 1) := by decide +kernel
theorem dX7_takesNumber_78 : decode cX7_takesNumber 78 = .ok (.bipush 48, 2) := by decide +kernel
theorem dX7_takesNumber_80 : decode cX7_takesNumber 80 = .ok (.bipush 57, 2) := by decide +kernel
theorem dX7_takesNumber_82 : decode cX7_takesNumber 82 = .ok (.invokevirtual 139, 3) := by decide +kernel
theorem dX7_takesNumber_85 : decode cX7_takesNumber 85 = .ok (.iadd, 1) := by decide +kernel
theorem dX7_takesNumber_86 : decode cX7_takesNumber 86 = .ok (.goto 4, 3) := by decide +kernel
theorem dX7_takesNumber_89 : decode cX7_takesNumber 89 = .ok (.iload_n 3, 1) := by decide +kernel
theorem dX7_takesNumber_90 : decode cX7_takesNumber 90 = .ok (.istore_n 3, 1) := by decide +kernel
theorem dX7_takesNumber_91 : decode cX7_takesNumber 91 = .ok (.goto (-67), 3) := by decide +kernel
theorem dX7_takesNumber_94 : decode cX7_takesNumber 94 = .ok (.iload_n 3, 1) := by decide +kernel
theorem dX7_takesNumber_95 : decode cX7_takesNumber 95 = .ok (.ireturn, 1) := by decide +kernel
theorem dX7_takesSign_0 : decode cX7_takesSign 0 = .ok (.aload_n 0, 1) := by decide +kernel
theorem dX7_takesSign_1 : decode cX7_takesSign 1 = .ok (.getfield 136, 3) := by decide +kernel
theorem dX7_takesSign_4 : decode cX7_takesSign 4 = .ok (.aload_n 0, 1) := by decide +kernel
theorem dX7_takesSign_5 : decode cX7_takesSign 5 = .ok (.getfield 129, 3) := by decide +kernel
theorem dX7_takesSign_8 : decode cX7_takesSign 8 = .ok (.if_icmp .ge 15, 3) := by decide +kernel
theorem dX7_takesSign_11 : decode cX7_takesSign 11 = .ok (.aload_n 0, 1) := by decide +kernel
theorem dX7_takesSign_12 : decode cX7_takesSign 12 = .ok (.getfield 25, 3) := by decide +kernel
theorem dX7_takesSign_15 : decode cX7_takesSign 15 = .ok (.aload_n 0, 1) := by decide +kernel
theorem dX7_takesSign_16 : decode cX7_takesSign 16 = .ok (.getfield 136, 3) := by decide +kernel
theorem dX7_takesSign_19 : decode cX7_takesSign 19 = .ok (.iaload, 1) := by decide +kernel
theorem dX7_takesSign_20 : decode cX7_takesSign 20 = .ok (.goto 4, 3) := by decide +kernel
theorem dX7_takesSign_23 : decode cX7_takesSign 23 = .ok (.iconst 0, 1) := by decide +kernel
theorem dX7_takesSign_24 : decode cX7_takesSign 24 = .ok (.istore_n 3, 1) := by decide +kernel
theorem dX7_takesSign_25 : decode cX7_takesSign 25 = .ok (.bipush (-5), 2) := by decide +kernel
theorem dX7_takesSign_27 : decode cX7_takesSign 27 = .ok (.istore 4, 2) := by decide +kernel
theorem dX7_takesSign_29 : decode cX7_takesSign 29 = .ok (.iconst 0, 1) := by decide +kernel
theorem dX7_takesSign_30 : decode cX7_takesSign 30 = .ok (.istore 5, 2) := by decide +kernel
theorem dX7_takesSign_32 : decode cX7_takesSign 32 = .ok (.iload 5, 2) := by decide +kernel
theorem dX7_takesSign_34 : decode cX7_takesSign 34 = .ok (.iload_n 2, 1) := by decide +kernel
theorem dX7_takesSign_35 : decode cX7_takesSign 35 = .ok (.if_icmp .ge 33, 3) := by decide +kernel
theorem dX7_takesSign_38 : decode cX7_takesSign 38 = .ok (.iload_n 1, 1) := by decide +kernel
theorem dX7_takesSign_39 : decode cX7_takesSign 39 = .ok (.bipush 8, 2) := by decide +kernel
theorem dX7_takesSign_41 : decode cX7_takesSign 41 = .ok (.iload 5, 2) := by decide +kernel
theorem dX7_takesSign_43 : decode cX7_takesSign 43 = .ok (.imul, 1) := by decide +kernel
theorem dX7_takesSign_44 : decode cX7_takesSign 44 = .ok (.ishr, 1) := by decide +kernel
theorem dX7_takesSign_45 : decode cX7_takesSign 45 = .ok (.sipush 255, 3) := by decide +kernel
theorem dX7_takesSign_48 : decode cX7_takesSign 48 = .ok (.iand, 1) := by decide +kernel
theorem dX7_takesSign_49 : decode cX7_takesSign 49 = .ok (.iload_n 3, 1) := by decide +kernel
theorem dX7_takesSign_50 : decode cX7_takesSign 50 = .ok (.if_icmp .ne 8, 3) := by decide +kernel
theorem dX7_takesSign_53 : decode cX7_takesSign 53 = .ok (.iload 5, 2) := by decide +kernel
theorem dX7_takesSign_55 : decode cX7_takesSign 55 = .ok (.goto 5, 3) := by decide +kernel
theorem dX7_takesSign_58 : decode cX7_takesSign 58 = .ok (.iload 4, 2) := by decide +kernel
theorem dX7_takesSign_60 : decode cX7_takesSign 60 = .ok (.istore 4, 2) := by decide +kernel
theorem dX7_takesSign_62 : decode cX7_takesSign 62 = .ok (.iinc 5 1, 3) := by decide +kernel
theorem dX7_takesSign_65 : decode cX7_takesSign 65 = .ok (.goto (-33), 3) := by decide +kernel
theorem dX7_takesSign_68 : decode cX7_takesSign 68 = .ok (.aload_n 0, 1) := by decide +kernel
theorem dX7_takesSign_69 : decode cX7_takesSign 69 = .ok (.aload_n 0, 1) := by decide +kernel
theorem dX7_takesSign_70 : decode cX7_takesSign 70 = .ok (.getfield 132, 3) := by decide +kernel
theorem dX7_takesSign_73 : decode cX7_takesSign 73 = .ok (.ifCond .ne 10, 3) := by decide +kernel
theorem dX7_takesSign_76 : decode cX7_takesSign 76 = .ok (.iload 4, 2) := by decide +kernel
theorem dX7_takesSign_78 : decode cX7_takesSign 78 = .ok (.bipush (-5), 2) := by decide +kernel
theorem dX7_takesSign_80 : decode cX7_takesSign 80 = .ok (.if_icmp .ne 7, 3) := by decide +kernel
theorem dX7_takesSign_83 : decode cX7_takesSign 83 = .ok (.iconst 1, 1) := by decide +kernel
theorem dX7_takesSign_84 : decode cX7_takesSign 84 = .ok (.goto 4, 3) := by decide +kernel
theorem dX7_takesSign_87 : decode cX7_takesSign 87 = .ok (.iconst 0, 1) := by decide +kernel
theorem dX7_takesSign_88 : decode cX7_takesSign 88 = .ok (.putfield 132, 3) := by decide +kernel
theorem dX7_takesSign_91 : decode cX7_takesSign 91 = .ok (.aload_n 0, 1) := by decide +kernel
theorem dX7_takesSign_92 : decode cX7_takesSign 92 = .ok (.dup, 1) := by decide +kernel
theorem dX7_takesSign_93 : decode cX7_takesSign 93 = .ok (.getfield 136, 3) := by decide +kernel
theorem dX7_takesSign_96 : decode cX7_takesSign 96 = .ok (.aload_n 0, 1) := by decide +kernel
theorem dX7_takesSign_97 : decode cX7_takesSign 97 = .ok (.getfield 132, 3) := by decide +kernel
theorem dX7_takesSign_100 : decode cX7_takesSign 100 = .ok (.ifCond .eq 7, 3) := by decide +kernel
theorem dX7_takesSign_103 : decode cX7_takesSign 103 = .ok (.iconst 0, 1) := by decide +kernel
theorem dX7_takesSign_104 : decode cX7_takesSign 104 = .ok (.goto 4, 3) := by decide +kernel
theorem dX7_takesSign_107 : decode cX7_takesSign 107 = .ok (.iconst 1, 1) := by decide +kernel
theorem dX7_takesSign_108 : decode cX7_takesSign 108 = .ok (.iadd, 1) := by decide +kernel
theorem dX7_takesSign_109 : decode cX7_takesSign 109 = .ok (.putfield 136, 3) := by decide +kernel
theorem dX7_takesSign_112 : decode cX7_takesSign 112 = .ok (.iload 4, 2) := by decide +kernel
theorem dX7_takesSign_114 : decode cX7_takesSign 114 = .ok (.ireturn, 1) := by decide +kernel
theorem dX7_readThing_0 : decode cX7_readThing 0 = .ok (.aload_n 0, 1) := by decide +kernel
theorem dX7_readThing_1 : decode cX7_readThing 1 = .ok (.bipush (-5), 2) := by decide +kernel
theorem dX7_readThing_3 : decode cX7_readThing 3 = .ok (.putfield 146, 3) := by decide +kernel
theorem dX7_readThing_6 : decode cX7_readThing 6 = .ok (.aload_n 0, 1) := by decide +kernel
theorem dX7_readThing_7 : decode cX7_readThing 7 = .ok (.bipush 46, 2) := by decide +kernel
theorem dX7_readThing_9 : decode cX7_readThing 9 = .ok (.bipush 46, 2) := by decide +kernel
end
section
theorem dX7_readThing_11 : decode cX7_readThing 11 = .ok (.invokevirtual 142, 3) := by decide +kernel
theorem dX7_readThing_14 : decode cX7_readThing 14 = .ok (.ifCond .eq 24, 3) := by decide +kernel
theorem dX7_readThing_17 : decode cX7_readThing 17 = .ok (.aload_n 0, 1) := by decide +kernel
theorem dX7_readThing_18 : decode cX7_readThing 18 = .ok (.bipush 46, 2) := by decide +kernel
theorem dX7_readThing_20 : decode cX7_readThing 20 = .ok (.bipush 46, 2) := by decide +kernel
theorem dX7_readThing_22 : decode cX7_readThing 22 = .ok (.invokevirtual 139, 3) := by decide +kernel
theorem dX7_readThing_25 : decode cX7_readThing 25 = .ok (.istore_n 1, 1) := by decide +kernel
theorem dX7_readThing_26 : decode cX7_readThing 26 = .ok (.aload_n 0, 1) := by decide +kernel
theorem dX7_readThing_27 : decode cX7_readThing 27 = .ok (.aload_n 0, 1) := by decide +kernel
theorem dX7_readThing_28 : decode cX7_readThing 28 = .ok (.iconst 1, 1) := by decide +kernel
theorem dX7_readThing_29 : decode cX7_readThing 29 = .ok (.bipush 99, 2) := by decide +kernel
theorem dX7_readThing_31 : decode cX7_readThing 31 = .ok (.invokevirtual 149, 3) := by decide +kernel
theorem dX7_readThing_34 : decode cX7_readThing 34 = .ok (.putfield 152, 3) := by decide +kernel
theorem dX7_readThing_37 : decode cX7_readThing 37 = .ok (.return_, 1) := by decide +kernel
theorem dX7_readThing_38 : decode cX7_readThing 38 = .ok (.aload_n 0, 1) := by decide +kernel
theorem dX7_readThing_39 : decode cX7_readThing 39 = .ok (.aload_n 0, 1) := by decide +kernel
theorem dX7_readThing_40 : decode cX7_readThing 40 = .ok (.bipush 48, 2) := by decide +kernel
theorem dX7_readThing_42 : decode cX7_readThing 42 = .ok (.bipush 49, 2) := by decide +kernel
theorem dX7_readThing_44 : decode cX7_readThing 44 = .ok (.invokevirtual 139, 3) := by decide +kernel
theorem dX7_readThing_47 : decode cX7_readThing 47 = .ok (.putfield 146, 3) := by decide +kernel
theorem dX7_readThing_50 : decode cX7_readThing 50 = .ok (.aload_n 0, 1) := by decide +kernel
theorem dX7_readThing_51 : decode cX7_readThing 51 = .ok (.aload_n 0, 1) := by decide +kernel
theorem dX7_readThing_52 : decode cX7_readThing 52 = .ok (.getfield 132, 3) := by decide +kernel
theorem dX7_readThing_55 : decode cX7_readThing 55 = .ok (.ifCond .eq 8, 3) := by decide +kernel
theorem dX7_readThing_58 : decode cX7_readThing 58 = .ok (.bipush (-5), 2) := by decide +kernel
theorem dX7_readThing_60 : decode cX7_readThing 60 = .ok (.goto 10, 3) := by decide +kernel
theorem dX7_readThing_63 : decode cX7_readThing 63 = .ok (.aload_n 0, 1) := by decide +kernel
theorem dX7_readThing_64 : decode cX7_readThing 64 = .ok (.ldc 155, 2) := by decide +kernel
theorem dX7_readThing_66 : decode cX7_readThing 66 = .ok (.iconst 4, 1) := by decide +kernel
theorem dX7_readThing_67 : decode cX7_readThing 67 = .ok (.invokevirtual 156, 3) := by decide +kernel
theorem dX7_readThing_70 : decode cX7_readThing 70 = .ok (.putfield 159, 3) := by decide +kernel
theorem dX7_readThing_73 : decode cX7_readThing 73 = .ok (.aload_n 0, 1) := by decide +kernel
theorem dX7_readThing_74 : decode cX7_readThing 74 = .ok (.bipush (-5), 2) := by decide +kernel
theorem dX7_readThing_76 : decode cX7_readThing 76 = .ok (.putfield 162, 3) := by decide +kernel
theorem dX7_readThing_79 : decode cX7_readThing 79 = .ok (.aload_n 0, 1) := by decide +kernel
theorem dX7_readThing_80 : decode cX7_readThing 80 = .ok (.bipush (-5), 2) := by decide +kernel
theorem dX7_readThing_82 : decode cX7_readThing 82 = .ok (.putfield 152, 3) := by decide +kernel
theorem dX7_readThing_85 : decode cX7_readThing 85 = .ok (.aload_n 0, 1) := by decide +kernel
theorem dX7_readThing_86 : decode cX7_readThing 86 = .ok (.getfield 159, 3) := by decide +kernel
theorem dX7_readThing_89 : decode cX7_readThing 89 = .ok (.iconst 3, 1) := by decide +kernel
theorem dX7_readThing_90 : decode cX7_readThing 90 = .ok (.if_icmp .ne 17, 3) := by decide +kernel
theorem dX7_readThing_93 : decode cX7_readThing 93 = .ok (.aload_n 0, 1) := by decide +kernel
theorem dX7_readThing_94 : decode cX7_readThing 94 = .ok (.aload_n 0, 1) := by decide +kernel
theorem dX7_readThing_95 : decode cX7_readThing 95 = .ok (.iconst 1, 1) := by decide +kernel
theorem dX7_readThing_96 : decode cX7_readThing 96 = .ok (.bipush 99, 2) := by decide +kernel
theorem dX7_readThing_98 : decode cX7_readThing 98 = .ok (.invokevirtual 149, 3) := by decide +kernel
theorem dX7_readThing_101 : decode cX7_readThing 101 = .ok (.putfield 152, 3) := by decide +kernel
theorem dX7_readThing_104 : decode cX7_readThing 104 = .ok (.goto 47, 3) := by decide +kernel
theorem dX7_readThing_107 : decode cX7_readThing 107 = .ok (.aload_n 0, 1) := by decide +kernel
theorem dX7_readThing_108 : decode cX7_readThing 108 = .ok (.getfield 159, 3) := by decide +kernel
theorem dX7_readThing_111 : decode cX7_readThing 111 = .ok (.bipush (-5), 2) := by decide +kernel
theorem dX7_readThing_113 : decode cX7_readThing 113 = .ok (.if_icmp .eq 38, 3) := by decide +kernel
theorem dX7_readThing_116 : decode cX7_readThing 116 = .ok (.aload_n 0, 1) := by decide +kernel
theorem dX7_readThing_117 : decode cX7_readThing 117 = .ok (.aload_n 0, 1) := by decide +kernel
theorem dX7_readThing_118 : decode cX7_readThing 118 = .ok (.iconst 0, 1) := by decide +kernel
theorem dX7_readThing_119 : decode cX7_readThing 119 = .ok (.bipush 47, 2) := by decide +kernel
theorem dX7_readThing_121 : decode cX7_readThing 121 = .ok (.invokevirtual 149, 3) := by decide +kernel
theorem dX7_readThing_124 : decode cX7_readThing 124 = .ok (.putfield 162, 3) := by decide +kernel
theorem dX7_readThing_127 : decode cX7_readThing 127 = .ok (.aload_n 0, 1) := by decide +kernel
theorem dX7_readThing_128 : decode cX7_readThing 128 = .ok (.aload_n 0, 1) := by decide +kernel
theorem dX7_readThing_129 : decode cX7_readThing 129 = .ok (.getfield 159, 3) := by decide +kernel
theorem dX7_readThing_132 : decode cX7_readThing 132 = .ok (.iconst 2, 1) := by decide +kernel
theorem dX7_readThing_133 : decode cX7_readThing 133 = .ok (.if_icmp .ne 8, 3) := by decide +kernel
theorem dX7_readThing_136 : decode cX7_readThing 136 = .ok (.bipush (-5), 2) := by decide +kernel
theorem dX7_readThing_138 : decode cX7_readThing 138 = .ok (.goto 10, 3) := by decide +kernel
theorem dX7_readThing_141 : decode cX7_readThing 141 = .ok (.aload_n 0, 1) := by decide +kernel
theorem dX7_readThing_142 : decode cX7_readThing 142 = .ok (.ldc 165, 2) := by decide +kernel
theorem dX7_readThing_144 : decode cX7_readThing 144 = .ok (.iconst 4, 1) := by decide +kernel
theorem dX7_readThing_145 : decode cX7_readThing 145 = .ok (.invokevirtual 156, 3) := by decide +kernel
theorem dX7_readThing_148 : decode cX7_readThing 148 = .ok (.putfield 152, 3) := by decide +kernel
theorem dX7_readThing_151 : decode cX7_readThing 151 = .ok (.return_, 1) := by decide +kernel
theorem dX7_runs_0 : decode cX7_runs 0 = .ok (.aload_n 0, 1) := by decide +kernel
theorem dX7_runs_1 : decode cX7_runs 1 = .ok (.iconst 0, 1) := by decide +kernel
theorem dX7_runs_2 : decode cX7_runs 2 = .ok (.putfield 136, 3) := by decide +kernel
theorem dX7_runs_5 : decode cX7_runs 5 = .ok (.aload_n 0, 1) := by decide +kernel
theorem dX7_runs_6 : decode cX7_runs 6 = .ok (.iconst 0, 1) := by decide +kernel
theorem dX7_runs_7 : decode cX7_runs 7 = .ok (.putfield 132, 3) := by decide +kernel
theorem dX7_runs_10 : decode cX7_runs 10 = .ok (.aload_n 0, 1) := by decide +kernel
theorem dX7_runs_11 : decode cX7_runs 11 = .ok (.iconst 0, 1) := by decide +kernel
theorem dX7_runs_12 : decode cX7_runs 12 = .ok (.putfield 166, 3) := by decide +kernel
theorem dX7_runs_15 : decode cX7_runs 15 = .ok (.iconst 0, 1) := by decide +kernel
theorem dX7_runs_16 : decode cX7_runs 16 = .ok (.istore_n 2, 1) := by decide +kernel
theorem dX7_runs_17 : decode cX7_runs 17 = .ok (.iconst 1, 1) := by decide +kernel
theorem dX7_runs_18 : decode cX7_runs 18 = .ok (.istore_n 3, 1) := by decide +kernel
theorem dX7_runs_19 : decode cX7_runs 19 = .ok (.iload_n 3, 1) := by decide +kernel
theorem dX7_runs_20 : decode cX7_runs 20 = .ok (.ifCond .eq 148, 3) := by decide +kernel
theorem dX7_runs_23 : decode cX7_runs 23 = .ok (.aload_n 0, 1) := by decide +kernel
theorem dX7_runs_24 : decode cX7_runs 24 = .ok (.invokevirtual 169, 3) := by decide +kernel
theorem dX7_runs_27 : decode cX7_runs 27 = .ok (.iload_n 1, 1) := by decide +kernel
theorem dX7_runs_28 : decode cX7_runs 28 = .ok (.ifCond .ne 7, 3) := by decide +kernel
theorem dX7_runs_31 : decode cX7_runs 31 = .ok (.iconst 0, 1) := by decide +kernel
theorem dX7_runs_32 : decode cX7_runs 32 = .ok (.goto 43, 3) := by decide +kernel
theorem dX7_runs_35 : decode cX7_runs 35 = .ok (.aload_n 0, 1) := by decide +kernel
theorem dX7_runs_36 : decode cX7_runs 36 = .ok (.getfield 146, 3) := by decide +kernel
theorem dX7_runs_39 : decode cX7_runs 39 = .ok (.bipush (-5), 2) := by decide +kernel
theorem dX7_runs_41 : decode cX7_runs 41 = .ok (.if_icmp .ne 14, 3) := by decide +kernel
theorem dX7_runs_44 : decode cX7_runs 44 = .ok (.aload_n 0, 1) := by decide +kernel
theorem dX7_runs_45 : decode cX7_runs 45 = .ok (.aload_n 0, 1) := by decide +kernel
theorem dX7_runs_46 : decode cX7_runs 46 = .ok (.getfield 152, 3) := by decide +kernel
theorem dX7_runs_49 : decode cX7_runs 49 = .ok (.invokevirtual 126, 3) := by decide +kernel
theorem dX7_runs_52 : decode cX7_runs 52 = .ok (.goto 23, 3) := by decide +kernel
theorem dX7_runs_55 : decode cX7_runs 55 = .ok (.aload_n 0, 1) := by decide +kernel
theorem dX7_runs_56 : decode cX7_runs 56 = .ok (.aload_n 0, 1) := by decide +kernel
theorem dX7_runs_57 : decode cX7_runs 57 = .ok (.getfield 146, 3) := by decide +kernel
theorem dX7_runs_60 : decode cX7_runs 60 = .ok (.aload_n 0, 1) := by decide +kernel
theorem dX7_runs_61 : decode cX7_runs 61 = .ok (.getfield 159, 3) := by decide +kernel
theorem dX7_runs_64 : decode cX7_runs 64 = .ok (.aload_n 0, 1) := by decide +kernel
theorem dX7_runs_65 : decode cX7_runs 65 = .ok (.getfield 162, 3) := by decide +kernel
theorem dX7_runs_68 : decode cX7_runs 68 = .ok (.aload_n 0, 1) := by decide +kernel
theorem dX7_runs_69 : decode cX7_runs 69 = .ok (.getfield 152, 3) := by decide +kernel
theorem dX7_runs_72 : decode cX7_runs 72 = .ok (.invokevirtual 116, 3) := by decide +kernel
theorem dX7_runs_75 : decode cX7_runs 75 = .ok (.istore 4, 2) := by decide +kernel
theorem dX7_runs_77 : decode cX7_runs 77 = .ok (.aload_n 0, 1) := by decide +kernel
theorem dX7_runs_78 : decode cX7_runs 78 = .ok (.iload 4, 2) := by decide +kernel
theorem dX7_runs_80 : decode cX7_runs 80 = .ok (.ifCond .ge 8, 3) := by decide +kernel
theorem dX7_runs_83 : decode cX7_runs 83 = .ok (.iload 4, 2) := by decide +kernel
theorem dX7_runs_85 : decode cX7_runs 85 = .ok (.goto 4, 3) := by decide +kernel
theorem dX7_runs_88 : decode cX7_runs 88 = .ok (.iconst 0, 1) := by decide +kernel
theorem dX7_runs_89 : decode cX7_runs 89 = .ok (.putfield 166, 3) := by decide +kernel
theorem dX7_runs_92 : decode cX7_runs 92 = .ok (.iload_n 2, 1) := by decide +kernel
theorem dX7_runs_93 : decode cX7_runs 93 = .ok (.aload_n 0, 1) := by decide +kernel
theorem dX7_runs_94 : decode cX7_runs 94 = .ok (.getfield 166, 3) := by decide +kernel
theorem dX7_runs_97 : decode cX7_runs 97 = .ok (.ifCond .ge 7, 3) := by decide +kernel
theorem dX7_runs_100 : decode cX7_runs 100 = .ok (.iconst 0, 1) := by decide +kernel
theorem dX7_runs_101 : decode cX7_runs 101 = .ok (.goto 4, 3) := by decide +kernel
theorem dX7_runs_104 : decode cX7_runs 104 = .ok (.iconst 1, 1) := by decide +kernel
theorem dX7_runs_105 : decode cX7_runs 105 = .ok (.iadd, 1) := by decide +kernel
theorem dX7_runs_106 : decode cX7_runs 106 = .ok (.istore_n 2, 1) := by decide +kernel
theorem dX7_runs_107 : decode cX7_runs 107 = .ok (.aload_n 0, 1) := by decide +kernel
theorem dX7_runs_108 : decode cX7_runs 108 = .ok (.getfield 166, 3) := by decide +kernel
theorem dX7_runs_111 : decode cX7_runs 111 = .ok (.ifCond .ne 25, 3) := by decide +kernel
theorem dX7_runs_114 : decode cX7_runs 114 = .ok (.aload_n 0, 1) := by decide +kernel
theorem dX7_runs_115 : decode cX7_runs 115 = .ok (.getfield 132, 3) := by decide +kernel
theorem dX7_runs_118 : decode cX7_runs 118 = .ok (.ifCond .ne 18, 3) := by decide +kernel
theorem dX7_runs_121 : decode cX7_runs 121 = .ok (.aload_n 0, 1) := by decide +kernel
theorem dX7_runs_122 : decode cX7_runs 122 = .ok (.getfield 136, 3) := by decide +kernel
theorem dX7_runs_125 : decode cX7_runs 125 = .ok (.aload_n 0, 1) := by decide +kernel
theorem dX7_runs_126 : decode cX7_runs 126 = .ok (.getfield 129, 3) := by decide +kernel
theorem dX7_runs_129 : decode cX7_runs 129 = .ok (.if_icmp .ge 7, 3) := by decide +kernel
theorem dX7_runs_132 : decode cX7_runs 132 = .ok (.iconst 1, 1) := by decide +kernel
theorem dX7_runs_133 : decode cX7_runs 133 = .ok (.goto 4, 3) := by decide +kernel
theorem dX7_runs_136 : decode cX7_runs 136 = .ok (.iconst 0, 1) := by decide +kernel
theorem dX7_runs_137 : decode cX7_runs 137 = .ok (.istore_n 3, 1) := by decide +kernel
theorem dX7_runs_138 : decode cX7_runs 138 = .ok (.iload_n 3, 1) := by decide +kernel
theorem dX7_runs_139 : decode cX7_runs 139 = .ok (.ifCond .eq 26, 3) := by decide +kernel
theorem dX7_runs_142 : decode cX7_runs 142 = .ok (.aload_n 0, 1) := by decide +kernel
theorem dX7_runs_143 : decode cX7_runs 143 = .ok (.bipush 59, 2) := by decide +kernel
theorem dX7_runs_145 : decode cX7_runs 145 = .ok (.bipush 59, 2) := by decide +kernel
theorem dX7_runs_147 : decode cX7_runs 147 = .ok (.invokevirtual 139, 3) := by decide +kernel
theorem dX7_runs_150 : decode cX7_runs 150 = .ok (.istore 5, 2) := by decide +kernel
theorem dX7_runs_152 : decode cX7_runs 152 = .ok (.aload_n 0, 1) := by decide +kernel
theorem dX7_runs_153 : decode cX7_runs 153 = .ok (.getfield 132, 3) := by decide +kernel
theorem dX7_runs_156 : decode cX7_runs 156 = .ok (.ifCond .ne 7, 3) := by decide +kernel
theorem dX7_runs_159 : decode cX7_runs 159 = .ok (.iconst 1, 1) := by decide +kernel
theorem dX7_runs_160 : decode cX7_runs 160 = .ok (.goto 4, 3) := by decide +kernel
theorem dX7_runs_163 : decode cX7_runs 163 = .ok (.iconst 0, 1) := by decide +kernel
theorem dX7_runs_164 : decode cX7_runs 164 = .ok (.istore_n 3, 1) := by decide +kernel
theorem dX7_runs_165 : decode cX7_runs 165 = .ok (.goto (-146), 3) := by decide +kernel
theorem dX7_runs_168 : decode cX7_runs 168 = .ok (.iload_n 2, 1) := by decide +kernel
theorem dX7_runs_169 : decode cX7_runs 169 = .ok (.ireturn, 1) := by decide +kernel
theorem dX7_perform_0 : decode cX7_perform 0 = .ok (.aload_n 0, 1) := by decide +kernel
theorem dX7_perform_1 : decode cX7_perform 1 = .ok (.iconst 0, 1) := by decide +kernel
theorem dX7_perform_2 : decode cX7_perform 2 = .ok (.invokevirtual 172, 3) := by decide +kernel
theorem dX7_perform_5 : decode cX7_perform 5 = .ok (.istore_n 1, 1) := by decide +kernel
theorem dX7_perform_6 : decode cX7_perform 6 = .ok (.aload_n 0, 1) := by decide +kernel
theorem dX7_perform_7 : decode cX7_perform 7 = .ok (.getfield 132, 3) := by decide +kernel
theorem dX7_perform_10 : decode cX7_perform 10 = .ok (.ifCond .eq 11, 3) := by decide +kernel
theorem dX7_perform_13 : decode cX7_perform 13 = .ok (.bipush (-100), 2) := by decide +kernel
theorem dX7_perform_15 : decode cX7_perform 15 = .ok (.aload_n 0, 1) := by decide +kernel
theorem dX7_perform_16 : decode cX7_perform 16 = .ok (.getfield 136, 3) := by decide +kernel
theorem dX7_perform_19 : decode cX7_perform 19 = .ok (.isub, 1) := by decide +kernel
theorem dX7_perform_20 : decode cX7_perform 20 = .ok (.ireturn, 1) := by decide +kernel
theorem dX7_perform_21 : decode cX7_perform 21 = .ok (.aload_n 0, 1) := by decide +kernel
theorem dX7_perform_22 : decode cX7_perform 22 = .ok (.invokevirtual 113, 3) := by decide +kernel
theorem dX7_perform_25 : decode cX7_perform 25 = .ok (.aload_n 0, 1) := by decide +kernel
theorem dX7_perform_26 : decode cX7_perform 26 = .ok (.iconst 1, 1) := by decide +kernel
theorem dX7_perform_27 : decode cX7_perform 27 = .ok (.invokevirtual 172, 3) := by decide +kernel
theorem dX7_perform_30 : decode cX7_perform 30 = .ok (.istore_n 2, 1) := by decide +kernel
theorem dX7_perform_31 : decode cX7_perform 31 = .ok (.aload_n 0, 1) := by decide +kernel
theorem dX7_perform_32 : decode cX7_perform 32 = .ok (.getfield 166, 3) := by decide +kernel
theorem dX7_perform_35 : decode cX7_perform 35 = .ok (.ifCond .ge 46, 3) := by decide +kernel
theorem dX7_perform_38 : decode cX7_perform 38 = .ok (.aload_n 0, 1) := by decide +kernel
theorem dX7_perform_39 : decode cX7_perform 39 = .ok (.iload_n 2, 1) := by decide +kernel
theorem dX7_perform_40 : decode cX7_perform 40 = .ok (.putfield 28, 3) := by decide +kernel
theorem dX7_perform_43 : decode cX7_perform 43 = .ok (.aload_n 0, 1) := by decide +kernel
theorem dX7_perform_44 : decode cX7_perform 44 = .ok (.aload_n 0, 1) := by decide +kernel
theorem dX7_perform_45 : decode cX7_perform 45 = .ok (.getfield 166, 3) := by decide +kernel
theorem dX7_perform_48 : decode cX7_perform 48 = .ok (.putfield 32, 3) := by decide +kernel
theorem dX7_perform_51 : decode cX7_perform 51 = .ok (.iconst 0, 1) := by decide +kernel
theorem dX7_perform_52 : decode cX7_perform 52 = .ok (.istore_n 3, 1) := by decide +kernel
theorem dX7_perform_53 : decode cX7_perform 53 = .ok (.iload_n 3, 1) := by decide +kernel
theorem dX7_perform_54 : decode cX7_perform 54 = .ok (.sipush 742, 3) := by decide +kernel
theorem dX7_perform_57 : decode cX7_perform 57 = .ok (.if_icmp .ge 21, 3) := by decide +kernel
theorem dX7_perform_60 : decode cX7_perform 60 = .ok (.aload_n 0, 1) := by decide +kernel
theorem dX7_perform_61 : decode cX7_perform 61 = .ok (.getfield 7, 3) := by decide +kernel
theorem dX7_perform_64 : decode cX7_perform 64 = .ok (.iload_n 3, 1) := by decide +kernel
theorem dX7_perform_65 : decode cX7_perform 65 = .ok (.aload_n 0, 1) := by decide +kernel
theorem dX7_perform_66 : decode cX7_perform 66 = .ok (.getfield 16, 3) := by decide +kernel
theorem dX7_perform_69 : decode cX7_perform 69 = .ok (.iload_n 3, 1) := by decide +kernel
theorem dX7_perform_70 : decode cX7_perform 70 = .ok (.iaload, 1) := by decide +kernel
theorem dX7_perform_71 : decode cX7_perform 71 = .ok (.iastore, 1) := by decide +kernel
theorem dX7_perform_72 : decode cX7_perform 72 = .ok (.iinc 3 1, 3) := by decide +kernel
theorem dX7_perform_75 : decode cX7_perform 75 = .ok (.goto (-22), 3) := by decide +kernel
theorem dX7_perform_78 : decode cX7_perform 78 = .ok (.bipush (-4), 2) := by decide +kernel
theorem dX7_perform_80 : decode cX7_perform 80 = .ok (.ireturn, 1) := by decide +kernel
theorem dX7_perform_81 : decode cX7_perform 81 = .ok (.aload_n 0, 1) := by decide +kernel
theorem dX7_perform_82 : decode cX7_perform 82 = .ok (.invokevirtual 110, 3) := by decide +kernel
theorem dX7_perform_85 : decode cX7_perform 85 = .ok (.iload_n 2, 1) := by decide +kernel
theorem dX7_perform_86 : decode cX7_perform 86 = .ok (.ireturn, 1) := by decide +kernel
theorem dX7_stopped_0 : decode cX7_stopped 0 = .ok (.iload_n 1, 1) := by decide +kernel
theorem dX7_stopped_1 : decode cX7_stopped 1 = .ok (.ifCond .ne 10, 3) := by decide +kernel
theorem dX7_stopped_4 : decode cX7_stopped 4 = .ok (.aload_n 0, 1) := by decide +kernel
theorem dX7_stopped_5 : decode cX7_stopped 5 = .ok (.getfield 28, 3) := by decide +kernel
theorem dX7_stopped_8 : decode cX7_stopped 8 = .ok (.goto 17, 3) := by decide +kernel
theorem dX7_stopped_11 : decode cX7_stopped 11 = .ok (.iload_n 1, 1) := by decide +kernel
theorem dX7_stopped_12 : decode cX7_stopped 12 = .ok (.iconst 1, 1) := by decide +kernel
theorem dX7_stopped_13 : decode cX7_stopped 13 = .ok (.if_icmp .ne 10, 3) := by decide +kernel
theorem dX7_stopped_16 : decode cX7_stopped 16 = .ok (.aload_n 0, 1) := by decide +kernel
theorem dX7_stopped_17 : decode cX7_stopped 17 = .ok (.getfield 32, 3) := by decide +kernel
theorem dX7_stopped_20 : decode cX7_stopped 20 = .ok (.goto 5, 3) := by decide +kernel
theorem dX7_stopped_23 : decode cX7_stopped 23 = .ok (.bipush (-2), 2) := by decide +kernel
theorem dX7_stopped_25 : decode cX7_stopped 25 = .ok (.ireturn, 1) := by decide +kernel
theorem dX7_undo_0 : decode cX7_undo 0 = .ok (.aload_n 0, 1) := by decide +kernel
theorem dX7_undo_1 : decode cX7_undo 1 = .ok (.getfield 47, 3) := by decide +kernel
theorem dX7_undo_4 : decode cX7_undo 4 = .ok (.ifCond .ne 6, 3) := by decide +kernel
theorem dX7_undo_7 : decode cX7_undo 7 = .ok (.bipush (-5), 2) := by decide +kernel
theorem dX7_undo_9 : decode cX7_undo 9 = .ok (.ireturn, 1) := by decide +kernel
theorem dX7_undo_10 : decode cX7_undo 10 = .ok (.aload_n 0, 1) := by decide +kernel
theorem dX7_undo_11 : decode cX7_undo 11 = .ok (.dup, 1) := by decide +kernel
theorem dX7_undo_12 : decode cX7_undo 12 = .ok (.getfield 47, 3) := by decide +kernel
theorem dX7_undo_15 : decode cX7_undo 15 = .ok (.iconst 1, 1) := by decide +kernel
theorem dX7_undo_16 : decode cX7_undo 16 = .ok (.isub, 1) := by decide +kernel
theorem dX7_undo_17 : decode cX7_undo 17 = .ok (.putfield 47, 3) := by decide +kernel
theorem dX7_undo_20 : decode cX7_undo 20 = .ok (.iconst 0, 1) := by decide +kernel
theorem dX7_undo_21 : decode cX7_undo 21 = .ok (.istore_n 1, 1) := by decide +kernel
theorem dX7_undo_22 : decode cX7_undo 22 = .ok (.iload_n 1, 1) := by decide +kernel
theorem dX7_undo_23 : decode cX7_undo 23 = .ok (.sipush 742, 3) := by decide +kernel
theorem dX7_undo_26 : decode cX7_undo 26 = .ok (.if_icmp .ge 30, 3) := by decide +kernel
theorem dX7_undo_29 : decode cX7_undo 29 = .ok (.aload_n 0, 1) := by decide +kernel
theorem dX7_undo_30 : decode cX7_undo 30 = .ok (.getfield 7, 3) := by decide +kernel
theorem dX7_undo_33 : decode cX7_undo 33 = .ok (.iload_n 1, 1) := by decide +kernel
theorem dX7_undo_34 : decode cX7_undo 34 = .ok (.aload_n 0, 1) := by decide +kernel
theorem dX7_undo_35 : decode cX7_undo 35 = .ok (.getfield 22, 3) := by decide +kernel
theorem dX7_undo_38 : decode cX7_undo 38 = .ok (.sipush 742, 3) := by decide +kernel
theorem dX7_undo_41 : decode cX7_undo 41 = .ok (.aload_n 0, 1) := by decide +kernel
theorem dX7_undo_42 : decode cX7_undo 42 = .ok (.getfield 47, 3) := by decide +kernel
theorem dX7_undo_45 : decode cX7_undo 45 = .ok (.imul, 1) := by decide +kernel
theorem dX7_undo_46 : decode cX7_undo 46 = .ok (.iload_n 1, 1) := by decide +kernel
theorem dX7_undo_47 : decode cX7_undo 47 = .ok (.iadd, 1) := by decide +kernel
theorem dX7_undo_48 : decode cX7_undo 48 = .ok (.iaload, 1) := by decide +kernel
theorem dX7_undo_49 : decode cX7_undo 49 = .ok (.iastore, 1) := by decide +kernel
theorem dX7_undo_50 : decode cX7_undo 50 = .ok (.iinc 1 1, 3) := by decide +kernel
theorem dX7_undo_53 : decode cX7_undo 53 = .ok (.goto (-31), 3) := by decide +kernel
theorem dX7_undo_56 : decode cX7_undo 56 = .ok (.aload_n 0, 1) := by decide +kernel
theorem dX7_undo_57 : decode cX7_undo 57 = .ok (.getfield 47, 3) := by decide +kernel
theorem dX7_undo_60 : decode cX7_undo 60 = .ok (.ireturn, 1) := by decide +kernel
theorem dX7_keep_0 : decode cX7_keep 0 = .ok (.iconst 0, 1) := by decide +kernel
theorem dX7_keep_1 : decode cX7_keep 1 = .ok (.istore_n 1, 1) := by decide +kernel
theorem dX7_keep_2 : decode cX7_keep 2 = .ok (.iload_n 1, 1) := by decide +kernel
theorem dX7_keep_3 : decode cX7_keep 3 = .ok (.sipush 742, 3) := by decide +kernel
theorem dX7_keep_6 : decode cX7_keep 6 = .ok (.if_icmp .ge 21, 3) := by decide +kernel
theorem dX7_keep_9 : decode cX7_keep 9 = .ok (.aload_n 0, 1) := by decide +kernel
theorem dX7_keep_10 : decode cX7_keep 10 = .ok (.getfield 19, 3) := by decide +kernel
theorem dX7_keep_13 : decode cX7_keep 13 = .ok (.iload_n 1, 1) := by decide +kernel
theorem dX7_keep_14 : decode cX7_keep 14 = .ok (.aload_n 0, 1) := by decide +kernel
theorem dX7_keep_15 : decode cX7_keep 15 = .ok (.getfield 7, 3) := by decide +kernel
theorem dX7_keep_18 : decode cX7_keep 18 = .ok (.iload_n 1, 1) := by decide +kernel
theorem dX7_keep_19 : decode cX7_keep 19 = .ok (.iaload, 1) := by decide +kernel
theorem dX7_keep_20 : decode cX7_keep 20 = .ok (.iastore, 1) := by decide +kernel
theorem dX7_keep_21 : decode cX7_keep 21 = .ok (.iinc 1 1, 3) := by decide +kernel
theorem dX7_keep_24 : decode cX7_keep 24 = .ok (.goto (-22), 3) := by decide +kernel
theorem dX7_keep_27 : decode cX7_keep 27 = .ok (.aload_n 0, 1) := by decide +kernel
theorem dX7_keep_28 : decode cX7_keep 28 = .ok (.iconst 1, 1) := by decide +kernel
theorem dX7_keep_29 : decode cX7_keep 29 = .ok (.putfield 176, 3) := by decide +kernel
theorem dX7_keep_32 : decode cX7_keep 32 = .ok (.aload_n 0, 1) := by decide +kernel
theorem dX7_keep_33 : decode cX7_keep 33 = .ok (.getfield 7, 3) := by decide +kernel
theorem dX7_keep_36 : decode cX7_keep 36 = .ok (.iconst 0, 1) := by decide +kernel
theorem dX7_keep_37 : decode cX7_keep 37 = .ok (.iaload, 1) := by decide +kernel
theorem dX7_keep_38 : decode cX7_keep 38 = .ok (.ireturn, 1) := by decide +kernel
theorem dX7_restore_0 : decode cX7_restore 0 = .ok (.aload_n 0, 1) := by decide +kernel
theorem dX7_restore_1 : decode cX7_restore 1 = .ok (.getfield 176, 3) := by decide +kernel
theorem dX7_restore_4 : decode cX7_restore 4 = .ok (.ifCond .ne 6, 3) := by decide +kernel
theorem dX7_restore_7 : decode cX7_restore 7 = .ok (.bipush (-5), 2) := by decide +kernel
theorem dX7_restore_9 : decode cX7_restore 9 = .ok (.ireturn, 1) := by decide +kernel
theorem dX7_restore_10 : decode cX7_restore 10 = .ok (.aload_n 0, 1) := by decide +kernel
theorem dX7_restore_11 : decode cX7_restore 11 = .ok (.invokevirtual 113, 3) := by decide +kernel
theorem dX7_restore_14 : decode cX7_restore 14 = .ok (.aload_n 0, 1) := by decide +kernel
theorem dX7_restore_15 : decode cX7_restore 15 = .ok (.invokevirtual 110, 3) := by decide +kernel
theorem dX7_restore_18 : decode cX7_restore 18 = .ok (.iconst 0, 1) := by decide +kernel
theorem dX7_restore_19 : decode cX7_restore 19 = .ok (.istore_n 1, 1) := by decide +kernel
theorem dX7_restore_20 : decode cX7_restore 20 = .ok (.iload_n 1, 1) := by decide +kernel
theorem dX7_restore_21 : decode cX7_restore 21 = .ok (.sipush 742, 3) := by decide +kernel
theorem dX7_restore_24 : decode cX7_restore 24 = .ok (.if_icmp .ge 21, 3) := by decide +kernel
theorem dX7_restore_27 : decode cX7_restore 27 = .ok (.aload_n 0, 1) := by decide +kernel
theorem dX7_restore_28 : decode cX7_restore 28 = .ok (.getfield 7, 3) := by decide +kernel
theorem dX7_restore_31 : decode cX7_restore 31 = .ok (.iload_n 1, 1) := by decide +kernel
theorem dX7_restore_32 : decode cX7_restore 32 = .ok (.aload_n 0, 1) := by decide +kernel
theorem dX7_restore_33 : decode cX7_restore 33 = .ok (.getfield 19, 3) := by decide +kernel
theorem dX7_restore_36 : decode cX7_restore 36 = .ok (.iload_n 1, 1) := by decide +kernel
theorem dX7_restore_37 : decode cX7_restore 37 = .ok (.iaload, 1) := by decide +kernel
theorem dX7_restore_38 : decode cX7_restore 38 = .ok (.iastore, 1) := by decide +kernel
theorem dX7_restore_39 : decode cX7_restore 39 = .ok (.iinc 1 1, 3) := by decide +kernel
theorem dX7_restore_42 : decode cX7_restore 42 = .ok (.goto (-22), 3) := by decide +kernel
theorem dX7_restore_45 : decode cX7_restore 45 = .ok (.aload_n 0, 1) := by decide +kernel
theorem dX7_restore_46 : decode cX7_restore 46 = .ok (.getfield 7, 3) := by decide +kernel
theorem dX7_restore_49 : decode cX7_restore 49 = .ok (.iconst 0, 1) := by decide +kernel
theorem dX7_restore_50 : decode cX7_restore 50 = .ok (.iaload, 1) := by decide +kernel
theorem dX7_restore_51 : decode cX7_restore 51 = .ok (.ireturn, 1) := by decide +kernel
theorem dX7_edge_0 : decode cX7_edge 0 = .ok (.iload_n 1, 1) := by decide +kernel
theorem dX7_edge_1 : decode cX7_edge 1 = .ok (.iload_n 2, 1) := by decide +kernel
theorem dX7_edge_2 : decode cX7_edge 2 = .ok (.invokestatic 71, 3) := by decide +kernel
theorem dX7_edge_5 : decode cX7_edge 5 = .ok (.istore_n 3, 1) := by decide +kernel
theorem dX7_edge_6 : decode cX7_edge 6 = .ok (.iload_n 3, 1) := by decide +kernel
theorem dX7_edge_7 : decode cX7_edge 7 = .ok (.bipush (-5), 2) := by decide +kernel
theorem dX7_edge_9 : decode cX7_edge 9 = .ok (.if_icmp .ne 7, 3) := by decide +kernel
theorem dX7_edge_12 : decode cX7_edge 12 = .ok (.iconst (-1), 1) := by decide +kernel
theorem dX7_edge_13 : decode cX7_edge 13 = .ok (.goto 12, 3) := by decide +kernel
theorem dX7_edge_16 : decode cX7_edge 16 = .ok (.aload_n 0, 1) := by decide +kernel
theorem dX7_edge_17 : decode cX7_edge 17 = .ok (.getfield 7, 3) := by decide +kernel
theorem dX7_edge_20 : decode cX7_edge 20 = .ok (.bipush 12, 2) := by decide +kernel
theorem dX7_edge_22 : decode cX7_edge 22 = .ok (.iload_n 3, 1) := by decide +kernel
theorem dX7_edge_23 : decode cX7_edge 23 = .ok (.iadd, 1) := by decide +kernel
theorem dX7_edge_24 : decode cX7_edge 24 = .ok (.iaload, 1) := by decide +kernel
theorem dX7_edge_25 : decode cX7_edge 25 = .ok (.ireturn, 1) := by decide +kernel
theorem dX7_edgesOf_0 : decode cX7_edgesOf 0 = .ok (.iconst 0, 1) := by decide +kernel
theorem dX7_edgesOf_1 : decode cX7_edgesOf 1 = .ok (.istore_n 2, 1) := by decide +kernel
theorem dX7_edgesOf_2 : decode cX7_edgesOf 2 = .ok (.iconst 0, 1) := by decide +kernel
theorem dX7_edgesOf_3 : decode cX7_edgesOf 3 = .ok (.istore_n 3, 1) := by decide +kernel
theorem dX7_edgesOf_4 : decode cX7_edgesOf 4 = .ok (.iload_n 3, 1) := by decide +kernel
theorem dX7_edgesOf_5 : decode cX7_edgesOf 5 = .ok (.iconst 4, 1) := by decide +kernel
theorem dX7_edgesOf_6 : decode cX7_edgesOf 6 = .ok (.if_icmp .ge 44, 3) := by decide +kernel
theorem dX7_edgesOf_9 : decode cX7_edgesOf 9 = .ok (.iload_n 1, 1) := by decide +kernel
theorem dX7_edgesOf_10 : decode cX7_edgesOf 10 = .ok (.iload_n 3, 1) := by decide +kernel
theorem dX7_edgesOf_11 : decode cX7_edgesOf 11 = .ok (.invokestatic 71, 3) := by decide +kernel
theorem dX7_edgesOf_14 : decode cX7_edgesOf 14 = .ok (.istore 4, 2) := by decide +kernel
theorem dX7_edgesOf_16 : decode cX7_edgesOf 16 = .ok (.iload_n 2, 1) := by decide +kernel
theorem dX7_edgesOf_17 : decode cX7_edgesOf 17 = .ok (.iload 4, 2) := by decide +kernel
theorem dX7_edgesOf_19 : decode cX7_edgesOf 19 = .ok (.bipush (-5), 2) := by decide +kernel
theorem dX7_edgesOf_21 : decode cX7_edgesOf 21 = .ok (.if_icmp .eq 20, 3) := by decide +kernel
theorem dX7_edgesOf_24 : decode cX7_edgesOf 24 = .ok (.aload_n 0, 1) := by decide +kernel
theorem dX7_edgesOf_25 : decode cX7_edgesOf 25 = .ok (.getfield 7, 3) := by decide +kernel
theorem dX7_edgesOf_28 : decode cX7_edgesOf 28 = .ok (.bipush 12, 2) := by decide +kernel
theorem dX7_edgesOf_30 : decode cX7_edgesOf 30 = .ok (.iload 4, 2) := by decide +kernel
theorem dX7_edgesOf_32 : decode cX7_edgesOf 32 = .ok (.iadd, 1) := by decide +kernel
theorem dX7_edgesOf_33 : decode cX7_edgesOf 33 = .ok (.iaload, 1) := by decide +kernel
theorem dX7_edgesOf_34 : decode cX7_edgesOf 34 = .ok (.ifCond .le 7, 3) := by decide +kernel
theorem dX7_edgesOf_37 : decode cX7_edgesOf 37 = .ok (.iconst 1, 1) := by decide +kernel
theorem dX7_edgesOf_38 : decode cX7_edgesOf 38 = .ok (.goto 4, 3) := by decide +kernel
theorem dX7_edgesOf_41 : decode cX7_edgesOf 41 = .ok (.iconst 0, 1) := by decide +kernel
theorem dX7_edgesOf_42 : decode cX7_edgesOf 42 = .ok (.iadd, 1) := by decide +kernel
theorem dX7_edgesOf_43 : decode cX7_edgesOf 43 = .ok (.istore_n 2, 1) := by decide +kernel
theorem dX7_edgesOf_44 : decode cX7_edgesOf 44 = .ok (.iinc 3 1, 3) := by decide +kernel
theorem dX7_edgesOf_47 : decode cX7_edgesOf 47 = .ok (.goto (-43), 3) := by decide +kernel
theorem dX7_edgesOf_50 : decode cX7_edgesOf 50 = .ok (.iload_n 2, 1) := by decide +kernel
theorem dX7_edgesOf_51 : decode cX7_edgesOf 51 = .ok (.ireturn, 1) := by decide +kernel
theorem dX7_field_0 : decode cX7_field 0 = .ok (.iload_n 1, 1) := by decide +kernel
theorem dX7_field_1 : decode cX7_field 1 = .ok (.invokestatic 50, 3) := by decide +kernel
theorem dX7_field_4 : decode cX7_field 4 = .ok (.ifCond .ne 5, 3) := by decide +kernel
theorem dX7_field_7 : decode cX7_field 7 = .ok (.iconst (-1), 1) := by decide +kernel
theorem dX7_field_8 : decode cX7_field 8 = .ok (.ireturn, 1) := by decide +kernel
theorem dX7_field_9 : decode cX7_field 9 = .ok (.iload_n 2, 1) := by decide +kernel
theorem dX7_field_10 : decode cX7_field 10 = .ok (.tableswitch 68 0 4 #[34, 44, 50, 56, 62], 34) := by decide +kernel
theorem dX7_field_44 : decode cX7_field 44 = .ok (.aload_n 0, 1) := by decide +kernel
theorem dX7_field_45 : decode cX7_field 45 = .ok (.getfield 7, 3) := by decide +kernel
theorem dX7_field_48 : decode cX7_field 48 = .ok (.bipush 94, 2) := by decide +kernel
theorem dX7_field_50 : decode cX7_field 50 = .ok (.iload_n 1, 1) := by decide +kernel
theorem dX7_field_51 : decode cX7_field 51 = .ok (.iadd, 1) := by decide +kernel
theorem dX7_field_52 : decode cX7_field 52 = .ok (.iaload, 1) := by decide +kernel
theorem dX7_field_53 : decode cX7_field 53 = .ok (.ireturn, 1) := by decide +kernel
theorem dX7_field_54 : decode cX7_field 54 = .ok (.aload_n 0, 1) := by decide +kernel
theorem dX7_field_55 : decode cX7_field 55 = .ok (.iload_n 1, 1) := by decide +kernel
theorem dX7_field_56 : decode cX7_field 56 = .ok (.invokevirtual 61, 3) := by decide +kernel
theorem dX7_field_59 : decode cX7_field 59 = .ok (.ireturn, 1) := by decide +kernel
theorem dX7_field_60 : decode cX7_field 60 = .ok (.aload_n 0, 1) := by decide +kernel
theorem dX7_field_61 : decode cX7_field 61 = .ok (.iload_n 1, 1) := by decide +kernel
theorem dX7_field_62 : decode cX7_field 62 = .ok (.invokevirtual 179, 3) := by decide +kernel
theorem dX7_field_65 : decode cX7_field 65 = .ok (.ireturn, 1) := by decide +kernel
theorem dX7_field_66 : decode cX7_field 66 = .ok (.aload_n 0, 1) := by decide +kernel
theorem dX7_field_67 : decode cX7_field 67 = .ok (.iload_n 1, 1) := by decide +kernel
theorem dX7_field_68 : decode cX7_field 68 = .ok (.invokevirtual 182, 3) := by decide +kernel
theorem dX7_field_71 : decode cX7_field 71 = .ok (.ireturn, 1) := by decide +kernel
theorem dX7_field_72 : decode cX7_field 72 = .ok (.aload_n 0, 1) := by decide +kernel
theorem dX7_field_73 : decode cX7_field 73 = .ok (.iload_n 1, 1) := by decide +kernel
theorem dX7_field_74 : decode cX7_field 74 = .ok (.invokevirtual 185, 3) := by decide +kernel
theorem dX7_field_77 : decode cX7_field 77 = .ok (.ireturn, 1) := by decide +kernel
theorem dX7_field_78 : decode cX7_field 78 = .ok (.bipush (-2), 2) := by decide +kernel
theorem dX7_field_80 : decode cX7_field 80 = .ok (.ireturn, 1) := by decide +kernel
theorem dX7_joined_0 : decode cX7_joined 0 = .ok (.iload_n 1, 1) := by decide +kernel
theorem dX7_joined_1 : decode cX7_joined 1 = .ok (.invokestatic 50, 3) := by decide +kernel
theorem dX7_joined_4 : decode cX7_joined 4 = .ok (.ifCond .eq 11, 3) := by decide +kernel
theorem dX7_joined_7 : decode cX7_joined 7 = .ok (.aload_n 0, 1) := by decide +kernel
theorem dX7_joined_8 : decode cX7_joined 8 = .ok (.iload_n 1, 1) := by decide +kernel
theorem dX7_joined_9 : decode cX7_joined 9 = .ok (.invokevirtual 61, 3) := by decide +kernel
theorem dX7_joined_12 : decode cX7_joined 12 = .ok (.goto 4, 3) := by decide +kernel
theorem dX7_joined_15 : decode cX7_joined 15 = .ok (.iconst (-1), 1) := by decide +kernel
theorem dX7_joined_16 : decode cX7_joined 16 = .ok (.ireturn, 1) := by decide +kernel
theorem dX7_letter_0 : decode cX7_letter 0 = .ok (.aload_n 0, 1) := by decide +kernel
theorem dX7_letter_1 : decode cX7_letter 1 = .ok (.iload_n 1, 1) := by decide +kernel
theorem dX7_letter_2 : decode cX7_letter 2 = .ok (.invokevirtual 123, 3) := by decide +kernel
theorem dX7_letter_5 : decode cX7_letter 5 = .ok (.ifCond .ne 7, 3) := by decide +kernel
theorem dX7_letter_8 : decode cX7_letter 8 = .ok (.iconst (-1), 1) := by decide +kernel
theorem dX7_letter_9 : decode cX7_letter 9 = .ok (.goto 24, 3) := by decide +kernel
theorem dX7_letter_12 : decode cX7_letter 12 = .ok (.iload_n 2, 1) := by decide +kernel
theorem dX7_letter_13 : decode cX7_letter 13 = .ok (.iconst 0, 1) := by decide +kernel
theorem dX7_letter_14 : decode cX7_letter 14 = .ok (.bipush 9, 2) := by decide +kernel
theorem dX7_letter_16 : decode cX7_letter 16 = .ok (.invokestatic 39, 3) := by decide +kernel
theorem dX7_letter_19 : decode cX7_letter 19 = .ok (.ifCond .eq 12, 3) := by decide +kernel
theorem dX7_letter_22 : decode cX7_letter 22 = .ok (.aload_n 0, 1) := by decide +kernel
theorem dX7_letter_23 : decode cX7_letter 23 = .ok (.iload_n 1, 1) := by decide +kernel
theorem dX7_letter_24 : decode cX7_letter 24 = .ok (.iload_n 2, 1) := by decide +kernel
theorem dX7_letter_25 : decode cX7_letter 25 = .ok (.invokevirtual 68, 3) := by decide +kernel
theorem dX7_letter_28 : decode cX7_letter 28 = .ok (.goto 5, 3) := by decide +kernel
theorem dX7_letter_31 : decode cX7_letter 31 = .ok (.bipush (-2), 2) := by decide +kernel
theorem dX7_letter_33 : decode cX7_letter 33 = .ok (.ireturn, 1) := by decide +kernel
theorem dX7_cross_0 : decode cX7_cross 0 = .ok (.aload_n 0, 1) := by decide +kernel
theorem dX7_cross_1 : decode cX7_cross 1 = .ok (.iload_n 1, 1) := by decide +kernel
theorem dX7_cross_2 : decode cX7_cross 2 = .ok (.bipush 6, 2) := by decide +kernel
theorem dX7_cross_4 : decode cX7_cross 4 = .ok (.invokevirtual 68, 3) := by decide +kernel
theorem dX7_cross_7 : decode cX7_cross 7 = .ok (.iconst 3, 1) := by decide +kernel
theorem dX7_cross_8 : decode cX7_cross 8 = .ok (.if_icmp .eq 14, 3) := by decide +kernel
theorem dX7_cross_11 : decode cX7_cross 11 = .ok (.aload_n 0, 1) := by decide +kernel
theorem dX7_cross_12 : decode cX7_cross 12 = .ok (.iload_n 2, 1) := by decide +kernel
theorem dX7_cross_13 : decode cX7_cross 13 = .ok (.bipush 6, 2) := by decide +kernel
theorem dX7_cross_15 : decode cX7_cross 15 = .ok (.invokevirtual 68, 3) := by decide +kernel
theorem dX7_cross_18 : decode cX7_cross 18 = .ok (.iconst 3, 1) := by decide +kernel
theorem dX7_cross_19 : decode cX7_cross 19 = .ok (.if_icmp .ne 7, 3) := by decide +kernel
theorem dX7_cross_22 : decode cX7_cross 22 = .ok (.iconst 1, 1) := by decide +kernel
theorem dX7_cross_23 : decode cX7_cross 23 = .ok (.goto 4, 3) := by decide +kernel
theorem dX7_cross_26 : decode cX7_cross 26 = .ok (.iconst 0, 1) := by decide +kernel
theorem dX7_cross_27 : decode cX7_cross 27 = .ok (.istore_n 3, 1) := by decide +kernel
theorem dX7_cross_28 : decode cX7_cross 28 = .ok (.iload_n 3, 1) := by decide +kernel
theorem dX7_cross_29 : decode cX7_cross 29 = .ok (.ifCond .ne 52, 3) := by decide +kernel
theorem dX7_cross_32 : decode cX7_cross 32 = .ok (.aload_n 0, 1) := by decide +kernel
theorem dX7_cross_33 : decode cX7_cross 33 = .ok (.iload_n 1, 1) := by decide +kernel
theorem dX7_cross_34 : decode cX7_cross 34 = .ok (.iconst 0, 1) := by decide +kernel
theorem dX7_cross_35 : decode cX7_cross 35 = .ok (.invokevirtual 68, 3) := by decide +kernel
theorem dX7_cross_38 : decode cX7_cross 38 = .ok (.aload_n 0, 1) := by decide +kernel
theorem dX7_cross_39 : decode cX7_cross 39 = .ok (.iload_n 2, 1) := by decide +kernel
theorem dX7_cross_40 : decode cX7_cross 40 = .ok (.iconst 0, 1) := by decide +kernel
theorem dX7_cross_41 : decode cX7_cross 41 = .ok (.invokevirtual 68, 3) := by decide +kernel
theorem dX7_cross_44 : decode cX7_cross 44 = .ok (.if_icmp .eq 37, 3) := by decide +kernel
theorem dX7_cross_47 : decode cX7_cross 47 = .ok (.aload_n 0, 1) := by decide +kernel
theorem dX7_cross_48 : decode cX7_cross 48 = .ok (.iload_n 1, 1) := by decide +kernel
theorem dX7_cross_49 : decode cX7_cross 49 = .ok (.iconst 4, 1) := by decide +kernel
theorem dX7_cross_50 : decode cX7_cross 50 = .ok (.invokevirtual 68, 3) := by decide +kernel
theorem dX7_cross_53 : decode cX7_cross 53 = .ok (.aload_n 0, 1) := by decide +kernel
theorem dX7_cross_54 : decode cX7_cross 54 = .ok (.iload_n 2, 1) := by decide +kernel
theorem dX7_cross_55 : decode cX7_cross 55 = .ok (.iconst 5, 1) := by decide +kernel
theorem dX7_cross_56 : decode cX7_cross 56 = .ok (.invokevirtual 68, 3) := by decide +kernel
theorem dX7_cross_59 : decode cX7_cross 59 = .ok (.if_icmp .ge 22, 3) := by decide +kernel
theorem dX7_cross_62 : decode cX7_cross 62 = .ok (.aload_n 0, 1) := by decide +kernel
theorem dX7_cross_63 : decode cX7_cross 63 = .ok (.iload_n 2, 1) := by decide +kernel
theorem dX7_cross_64 : decode cX7_cross 64 = .ok (.iconst 4, 1) := by decide +kernel
theorem dX7_cross_65 : decode cX7_cross 65 = .ok (.invokevirtual 68, 3) := by decide +kernel
theorem dX7_cross_68 : decode cX7_cross 68 = .ok (.aload_n 0, 1) := by decide +kernel
theorem dX7_cross_69 : decode cX7_cross 69 = .ok (.iload_n 1, 1) := by decide +kernel
theorem dX7_cross_70 : decode cX7_cross 70 = .ok (.iconst 5, 1) := by decide +kernel
theorem dX7_cross_71 : decode cX7_cross 71 = .ok (.invokevirtual 68, 3) := by decide +kernel
theorem dX7_cross_74 : decode cX7_cross 74 = .ok (.if_icmp .ge 7, 3) := by decide +kernel
theorem dX7_cross_77 : decode cX7_cross 77 = .ok (.iconst 1, 1) := by decide +kernel
theorem dX7_cross_78 : decode cX7_cross 78 = .ok (.goto 4, 3) := by decide +kernel
theorem dX7_cross_81 : decode cX7_cross 81 = .ok (.iconst 0, 1) := by decide +kernel
theorem dX7_cross_82 : decode cX7_cross 82 = .ok (.ireturn, 1) := by decide +kernel
theorem dX7_crossed_0 : decode cX7_crossed 0 = .ok (.aload_n 0, 1) := by decide +kernel
theorem dX7_crossed_1 : decode cX7_crossed 1 = .ok (.iload_n 1, 1) := by decide +kernel
theorem dX7_crossed_2 : decode cX7_crossed 2 = .ok (.invokevirtual 123, 3) := by decide +kernel
theorem dX7_crossed_5 : decode cX7_crossed 5 = .ok (.ifCond .eq 11, 3) := by decide +kernel
theorem dX7_crossed_8 : decode cX7_crossed 8 = .ok (.aload_n 0, 1) := by decide +kernel
theorem dX7_crossed_9 : decode cX7_crossed 9 = .ok (.iload_n 2, 1) := by decide +kernel
theorem dX7_crossed_10 : decode cX7_crossed 10 = .ok (.invokevirtual 123, 3) := by decide +kernel
theorem dX7_crossed_13 : decode cX7_crossed 13 = .ok (.ifCond .ne 5, 3) := by decide +kernel
theorem dX7_crossed_16 : decode cX7_crossed 16 = .ok (.iconst (-1), 1) := by decide +kernel
theorem dX7_crossed_17 : decode cX7_crossed 17 = .ok (.ireturn, 1) := by decide +kernel
theorem dX7_crossed_18 : decode cX7_crossed 18 = .ok (.iload_n 1, 1) := by decide +kernel
theorem dX7_crossed_19 : decode cX7_crossed 19 = .ok (.iload_n 2, 1) := by decide +kernel
theorem dX7_crossed_20 : decode cX7_crossed 20 = .ok (.if_icmp .ne 8, 3) := by decide +kernel
theorem dX7_crossed_23 : decode cX7_crossed 23 = .ok (.bipush (-2), 2) := by decide +kernel
theorem dX7_crossed_25 : decode cX7_crossed 25 = .ok (.goto 17, 3) := by decide +kernel
theorem dX7_crossed_28 : decode cX7_crossed 28 = .ok (.aload_n 0, 1) := by decide +kernel
theorem dX7_crossed_29 : decode cX7_crossed 29 = .ok (.iload_n 1, 1) := by decide +kernel
theorem dX7_crossed_30 : decode cX7_crossed 30 = .ok (.iload_n 2, 1) := by decide +kernel
theorem dX7_crossed_31 : decode cX7_crossed 31 = .ok (.invokevirtual 188, 3) := by decide +kernel
theorem dX7_crossed_34 : decode cX7_crossed 34 = .ok (.ifCond .eq 7, 3) := by decide +kernel
theorem dX7_crossed_37 : decode cX7_crossed 37 = .ok (.iconst 1, 1) := by decide +kernel
theorem dX7_crossed_38 : decode cX7_crossed 38 = .ok (.goto 4, 3) := by decide +kernel
theorem dX7_crossed_41 : decode cX7_crossed 41 = .ok (.iconst 0, 1) := by decide +kernel
theorem dX7_crossed_42 : decode cX7_crossed 42 = .ok (.ireturn, 1) := by decide +kernel
theorem dX7_reasonEdge_0 : decode cX7_reasonEdge 0 = .ok (.iload_n 2, 1) := by decide +kernel
theorem dX7_reasonEdge_1 : decode cX7_reasonEdge 1 = .ok (.iload_n 3, 1) := by decide +kernel
theorem dX7_reasonEdge_2 : decode cX7_reasonEdge 2 = .ok (.invokestatic 71, 3) := by decide +kernel
theorem dX7_reasonEdge_5 : decode cX7_reasonEdge 5 = .ok (.istore 4, 2) := by decide +kernel
theorem dX7_reasonEdge_7 : decode cX7_reasonEdge 7 = .ok (.iload 4, 2) := by decide +kernel
theorem dX7_reasonEdge_9 : decode cX7_reasonEdge 9 = .ok (.bipush (-5), 2) := by decide +kernel
theorem dX7_reasonEdge_11 : decode cX7_reasonEdge 11 = .ok (.if_icmp .ne 7, 3) := by decide +kernel
theorem dX7_reasonEdge_14 : decode cX7_reasonEdge 14 = .ok (.iconst (-1), 1) := by decide +kernel
theorem dX7_reasonEdge_15 : decode cX7_reasonEdge 15 = .ok (.goto 10, 3) := by decide +kernel
theorem dX7_reasonEdge_18 : decode cX7_reasonEdge 18 = .ok (.aload_n 0, 1) := by decide +kernel
theorem dX7_reasonEdge_19 : decode cX7_reasonEdge 19 = .ok (.iload_n 1, 1) := by decide +kernel
theorem dX7_reasonEdge_20 : decode cX7_reasonEdge 20 = .ok (.iload 4, 2) := by decide +kernel
theorem dX7_reasonEdge_22 : decode cX7_reasonEdge 22 = .ok (.invokevirtual 77, 3) := by decide +kernel
theorem dX7_reasonEdge_25 : decode cX7_reasonEdge 25 = .ok (.ireturn, 1) := by decide +kernel
theorem dX7_reasonClaim_0 : decode cX7_reasonClaim 0 = .ok (.iload_n 1, 1) := by decide +kernel
theorem dX7_reasonClaim_1 : decode cX7_reasonClaim 1 = .ok (.invokestatic 50, 3) := by decide +kernel
theorem dX7_reasonClaim_4 : decode cX7_reasonClaim 4 = .ok (.ifCond .eq 11, 3) := by decide +kernel
theorem dX7_reasonClaim_7 : decode cX7_reasonClaim 7 = .ok (.aload_n 0, 1) := by decide +kernel
theorem dX7_reasonClaim_8 : decode cX7_reasonClaim 8 = .ok (.iload_n 1, 1) := by decide +kernel
theorem dX7_reasonClaim_9 : decode cX7_reasonClaim 9 = .ok (.invokevirtual 81, 3) := by decide +kernel
theorem dX7_reasonClaim_12 : decode cX7_reasonClaim 12 = .ok (.goto 4, 3) := by decide +kernel
theorem dX7_reasonClaim_15 : decode cX7_reasonClaim 15 = .ok (.iconst (-1), 1) := by decide +kernel
theorem dX7_reasonClaim_16 : decode cX7_reasonClaim 16 = .ok (.ireturn, 1) := by decide +kernel
theorem dX7_nextLetter_0 : decode cX7_nextLetter 0 = .ok (.bipush (-5), 2) := by decide +kernel
theorem dX7_nextLetter_2 : decode cX7_nextLetter 2 = .ok (.istore_n 1, 1) := by decide +kernel
theorem dX7_nextLetter_3 : decode cX7_nextLetter 3 = .ok (.aload_n 0, 1) := by decide +kernel
theorem dX7_nextLetter_4 : decode cX7_nextLetter 4 = .ok (.getfield 7, 3) := by decide +kernel
theorem dX7_nextLetter_7 : decode cX7_nextLetter 7 = .ok (.iconst 1, 1) := by decide +kernel
theorem dX7_nextLetter_8 : decode cX7_nextLetter 8 = .ok (.iaload, 1) := by decide +kernel
theorem dX7_nextLetter_9 : decode cX7_nextLetter 9 = .ok (.iconst 1, 1) := by decide +kernel
theorem dX7_nextLetter_10 : decode cX7_nextLetter 10 = .ok (.isub, 1) := by decide +kernel
theorem dX7_nextLetter_11 : decode cX7_nextLetter 11 = .ok (.istore_n 2, 1) := by decide +kernel
theorem dX7_nextLetter_12 : decode cX7_nextLetter 12 = .ok (.iload_n 2, 1) := by decide +kernel
theorem dX7_nextLetter_13 : decode cX7_nextLetter 13 = .ok (.ifCond .lt 46, 3) := by decide +kernel
theorem dX7_nextLetter_16 : decode cX7_nextLetter 16 = .ok (.aload_n 0, 1) := by decide +kernel
theorem dX7_nextLetter_17 : decode cX7_nextLetter 17 = .ok (.iload_n 2, 1) := by decide +kernel
theorem dX7_nextLetter_18 : decode cX7_nextLetter 18 = .ok (.bipush 6, 2) := by decide +kernel
theorem dX7_nextLetter_20 : decode cX7_nextLetter 20 = .ok (.invokevirtual 68, 3) := by decide +kernel
theorem dX7_nextLetter_23 : decode cX7_nextLetter 23 = .ok (.ifCond .ne 28, 3) := by decide +kernel
theorem dX7_nextLetter_26 : decode cX7_nextLetter 26 = .ok (.iload_n 1, 1) := by decide +kernel
theorem dX7_nextLetter_27 : decode cX7_nextLetter 27 = .ok (.bipush (-5), 2) := by decide +kernel
theorem dX7_nextLetter_29 : decode cX7_nextLetter 29 = .ok (.if_icmp .eq 18, 3) := by decide +kernel
theorem dX7_nextLetter_32 : decode cX7_nextLetter 32 = .ok (.aload_n 0, 1) := by decide +kernel
theorem dX7_nextLetter_33 : decode cX7_nextLetter 33 = .ok (.iload_n 2, 1) := by decide +kernel
theorem dX7_nextLetter_34 : decode cX7_nextLetter 34 = .ok (.iconst 5, 1) := by decide +kernel
theorem dX7_nextLetter_35 : decode cX7_nextLetter 35 = .ok (.invokevirtual 68, 3) := by decide +kernel
theorem dX7_nextLetter_38 : decode cX7_nextLetter 38 = .ok (.aload_n 0, 1) := by decide +kernel
theorem dX7_nextLetter_39 : decode cX7_nextLetter 39 = .ok (.iload_n 1, 1) := by decide +kernel
theorem dX7_nextLetter_40 : decode cX7_nextLetter 40 = .ok (.iconst 5, 1) := by decide +kernel
theorem dX7_nextLetter_41 : decode cX7_nextLetter 41 = .ok (.invokevirtual 68, 3) := by decide +kernel
theorem dX7_nextLetter_44 : decode cX7_nextLetter 44 = .ok (.if_icmp .gt 7, 3) := by decide +kernel
theorem dX7_nextLetter_47 : decode cX7_nextLetter 47 = .ok (.iload_n 2, 1) := by decide +kernel
theorem dX7_nextLetter_48 : decode cX7_nextLetter 48 = .ok (.goto 4, 3) := by decide +kernel
theorem dX7_nextLetter_51 : decode cX7_nextLetter 51 = .ok (.iload_n 1, 1) := by decide +kernel
theorem dX7_nextLetter_52 : decode cX7_nextLetter 52 = .ok (.istore_n 1, 1) := by decide +kernel
theorem dX7_nextLetter_53 : decode cX7_nextLetter 53 = .ok (.iinc 2 (-1), 3) := by decide +kernel
theorem dX7_nextLetter_56 : decode cX7_nextLetter 56 = .ok (.goto (-44), 3) := by decide +kernel
theorem dX7_nextLetter_59 : decode cX7_nextLetter 59 = .ok (.iload_n 1, 1) := by decide +kernel
theorem dX7_nextLetter_60 : decode cX7_nextLetter 60 = .ok (.ireturn, 1) := by decide +kernel
theorem dX7_next_0 : decode cX7_next 0 = .ok (.iload_n 1, 1) := by decide +kernel
theorem dX7_next_1 : decode cX7_next 1 = .ok (.iconst 0, 1) := by decide +kernel
theorem dX7_next_2 : decode cX7_next 2 = .ok (.iconst 1, 1) := by decide +kernel
theorem dX7_next_3 : decode cX7_next 3 = .ok (.invokestatic 39, 3) := by decide +kernel
theorem dX7_next_6 : decode cX7_next 6 = .ok (.ifCond .ne 6, 3) := by decide +kernel
theorem dX7_next_9 : decode cX7_next 9 = .ok (.bipush (-2), 2) := by decide +kernel
theorem dX7_next_11 : decode cX7_next 11 = .ok (.ireturn, 1) := by decide +kernel
theorem dX7_next_12 : decode cX7_next 12 = .ok (.aload_n 0, 1) := by decide +kernel
theorem dX7_next_13 : decode cX7_next 13 = .ok (.invokevirtual 191, 3) := by decide +kernel
theorem dX7_next_16 : decode cX7_next 16 = .ok (.istore_n 2, 1) := by decide +kernel
theorem dX7_next_17 : decode cX7_next 17 = .ok (.iload_n 2, 1) := by decide +kernel
theorem dX7_next_18 : decode cX7_next 18 = .ok (.bipush (-5), 2) := by decide +kernel
theorem dX7_next_20 : decode cX7_next 20 = .ok (.if_icmp .eq 7, 3) := by decide +kernel
theorem dX7_next_23 : decode cX7_next 23 = .ok (.iload_n 1, 1) := by decide +kernel
theorem dX7_next_24 : decode cX7_next 24 = .ok (.ifCond .ne 7, 3) := by decide +kernel
theorem dX7_next_27 : decode cX7_next 27 = .ok (.iload_n 2, 1) := by decide +kernel
theorem dX7_next_28 : decode cX7_next 28 = .ok (.goto 16, 3) := by decide +kernel
theorem dX7_next_31 : decode cX7_next 31 = .ok (.aload_n 0, 1) := by decide +kernel
theorem dX7_next_32 : decode cX7_next 32 = .ok (.iload_n 2, 1) := by decide +kernel
theorem dX7_next_33 : decode cX7_next 33 = .ok (.iconst 5, 1) := by decide +kernel
theorem dX7_next_34 : decode cX7_next 34 = .ok (.invokevirtual 68, 3) := by decide +kernel
theorem dX7_next_37 : decode cX7_next 37 = .ok (.aload_n 0, 1) := by decide +kernel
theorem dX7_next_38 : decode cX7_next 38 = .ok (.getfield 7, 3) := by decide +kernel
theorem dX7_next_41 : decode cX7_next 41 = .ok (.iconst 0, 1) := by decide +kernel
theorem dX7_next_42 : decode cX7_next 42 = .ok (.iaload, 1) := by decide +kernel
theorem dX7_next_43 : decode cX7_next 43 = .ok (.isub, 1) := by decide +kernel
theorem dX7_next_44 : decode cX7_next 44 = .ok (.ireturn, 1) := by decide +kernel
theorem dX7_lettersThat_0 : decode cX7_lettersThat 0 = .ok (.iconst 0, 1) := by decide +kernel
theorem dX7_lettersThat_1 : decode cX7_lettersThat 1 = .ok (.istore_n 2, 1) := by decide +kernel
theorem dX7_lettersThat_2 : decode cX7_lettersThat 2 = .ok (.iconst 0, 1) := by decide +kernel
theorem dX7_lettersThat_3 : decode cX7_lettersThat 3 = .ok (.istore_n 3, 1) := by decide +kernel
theorem dX7_lettersThat_4 : decode cX7_lettersThat 4 = .ok (.iload_n 3, 1) := by decide +kernel
theorem dX7_lettersThat_5 : decode cX7_lettersThat 5 = .ok (.aload_n 0, 1) := by decide +kernel
theorem dX7_lettersThat_6 : decode cX7_lettersThat 6 = .ok (.getfield 7, 3) := by decide +kernel
theorem dX7_lettersThat_9 : decode cX7_lettersThat 9 = .ok (.iconst 1, 1) := by decide +kernel
theorem dX7_lettersThat_10 : decode cX7_lettersThat 10 = .ok (.iaload, 1) := by decide +kernel
theorem dX7_lettersThat_11 : decode cX7_lettersThat 11 = .ok (.if_icmp .ge 28, 3) := by decide +kernel
theorem dX7_lettersThat_14 : decode cX7_lettersThat 14 = .ok (.iload_n 2, 1) := by decide +kernel
theorem dX7_lettersThat_15 : decode cX7_lettersThat 15 = .ok (.aload_n 0, 1) := by decide +kernel
theorem dX7_lettersThat_16 : decode cX7_lettersThat 16 = .ok (.iload_n 3, 1) := by decide +kernel
theorem dX7_lettersThat_17 : decode cX7_lettersThat 17 = .ok (.bipush 6, 2) := by decide +kernel
theorem dX7_lettersThat_19 : decode cX7_lettersThat 19 = .ok (.invokevirtual 68, 3) := by decide +kernel
theorem dX7_lettersThat_22 : decode cX7_lettersThat 22 = .ok (.iload_n 1, 1) := by decide +kernel
theorem dX7_lettersThat_23 : decode cX7_lettersThat 23 = .ok (.if_icmp .ne 7, 3) := by decide +kernel
theorem dX7_lettersThat_26 : decode cX7_lettersThat 26 = .ok (.iconst 1, 1) := by decide +kernel
theorem dX7_lettersThat_27 : decode cX7_lettersThat 27 = .ok (.goto 4, 3) := by decide +kernel
theorem dX7_lettersThat_30 : decode cX7_lettersThat 30 = .ok (.iconst 0, 1) := by decide +kernel
theorem dX7_lettersThat_31 : decode cX7_lettersThat 31 = .ok (.iadd, 1) := by decide +kernel
theorem dX7_lettersThat_32 : decode cX7_lettersThat 32 = .ok (.istore_n 2, 1) := by decide +kernel
theorem dX7_lettersThat_33 : decode cX7_lettersThat 33 = .ok (.iinc 3 1, 3) := by decide +kernel
theorem dX7_lettersThat_36 : decode cX7_lettersThat 36 = .ok (.goto (-32), 3) := by decide +kernel
theorem dX7_lettersThat_39 : decode cX7_lettersThat 39 = .ok (.iload_n 2, 1) := by decide +kernel
theorem dX7_lettersThat_40 : decode cX7_lettersThat 40 = .ok (.ireturn, 1) := by decide +kernel
theorem dX7_edgesThat_0 : decode cX7_edgesThat 0 = .ok (.iconst 0, 1) := by decide +kernel
theorem dX7_edgesThat_1 : decode cX7_edgesThat 1 = .ok (.istore_n 2, 1) := by decide +kernel
theorem dX7_edgesThat_2 : decode cX7_edgesThat 2 = .ok (.iconst 0, 1) := by decide +kernel
theorem dX7_edgesThat_3 : decode cX7_edgesThat 3 = .ok (.istore_n 3, 1) := by decide +kernel
theorem dX7_edgesThat_4 : decode cX7_edgesThat 4 = .ok (.iload_n 3, 1) := by decide +kernel
theorem dX7_edgesThat_5 : decode cX7_edgesThat 5 = .ok (.bipush 82, 2) := by decide +kernel
theorem dX7_edgesThat_7 : decode cX7_edgesThat 7 = .ok (.if_icmp .ge 30, 3) := by decide +kernel
theorem dX7_edgesThat_10 : decode cX7_edgesThat 10 = .ok (.iload_n 2, 1) := by decide +kernel
theorem dX7_edgesThat_11 : decode cX7_edgesThat 11 = .ok (.aload_n 0, 1) := by decide +kernel
theorem dX7_edgesThat_12 : decode cX7_edgesThat 12 = .ok (.getfield 7, 3) := by decide +kernel
theorem dX7_edgesThat_15 : decode cX7_edgesThat 15 = .ok (.bipush 12, 2) := by decide +kernel
theorem dX7_edgesThat_17 : decode cX7_edgesThat 17 = .ok (.iload_n 3, 1) := by decide +kernel
theorem dX7_edgesThat_18 : decode cX7_edgesThat 18 = .ok (.iadd, 1) := by decide +kernel
theorem dX7_edgesThat_19 : decode cX7_edgesThat 19 = .ok (.iaload, 1) := by decide +kernel
theorem dX7_edgesThat_20 : decode cX7_edgesThat 20 = .ok (.iload_n 1, 1) := by decide +kernel
theorem dX7_edgesThat_21 : decode cX7_edgesThat 21 = .ok (.if_icmp .ne 7, 3) := by decide +kernel
theorem dX7_edgesThat_24 : decode cX7_edgesThat 24 = .ok (.iconst 1, 1) := by decide +kernel
theorem dX7_edgesThat_25 : decode cX7_edgesThat 25 = .ok (.goto 4, 3) := by decide +kernel
theorem dX7_edgesThat_28 : decode cX7_edgesThat 28 = .ok (.iconst 0, 1) := by decide +kernel
theorem dX7_edgesThat_29 : decode cX7_edgesThat 29 = .ok (.iadd, 1) := by decide +kernel
theorem dX7_edgesThat_30 : decode cX7_edgesThat 30 = .ok (.istore_n 2, 1) := by decide +kernel
theorem dX7_edgesThat_31 : decode cX7_edgesThat 31 = .ok (.iinc 3 1, 3) := by decide +kernel
theorem dX7_edgesThat_34 : decode cX7_edgesThat 34 = .ok (.goto (-30), 3) := by decide +kernel
theorem dX7_edgesThat_37 : decode cX7_edgesThat 37 = .ok (.iload_n 2, 1) := by decide +kernel
theorem dX7_edgesThat_38 : decode cX7_edgesThat 38 = .ok (.ireturn, 1) := by decide +kernel
theorem dX7_fieldsOf_0 : decode cX7_fieldsOf 0 = .ok (.iconst 0, 1) := by decide +kernel
theorem dX7_fieldsOf_1 : decode cX7_fieldsOf 1 = .ok (.istore_n 2, 1) := by decide +kernel
theorem dX7_fieldsOf_2 : decode cX7_fieldsOf 2 = .ok (.iconst 0, 1) := by decide +kernel
theorem dX7_fieldsOf_3 : decode cX7_fieldsOf 3 = .ok (.istore_n 3, 1) := by decide +kernel
theorem dX7_fieldsOf_4 : decode cX7_fieldsOf 4 = .ok (.iload_n 3, 1) := by decide +kernel
theorem dX7_fieldsOf_5 : decode cX7_fieldsOf 5 = .ok (.bipush 48, 2) := by decide +kernel
theorem dX7_fieldsOf_7 : decode cX7_fieldsOf 7 = .ok (.if_icmp .ge 30, 3) := by decide +kernel
theorem dX7_fieldsOf_10 : decode cX7_fieldsOf 10 = .ok (.iload_n 2, 1) := by decide +kernel
theorem dX7_fieldsOf_11 : decode cX7_fieldsOf 11 = .ok (.aload_n 0, 1) := by decide +kernel
theorem dX7_fieldsOf_12 : decode cX7_fieldsOf 12 = .ok (.getfield 7, 3) := by decide +kernel
theorem dX7_fieldsOf_15 : decode cX7_fieldsOf 15 = .ok (.bipush 94, 2) := by decide +kernel
theorem dX7_fieldsOf_17 : decode cX7_fieldsOf 17 = .ok (.iload_n 3, 1) := by decide +kernel
theorem dX7_fieldsOf_18 : decode cX7_fieldsOf 18 = .ok (.iadd, 1) := by decide +kernel
theorem dX7_fieldsOf_19 : decode cX7_fieldsOf 19 = .ok (.iaload, 1) := by decide +kernel
theorem dX7_fieldsOf_20 : decode cX7_fieldsOf 20 = .ok (.iload_n 1, 1) := by decide +kernel
theorem dX7_fieldsOf_21 : decode cX7_fieldsOf 21 = .ok (.if_icmp .ne 7, 3) := by decide +kernel
theorem dX7_fieldsOf_24 : decode cX7_fieldsOf 24 = .ok (.iconst 1, 1) := by decide +kernel
theorem dX7_fieldsOf_25 : decode cX7_fieldsOf 25 = .ok (.goto 4, 3) := by decide +kernel
theorem dX7_fieldsOf_28 : decode cX7_fieldsOf 28 = .ok (.iconst 0, 1) := by decide +kernel
theorem dX7_fieldsOf_29 : decode cX7_fieldsOf 29 = .ok (.iadd, 1) := by decide +kernel
theorem dX7_fieldsOf_30 : decode cX7_fieldsOf 30 = .ok (.istore_n 2, 1) := by decide +kernel
theorem dX7_fieldsOf_31 : decode cX7_fieldsOf 31 = .ok (.iinc 3 1, 3) := by decide +kernel
theorem dX7_fieldsOf_34 : decode cX7_fieldsOf 34 = .ok (.goto (-30), 3) := by decide +kernel
theorem dX7_fieldsOf_37 : decode cX7_fieldsOf 37 = .ok (.iload_n 2, 1) := by decide +kernel
theorem dX7_fieldsOf_38 : decode cX7_fieldsOf 38 = .ok (.ireturn, 1) := by decide +kernel
theorem dX7_ifAllCome_0 : decode cX7_ifAllCome 0 = .ok (.iload_n 1, 1) := by decide +kernel
theorem dX7_ifAllCome_1 : decode cX7_ifAllCome 1 = .ok (.iconst 0, 1) := by decide +kernel
theorem dX7_ifAllCome_2 : decode cX7_ifAllCome 2 = .ok (.iconst 3, 1) := by decide +kernel
theorem dX7_ifAllCome_3 : decode cX7_ifAllCome 3 = .ok (.invokestatic 39, 3) := by decide +kernel
theorem dX7_ifAllCome_6 : decode cX7_ifAllCome 6 = .ok (.ifCond .ne 6, 3) := by decide +kernel
theorem dX7_ifAllCome_9 : decode cX7_ifAllCome 9 = .ok (.bipush (-2), 2) := by decide +kernel
theorem dX7_ifAllCome_11 : decode cX7_ifAllCome 11 = .ok (.ireturn, 1) := by decide +kernel
theorem dX7_ifAllCome_12 : decode cX7_ifAllCome 12 = .ok (.aload_n 0, 1) := by decide +kernel
theorem dX7_ifAllCome_13 : decode cX7_ifAllCome 13 = .ok (.invokevirtual 194, 3) := by decide +kernel
theorem dX7_ifAllCome_16 : decode cX7_ifAllCome 16 = .ok (.aload_n 0, 1) := by decide +kernel
theorem dX7_ifAllCome_17 : decode cX7_ifAllCome 17 = .ok (.invokevirtual 191, 3) := by decide +kernel
theorem dX7_ifAllCome_20 : decode cX7_ifAllCome 20 = .ok (.bipush (-5), 2) := by decide +kernel
theorem dX7_ifAllCome_22 : decode cX7_ifAllCome 22 = .ok (.if_icmp .eq 11, 3) := by decide +kernel
theorem dX7_ifAllCome_25 : decode cX7_ifAllCome 25 = .ok (.aload_n 0, 1) := by decide +kernel
theorem dX7_ifAllCome_26 : decode cX7_ifAllCome 26 = .ok (.invokevirtual 103, 3) := by decide +kernel
theorem dX7_ifAllCome_29 : decode cX7_ifAllCome 29 = .ok (.istore_n 2, 1) := by decide +kernel
theorem dX7_ifAllCome_30 : decode cX7_ifAllCome 30 = .ok (.goto (-14), 3) := by decide +kernel
theorem dX7_ifAllCome_33 : decode cX7_ifAllCome 33 = .ok (.iload_n 1, 1) := by decide +kernel
theorem dX7_ifAllCome_34 : decode cX7_ifAllCome 34 = .ok (.iconst 2, 1) := by decide +kernel
theorem dX7_ifAllCome_35 : decode cX7_ifAllCome 35 = .ok (.if_icmp .ge 11, 3) := by decide +kernel
theorem dX7_ifAllCome_38 : decode cX7_ifAllCome 38 = .ok (.aload_n 0, 1) := by decide +kernel
theorem dX7_ifAllCome_39 : decode cX7_ifAllCome 39 = .ok (.iload_n 1, 1) := by decide +kernel
theorem dX7_ifAllCome_40 : decode cX7_ifAllCome 40 = .ok (.invokevirtual 197, 3) := by decide +kernel
theorem dX7_ifAllCome_43 : decode cX7_ifAllCome 43 = .ok (.goto 21, 3) := by decide +kernel
theorem dX7_ifAllCome_46 : decode cX7_ifAllCome 46 = .ok (.iload_n 1, 1) := by decide +kernel
theorem dX7_ifAllCome_47 : decode cX7_ifAllCome 47 = .ok (.iconst 2, 1) := by decide +kernel
theorem dX7_ifAllCome_48 : decode cX7_ifAllCome 48 = .ok (.if_icmp .ne 11, 3) := by decide +kernel
theorem dX7_ifAllCome_51 : decode cX7_ifAllCome 51 = .ok (.aload_n 0, 1) := by decide +kernel
theorem dX7_ifAllCome_52 : decode cX7_ifAllCome 52 = .ok (.iconst 3, 1) := by decide +kernel
theorem dX7_ifAllCome_53 : decode cX7_ifAllCome 53 = .ok (.invokevirtual 200, 3) := by decide +kernel
theorem dX7_ifAllCome_56 : decode cX7_ifAllCome 56 = .ok (.goto 8, 3) := by decide +kernel
theorem dX7_ifAllCome_59 : decode cX7_ifAllCome 59 = .ok (.aload_n 0, 1) := by decide +kernel
theorem dX7_ifAllCome_60 : decode cX7_ifAllCome 60 = .ok (.iconst 2, 1) := by decide +kernel
theorem dX7_ifAllCome_61 : decode cX7_ifAllCome 61 = .ok (.invokevirtual 203, 3) := by decide +kernel
theorem dX7_ifAllCome_64 : decode cX7_ifAllCome 64 = .ok (.istore_n 2, 1) := by decide +kernel
theorem dX7_ifAllCome_65 : decode cX7_ifAllCome 65 = .ok (.aload_n 0, 1) := by decide +kernel
theorem dX7_ifAllCome_66 : decode cX7_ifAllCome 66 = .ok (.invokevirtual 206, 3) := by decide +kernel
theorem dX7_ifAllCome_69 : decode cX7_ifAllCome 69 = .ok (.iload_n 2, 1) := by decide +kernel
theorem dX7_ifAllCome_70 : decode cX7_ifAllCome 70 = .ok (.ireturn, 1) := by decide +kernel
theorem dX7_bestClaim_0 : decode cX7_bestClaim 0 = .ok (.iload_n 1, 1) := by decide +kernel
theorem dX7_bestClaim_1 : decode cX7_bestClaim 1 = .ok (.iconst 0, 1) := by decide +kernel
theorem dX7_bestClaim_2 : decode cX7_bestClaim 2 = .ok (.iconst 1, 1) := by decide +kernel
theorem dX7_bestClaim_3 : decode cX7_bestClaim 3 = .ok (.invokestatic 39, 3) := by decide +kernel
theorem dX7_bestClaim_6 : decode cX7_bestClaim 6 = .ok (.ifCond .ne 6, 3) := by decide +kernel
theorem dX7_bestClaim_9 : decode cX7_bestClaim 9 = .ok (.bipush (-2), 2) := by decide +kernel
theorem dX7_bestClaim_11 : decode cX7_bestClaim 11 = .ok (.ireturn, 1) := by decide +kernel
theorem dX7_bestClaim_12 : decode cX7_bestClaim 12 = .ok (.bipush (-5), 2) := by decide +kernel
theorem dX7_bestClaim_14 : decode cX7_bestClaim 14 = .ok (.istore_n 2, 1) := by decide +kernel
theorem dX7_bestClaim_15 : decode cX7_bestClaim 15 = .ok (.bipush (-5), 2) := by decide +kernel
theorem dX7_bestClaim_17 : decode cX7_bestClaim 17 = .ok (.istore_n 3, 1) := by decide +kernel
theorem dX7_bestClaim_18 : decode cX7_bestClaim 18 = .ok (.iconst 0, 1) := by decide +kernel
theorem dX7_bestClaim_19 : decode cX7_bestClaim 19 = .ok (.istore 4, 2) := by decide +kernel
theorem dX7_bestClaim_21 : decode cX7_bestClaim 21 = .ok (.iload 4, 2) := by decide +kernel
theorem dX7_bestClaim_23 : decode cX7_bestClaim 23 = .ok (.bipush 48, 2) := by decide +kernel
theorem dX7_bestClaim_25 : decode cX7_bestClaim 25 = .ok (.if_icmp .ge 52, 3) := by decide +kernel
theorem dX7_bestClaim_28 : decode cX7_bestClaim 28 = .ok (.aload_n 0, 1) := by decide +kernel
theorem dX7_bestClaim_29 : decode cX7_bestClaim 29 = .ok (.iload 4, 2) := by decide +kernel
theorem dX7_bestClaim_31 : decode cX7_bestClaim 31 = .ok (.invokevirtual 81, 3) := by decide +kernel
theorem dX7_bestClaim_34 : decode cX7_bestClaim 34 = .ok (.ifCond .ne 37, 3) := by decide +kernel
theorem dX7_bestClaim_37 : decode cX7_bestClaim 37 = .ok (.aload_n 0, 1) := by decide +kernel
theorem dX7_bestClaim_38 : decode cX7_bestClaim 38 = .ok (.iload 4, 2) := by decide +kernel
theorem dX7_bestClaim_40 : decode cX7_bestClaim 40 = .ok (.invokevirtual 179, 3) := by decide +kernel
theorem dX7_bestClaim_43 : decode cX7_bestClaim 43 = .ok (.istore 5, 2) := by decide +kernel
theorem dX7_bestClaim_45 : decode cX7_bestClaim 45 = .ok (.iload 5, 2) := by decide +kernel
theorem dX7_bestClaim_47 : decode cX7_bestClaim 47 = .ok (.iload_n 3, 1) := by decide +kernel
theorem dX7_bestClaim_48 : decode cX7_bestClaim 48 = .ok (.if_icmp .le 8, 3) := by decide +kernel
theorem dX7_bestClaim_51 : decode cX7_bestClaim 51 = .ok (.iload 4, 2) := by decide +kernel
theorem dX7_bestClaim_53 : decode cX7_bestClaim 53 = .ok (.goto 4, 3) := by decide +kernel
theorem dX7_bestClaim_56 : decode cX7_bestClaim 56 = .ok (.iload_n 2, 1) := by decide +kernel
theorem dX7_bestClaim_57 : decode cX7_bestClaim 57 = .ok (.istore_n 2, 1) := by decide +kernel
theorem dX7_bestClaim_58 : decode cX7_bestClaim 58 = .ok (.iload 5, 2) := by decide +kernel
theorem dX7_bestClaim_60 : decode cX7_bestClaim 60 = .ok (.iload_n 3, 1) := by decide +kernel
theorem dX7_bestClaim_61 : decode cX7_bestClaim 61 = .ok (.if_icmp .le 8, 3) := by decide +kernel
theorem dX7_bestClaim_64 : decode cX7_bestClaim 64 = .ok (.iload 5, 2) := by decide +kernel
theorem dX7_bestClaim_66 : decode cX7_bestClaim 66 = .ok (.goto 4, 3) := by decide +kernel
theorem dX7_bestClaim_69 : decode cX7_bestClaim 69 = .ok (.iload_n 3, 1) := by decide +kernel
theorem dX7_bestClaim_70 : decode cX7_bestClaim 70 = .ok (.istore_n 3, 1) := by decide +kernel
theorem dX7_bestClaim_71 : decode cX7_bestClaim 71 = .ok (.iinc 4 1, 3) := by decide +kernel
theorem dX7_bestClaim_74 : decode cX7_bestClaim 74 = .ok (.goto (-53), 3) := by decide +kernel
theorem dX7_bestClaim_77 : decode cX7_bestClaim 77 = .ok (.iload_n 1, 1) := by decide +kernel
theorem dX7_bestClaim_78 : decode cX7_bestClaim 78 = .ok (.ifCond .ne 7, 3) := by decide +kernel
theorem dX7_bestClaim_81 : decode cX7_bestClaim 81 = .ok (.iload_n 2, 1) := by decide +kernel
theorem dX7_bestClaim_82 : decode cX7_bestClaim 82 = .ok (.goto 4, 3) := by decide +kernel
theorem dX7_bestClaim_85 : decode cX7_bestClaim 85 = .ok (.iload_n 3, 1) := by decide +kernel
theorem dX7_bestClaim_86 : decode cX7_bestClaim 86 = .ok (.ireturn, 1) := by decide +kernel
theorem dX7_regions_0 : decode cX7_regions 0 = .ok (.iconst 0, 1) := by decide +kernel
theorem dX7_regions_1 : decode cX7_regions 1 = .ok (.istore_n 1, 1) := by decide +kernel
theorem dX7_regions_2 : decode cX7_regions 2 = .ok (.iconst 0, 1) := by decide +kernel
theorem dX7_regions_3 : decode cX7_regions 3 = .ok (.istore_n 2, 1) := by decide +kernel
theorem dX7_regions_4 : decode cX7_regions 4 = .ok (.iload_n 2, 1) := by decide +kernel
theorem dX7_regions_5 : decode cX7_regions 5 = .ok (.bipush 48, 2) := by decide +kernel
theorem dX7_regions_7 : decode cX7_regions 7 = .ok (.if_icmp .ge 26, 3) := by decide +kernel
theorem dX7_regions_10 : decode cX7_regions 10 = .ok (.iload_n 1, 1) := by decide +kernel
theorem dX7_regions_11 : decode cX7_regions 11 = .ok (.aload_n 0, 1) := by decide +kernel
theorem dX7_regions_12 : decode cX7_regions 12 = .ok (.iload_n 2, 1) := by decide +kernel
theorem dX7_regions_13 : decode cX7_regions 13 = .ok (.invokevirtual 182, 3) := by decide +kernel
theorem dX7_regions_16 : decode cX7_regions 16 = .ok (.iload_n 2, 1) := by decide +kernel
theorem dX7_regions_17 : decode cX7_regions 17 = .ok (.if_icmp .ne 7, 3) := by decide +kernel
theorem dX7_regions_20 : decode cX7_regions 20 = .ok (.iconst 1, 1) := by decide +kernel
theorem dX7_regions_21 : decode cX7_regions 21 = .ok (.goto 4, 3) := by decide +kernel
theorem dX7_regions_24 : decode cX7_regions 24 = .ok (.iconst 0, 1) := by decide +kernel
theorem dX7_regions_25 : decode cX7_regions 25 = .ok (.iadd, 1) := by decide +kernel
theorem dX7_regions_26 : decode cX7_regions 26 = .ok (.istore_n 1, 1) := by decide +kernel
theorem dX7_regions_27 : decode cX7_regions 27 = .ok (.iinc 2 1, 3) := by decide +kernel
theorem dX7_regions_30 : decode cX7_regions 30 = .ok (.goto (-26), 3) := by decide +kernel
theorem dX7_regions_33 : decode cX7_regions 33 = .ok (.iload_n 1, 1) := by decide +kernel
theorem dX7_regions_34 : decode cX7_regions 34 = .ok (.ireturn, 1) := by decide +kernel
theorem dX7_count_0 : decode cX7_count 0 = .ok (.iload_n 1, 1) := by decide +kernel
theorem dX7_count_1 : decode cX7_count 1 = .ok (.tableswitch 198 0 19 #[95, 95, 102, 108, 108, 116, 116, 127, 127, 136, 136, 136, 145, 150, 163, 163, 176, 176, 188, 193], 95) := by decide +kernel
theorem dX7_count_96 : decode cX7_count 96 = .ok (.aload_n 0, 1) := by decide +kernel
theorem dX7_count_97 : decode cX7_count 97 = .ok (.getfield 7, 3) := by decide +kernel
theorem dX7_count_100 : decode cX7_count 100 = .ok (.iload_n 1, 1) := by decide +kernel
theorem dX7_count_101 : decode cX7_count 101 = .ok (.iaload, 1) := by decide +kernel
theorem dX7_count_102 : decode cX7_count 102 = .ok (.ireturn, 1) := by decide +kernel
theorem dX7_count_103 : decode cX7_count 103 = .ok (.aload_n 0, 1) := by decide +kernel
theorem dX7_count_104 : decode cX7_count 104 = .ok (.iconst 0, 1) := by decide +kernel
theorem dX7_count_105 : decode cX7_count 105 = .ok (.invokevirtual 203, 3) := by decide +kernel
theorem dX7_count_108 : decode cX7_count 108 = .ok (.ireturn, 1) := by decide +kernel
theorem dX7_count_109 : decode cX7_count 109 = .ok (.aload_n 0, 1) := by decide +kernel
theorem dX7_count_110 : decode cX7_count 110 = .ok (.iload_n 1, 1) := by decide +kernel
theorem dX7_count_111 : decode cX7_count 111 = .ok (.iconst 2, 1) := by decide +kernel
theorem dX7_count_112 : decode cX7_count 112 = .ok (.isub, 1) := by decide +kernel
theorem dX7_count_113 : decode cX7_count 113 = .ok (.invokevirtual 203, 3) := by decide +kernel
theorem dX7_count_116 : decode cX7_count 116 = .ok (.ireturn, 1) := by decide +kernel
theorem dX7_count_117 : decode cX7_count 117 = .ok (.aload_n 0, 1) := by decide +kernel
theorem dX7_count_118 : decode cX7_count 118 = .ok (.getfield 7, 3) := by decide +kernel
theorem dX7_count_121 : decode cX7_count 121 = .ok (.iconst 2, 1) := by decide +kernel
theorem dX7_count_122 : decode cX7_count 122 = .ok (.iload_n 1, 1) := by decide +kernel
theorem dX7_count_123 : decode cX7_count 123 = .ok (.iadd, 1) := by decide +kernel
theorem dX7_count_124 : decode cX7_count 124 = .ok (.iconst 5, 1) := by decide +kernel
theorem dX7_count_125 : decode cX7_count 125 = .ok (.isub, 1) := by decide +kernel
theorem dX7_count_126 : decode cX7_count 126 = .ok (.iaload, 1) := by decide +kernel
theorem dX7_count_127 : decode cX7_count 127 = .ok (.ireturn, 1) := by decide +kernel
theorem dX7_count_128 : decode cX7_count 128 = .ok (.aload_n 0, 1) := by decide +kernel
theorem dX7_count_129 : decode cX7_count 129 = .ok (.iload_n 1, 1) := by decide +kernel
theorem dX7_count_130 : decode cX7_count 130 = .ok (.bipush 7, 2) := by decide +kernel
theorem dX7_count_132 : decode cX7_count 132 = .ok (.isub, 1) := by decide +kernel
theorem dX7_count_133 : decode cX7_count 133 = .ok (.invokevirtual 197, 3) := by decide +kernel
theorem dX7_count_136 : decode cX7_count 136 = .ok (.ireturn, 1) := by decide +kernel
theorem dX7_count_137 : decode cX7_count 137 = .ok (.aload_n 0, 1) := by decide +kernel
theorem dX7_count_138 : decode cX7_count 138 = .ok (.iload_n 1, 1) := by decide +kernel
theorem dX7_count_139 : decode cX7_count 139 = .ok (.bipush 8, 2) := by decide +kernel
theorem dX7_count_141 : decode cX7_count 141 = .ok (.isub, 1) := by decide +kernel
theorem dX7_count_142 : decode cX7_count 142 = .ok (.invokevirtual 200, 3) := by decide +kernel
theorem dX7_count_145 : decode cX7_count 145 = .ok (.ireturn, 1) := by decide +kernel
theorem dX7_count_146 : decode cX7_count 146 = .ok (.aload_n 0, 1) := by decide +kernel
theorem dX7_count_147 : decode cX7_count 147 = .ok (.invokevirtual 209, 3) := by decide +kernel
theorem dX7_count_150 : decode cX7_count 150 = .ok (.ireturn, 1) := by decide +kernel
theorem dX7_count_151 : decode cX7_count 151 = .ok (.aload_n 0, 1) := by decide +kernel
theorem dX7_count_152 : decode cX7_count 152 = .ok (.invokevirtual 64, 3) := by decide +kernel
theorem dX7_count_155 : decode cX7_count 155 = .ok (.ifCond .eq 7, 3) := by decide +kernel
theorem dX7_count_158 : decode cX7_count 158 = .ok (.iconst 1, 1) := by decide +kernel
theorem dX7_count_159 : decode cX7_count 159 = .ok (.goto 4, 3) := by decide +kernel
theorem dX7_count_162 : decode cX7_count 162 = .ok (.iconst 0, 1) := by decide +kernel
theorem dX7_count_163 : decode cX7_count 163 = .ok (.ireturn, 1) := by decide +kernel
theorem dX7_count_164 : decode cX7_count 164 = .ok (.aload_n 0, 1) := by decide +kernel
theorem dX7_count_165 : decode cX7_count 165 = .ok (.getfield 7, 3) := by decide +kernel
theorem dX7_count_168 : decode cX7_count 168 = .ok (.bipush 6, 2) := by decide +kernel
theorem dX7_count_170 : decode cX7_count 170 = .ok (.iload_n 1, 1) := by decide +kernel
theorem dX7_count_171 : decode cX7_count 171 = .ok (.iadd, 1) := by decide +kernel
theorem dX7_count_172 : decode cX7_count 172 = .ok (.bipush 14, 2) := by decide +kernel
theorem dX7_count_174 : decode cX7_count 174 = .ok (.isub, 1) := by decide +kernel
theorem dX7_count_175 : decode cX7_count 175 = .ok (.iaload, 1) := by decide +kernel
theorem dX7_count_176 : decode cX7_count 176 = .ok (.ireturn, 1) := by decide +kernel
theorem dX7_count_177 : decode cX7_count 177 = .ok (.aload_n 0, 1) := by decide +kernel
theorem dX7_count_178 : decode cX7_count 178 = .ok (.getfield 7, 3) := by decide +kernel
theorem dX7_count_181 : decode cX7_count 181 = .ok (.iconst 4, 1) := by decide +kernel
theorem dX7_count_182 : decode cX7_count 182 = .ok (.iload_n 1, 1) := by decide +kernel
theorem dX7_count_183 : decode cX7_count 183 = .ok (.iadd, 1) := by decide +kernel
theorem dX7_count_184 : decode cX7_count 184 = .ok (.bipush 16, 2) := by decide +kernel
theorem dX7_count_186 : decode cX7_count 186 = .ok (.isub, 1) := by decide +kernel
theorem dX7_count_187 : decode cX7_count 187 = .ok (.iaload, 1) := by decide +kernel
theorem dX7_count_188 : decode cX7_count 188 = .ok (.ireturn, 1) := by decide +kernel
theorem dX7_count_189 : decode cX7_count 189 = .ok (.aload_n 0, 1) := by decide +kernel
theorem dX7_count_190 : decode cX7_count 190 = .ok (.getfield 47, 3) := by decide +kernel
theorem dX7_count_193 : decode cX7_count 193 = .ok (.ireturn, 1) := by decide +kernel
theorem dX7_count_194 : decode cX7_count 194 = .ok (.aload_n 0, 1) := by decide +kernel
theorem dX7_count_195 : decode cX7_count 195 = .ok (.getfield 129, 3) := by decide +kernel
theorem dX7_count_198 : decode cX7_count 198 = .ok (.ireturn, 1) := by decide +kernel
theorem dX7_count_199 : decode cX7_count 199 = .ok (.bipush (-2), 2) := by decide +kernel
theorem dX7_count_201 : decode cX7_count 201 = .ok (.ireturn, 1) := by decide +kernel
theorem dJ7_fill_53178_0 : decode cJ7_fill_53178 0 = .ok (.iconst 0, 1) := by decide +kernel
theorem dJ7_fill_53178_1 : decode cJ7_fill_53178 1 = .ok (.istore_n 2, 1) := by decide +kernel
theorem dJ7_fill_53178_2 : decode cJ7_fill_53178 2 = .ok (.aload_n 0, 1) := by decide +kernel
theorem dJ7_fill_53178_3 : decode cJ7_fill_53178 3 = .ok (.arraylength, 1) := by decide +kernel
theorem dJ7_fill_53178_4 : decode cJ7_fill_53178 4 = .ok (.istore_n 3, 1) := by decide +kernel
theorem dJ7_fill_53178_5 : decode cJ7_fill_53178 5 = .ok (.iload_n 2, 1) := by decide +kernel
theorem dJ7_fill_53178_6 : decode cJ7_fill_53178 6 = .ok (.iload_n 3, 1) := by decide +kernel
theorem dJ7_fill_53178_7 : decode cJ7_fill_53178 7 = .ok (.if_icmp .ge 13, 3) := by decide +kernel
theorem dJ7_fill_53178_10 : decode cJ7_fill_53178 10 = .ok (.aload_n 0, 1) := by decide +kernel
theorem dJ7_fill_53178_11 : decode cJ7_fill_53178 11 = .ok (.iload_n 2, 1) := by decide +kernel
theorem dJ7_fill_53178_12 : decode cJ7_fill_53178 12 = .ok (.iload_n 1, 1) := by decide +kernel
theorem dJ7_fill_53178_13 : decode cJ7_fill_53178 13 = .ok (.iastore, 1) := by decide +kernel
theorem dJ7_fill_53178_14 : decode cJ7_fill_53178 14 = .ok (.iinc 2 1, 3) := by decide +kernel
theorem dJ7_fill_53178_17 : decode cJ7_fill_53178 17 = .ok (.goto (-12), 3) := by decide +kernel
theorem dJ7_fill_53178_20 : decode cJ7_fill_53178 20 = .ok (.return_, 1) := by decide +kernel
theorem dL_law_0 : decode cL_law 0 = .ok (.new 7, 3) := by decide +kernel
theorem dL_law_3 : decode cL_law 3 = .ok (.dup, 1) := by decide +kernel
theorem dL_law_4 : decode cL_law 4 = .ok (.invokespecial 9, 3) := by decide +kernel
theorem dL_law_7 : decode cL_law 7 = .ok (.astore_n 1, 1) := by decide +kernel
theorem dL_law_8 : decode cL_law 8 = .ok (.new 10, 3) := by decide +kernel
theorem dL_law_11 : decode cL_law 11 = .ok (.dup, 1) := by decide +kernel
theorem dL_law_12 : decode cL_law 12 = .ok (.invokespecial 12, 3) := by decide +kernel
theorem dL_law_15 : decode cL_law 15 = .ok (.astore_n 2, 1) := by decide +kernel
theorem dL_law_16 : decode cL_law 16 = .ok (.iconst 0, 1) := by decide +kernel
theorem dL_law_17 : decode cL_law 17 = .ok (.istore_n 3, 1) := by decide +kernel
theorem dL_law_18 : decode cL_law 18 = .ok (.iload_n 3, 1) := by decide +kernel
theorem dL_law_19 : decode cL_law 19 = .ok (.aload_n 0, 1) := by decide +kernel
theorem dL_law_20 : decode cL_law 20 = .ok (.arraylength, 1) := by decide +kernel
theorem dL_law_21 : decode cL_law 21 = .ok (.iconst 5, 1) := by decide +kernel
theorem dL_law_22 : decode cL_law 22 = .ok (.isub, 1) := by decide +kernel
theorem dL_law_23 : decode cL_law 23 = .ok (.if_icmp .gt 783, 3) := by decide +kernel
theorem dL_law_26 : decode cL_law 26 = .ok (.aload_n 0, 1) := by decide +kernel
theorem dL_law_27 : decode cL_law 27 = .ok (.iload_n 3, 1) := by decide +kernel
theorem dL_law_28 : decode cL_law 28 = .ok (.iaload, 1) := by decide +kernel
theorem dL_law_29 : decode cL_law 29 = .ok (.bipush 31, 2) := by decide +kernel
theorem dL_law_31 : decode cL_law 31 = .ok (.iand, 1) := by decide +kernel
theorem dL_law_32 : decode cL_law 32 = .ok (.tableswitch 768 0 23 #[112, 181, 214, 247, 270, 293, 326, 351, 364, 377, 400, 413, 426, 439, 472, 505, 528, 561, 594, 653, 676, 699, 722, 745], 112) := by decide +kernel
theorem dL_law_144 : decode cL_law 144 = .ok (.aload_n 1, 1) := by decide +kernel
theorem dL_law_145 : decode cL_law 145 = .ok (.aload_n 0, 1) := by decide +kernel
theorem dL_law_146 : decode cL_law 146 = .ok (.iload_n 3, 1) := by decide +kernel
theorem dL_law_147 : decode cL_law 147 = .ok (.iconst 1, 1) := by decide +kernel
theorem dL_law_148 : decode cL_law 148 = .ok (.iadd, 1) := by decide +kernel
theorem dL_law_149 : decode cL_law 149 = .ok (.iaload, 1) := by decide +kernel
theorem dL_law_150 : decode cL_law 150 = .ok (.aload_n 0, 1) := by decide +kernel
theorem dL_law_151 : decode cL_law 151 = .ok (.iload_n 3, 1) := by decide +kernel
theorem dL_law_152 : decode cL_law 152 = .ok (.iconst 2, 1) := by decide +kernel
theorem dL_law_153 : decode cL_law 153 = .ok (.iadd, 1) := by decide +kernel
theorem dL_law_154 : decode cL_law 154 = .ok (.iaload, 1) := by decide +kernel
theorem dL_law_155 : decode cL_law 155 = .ok (.ifCond .eq 7, 3) := by decide +kernel
theorem dL_law_158 : decode cL_law 158 = .ok (.iconst 1, 1) := by decide +kernel
theorem dL_law_159 : decode cL_law 159 = .ok (.goto 4, 3) := by decide +kernel
theorem dL_law_162 : decode cL_law 162 = .ok (.iconst 0, 1) := by decide +kernel
theorem dL_law_163 : decode cL_law 163 = .ok (.aload_n 0, 1) := by decide +kernel
theorem dL_law_164 : decode cL_law 164 = .ok (.iload_n 3, 1) := by decide +kernel
theorem dL_law_165 : decode cL_law 165 = .ok (.iconst 3, 1) := by decide +kernel
theorem dL_law_166 : decode cL_law 166 = .ok (.iadd, 1) := by decide +kernel
theorem dL_law_167 : decode cL_law 167 = .ok (.iaload, 1) := by decide +kernel
theorem dL_law_168 : decode cL_law 168 = .ok (.aload_n 0, 1) := by decide +kernel
theorem dL_law_169 : decode cL_law 169 = .ok (.iload_n 3, 1) := by decide +kernel
theorem dL_law_170 : decode cL_law 170 = .ok (.iconst 4, 1) := by decide +kernel
theorem dL_law_171 : decode cL_law 171 = .ok (.iadd, 1) := by decide +kernel
theorem dL_law_172 : decode cL_law 172 = .ok (.iaload, 1) := by decide +kernel
theorem dL_law_173 : decode cL_law 173 = .ok (.invokevirtual 13, 3) := by decide +kernel
theorem dL_law_176 : decode cL_law 176 = .ok (.aload_n 2, 1) := by decide +kernel
theorem dL_law_177 : decode cL_law 177 = .ok (.aload_n 0, 1) := by decide +kernel
theorem dL_law_178 : decode cL_law 178 = .ok (.iload_n 3, 1) := by decide +kernel
theorem dL_law_179 : decode cL_law 179 = .ok (.iconst 1, 1) := by decide +kernel
theorem dL_law_180 : decode cL_law 180 = .ok (.iadd, 1) := by decide +kernel
theorem dL_law_181 : decode cL_law 181 = .ok (.iaload, 1) := by decide +kernel
theorem dL_law_182 : decode cL_law 182 = .ok (.aload_n 0, 1) := by decide +kernel
theorem dL_law_183 : decode cL_law 183 = .ok (.iload_n 3, 1) := by decide +kernel
theorem dL_law_184 : decode cL_law 184 = .ok (.iconst 2, 1) := by decide +kernel
theorem dL_law_185 : decode cL_law 185 = .ok (.iadd, 1) := by decide +kernel
theorem dL_law_186 : decode cL_law 186 = .ok (.iaload, 1) := by decide +kernel
theorem dL_law_187 : decode cL_law 187 = .ok (.ifCond .eq 7, 3) := by decide +kernel
theorem dL_law_190 : decode cL_law 190 = .ok (.iconst 1, 1) := by decide +kernel
theorem dL_law_191 : decode cL_law 191 = .ok (.goto 4, 3) := by decide +kernel
theorem dL_law_194 : decode cL_law 194 = .ok (.iconst 0, 1) := by decide +kernel
theorem dL_law_195 : decode cL_law 195 = .ok (.aload_n 0, 1) := by decide +kernel
theorem dL_law_196 : decode cL_law 196 = .ok (.iload_n 3, 1) := by decide +kernel
theorem dL_law_197 : decode cL_law 197 = .ok (.iconst 3, 1) := by decide +kernel
theorem dL_law_198 : decode cL_law 198 = .ok (.iadd, 1) := by decide +kernel
theorem dL_law_199 : decode cL_law 199 = .ok (.iaload, 1) := by decide +kernel
theorem dL_law_200 : decode cL_law 200 = .ok (.aload_n 0, 1) := by decide +kernel
theorem dL_law_201 : decode cL_law 201 = .ok (.iload_n 3, 1) := by decide +kernel
theorem dL_law_202 : decode cL_law 202 = .ok (.iconst 4, 1) := by decide +kernel
theorem dL_law_203 : decode cL_law 203 = .ok (.iadd, 1) := by decide +kernel
theorem dL_law_204 : decode cL_law 204 = .ok (.iaload, 1) := by decide +kernel
theorem dL_law_205 : decode cL_law 205 = .ok (.invokevirtual 17, 3) := by decide +kernel
theorem dL_law_208 : decode cL_law 208 = .ok (.if_icmp .eq 592, 3) := by decide +kernel
theorem dL_law_211 : decode cL_law 211 = .ok (.iconst 0, 1) := by decide +kernel
theorem dL_law_212 : decode cL_law 212 = .ok (.ireturn, 1) := by decide +kernel
theorem dL_law_213 : decode cL_law 213 = .ok (.aload_n 1, 1) := by decide +kernel
theorem dL_law_214 : decode cL_law 214 = .ok (.aload_n 0, 1) := by decide +kernel
theorem dL_law_215 : decode cL_law 215 = .ok (.iload_n 3, 1) := by decide +kernel
theorem dL_law_216 : decode cL_law 216 = .ok (.iconst 1, 1) := by decide +kernel
theorem dL_law_217 : decode cL_law 217 = .ok (.iadd, 1) := by decide +kernel
theorem dL_law_218 : decode cL_law 218 = .ok (.iaload, 1) := by decide +kernel
theorem dL_law_219 : decode cL_law 219 = .ok (.aload_n 0, 1) := by decide +kernel
theorem dL_law_220 : decode cL_law 220 = .ok (.iload_n 3, 1) := by decide +kernel
theorem dL_law_221 : decode cL_law 221 = .ok (.iconst 2, 1) := by decide +kernel
theorem dL_law_222 : decode cL_law 222 = .ok (.iadd, 1) := by decide +kernel
theorem dL_law_223 : decode cL_law 223 = .ok (.iaload, 1) := by decide +kernel
theorem dL_law_224 : decode cL_law 224 = .ok (.invokevirtual 18, 3) := by decide +kernel
theorem dL_law_227 : decode cL_law 227 = .ok (.aload_n 2, 1) := by decide +kernel
theorem dL_law_228 : decode cL_law 228 = .ok (.aload_n 0, 1) := by decide +kernel
theorem dL_law_229 : decode cL_law 229 = .ok (.iload_n 3, 1) := by decide +kernel
theorem dL_law_230 : decode cL_law 230 = .ok (.iconst 1, 1) := by decide +kernel
theorem dL_law_231 : decode cL_law 231 = .ok (.iadd, 1) := by decide +kernel
theorem dL_law_232 : decode cL_law 232 = .ok (.iaload, 1) := by decide +kernel
theorem dL_law_233 : decode cL_law 233 = .ok (.aload_n 0, 1) := by decide +kernel
theorem dL_law_234 : decode cL_law 234 = .ok (.iload_n 3, 1) := by decide +kernel
theorem dL_law_235 : decode cL_law 235 = .ok (.iconst 2, 1) := by decide +kernel
theorem dL_law_236 : decode cL_law 236 = .ok (.iadd, 1) := by decide +kernel
theorem dL_law_237 : decode cL_law 237 = .ok (.iaload, 1) := by decide +kernel
theorem dL_law_238 : decode cL_law 238 = .ok (.invokevirtual 22, 3) := by decide +kernel
theorem dL_law_241 : decode cL_law 241 = .ok (.if_icmp .eq 559, 3) := by decide +kernel
theorem dL_law_244 : decode cL_law 244 = .ok (.iconst 0, 1) := by decide +kernel
theorem dL_law_245 : decode cL_law 245 = .ok (.ireturn, 1) := by decide +kernel
theorem dL_law_246 : decode cL_law 246 = .ok (.aload_n 1, 1) := by decide +kernel
theorem dL_law_247 : decode cL_law 247 = .ok (.aload_n 0, 1) := by decide +kernel
theorem dL_law_248 : decode cL_law 248 = .ok (.iload_n 3, 1) := by decide +kernel
theorem dL_law_249 : decode cL_law 249 = .ok (.iconst 1, 1) := by decide +kernel
theorem dL_law_250 : decode cL_law 250 = .ok (.iadd, 1) := by decide +kernel
theorem dL_law_251 : decode cL_law 251 = .ok (.iaload, 1) := by decide +kernel
theorem dL_law_252 : decode cL_law 252 = .ok (.aload_n 0, 1) := by decide +kernel
theorem dL_law_253 : decode cL_law 253 = .ok (.iload_n 3, 1) := by decide +kernel
theorem dL_law_254 : decode cL_law 254 = .ok (.iconst 2, 1) := by decide +kernel
theorem dL_law_255 : decode cL_law 255 = .ok (.iadd, 1) := by decide +kernel
theorem dL_law_256 : decode cL_law 256 = .ok (.iaload, 1) := by decide +kernel
theorem dL_law_257 : decode cL_law 257 = .ok (.invokevirtual 23, 3) := by decide +kernel
theorem dL_law_260 : decode cL_law 260 = .ok (.aload_n 2, 1) := by decide +kernel
theorem dL_law_261 : decode cL_law 261 = .ok (.aload_n 0, 1) := by decide +kernel
theorem dL_law_262 : decode cL_law 262 = .ok (.iload_n 3, 1) := by decide +kernel
theorem dL_law_263 : decode cL_law 263 = .ok (.iconst 1, 1) := by decide +kernel
theorem dL_law_264 : decode cL_law 264 = .ok (.iadd, 1) := by decide +kernel
theorem dL_law_265 : decode cL_law 265 = .ok (.iaload, 1) := by decide +kernel
theorem dL_law_266 : decode cL_law 266 = .ok (.aload_n 0, 1) := by decide +kernel
theorem dL_law_267 : decode cL_law 267 = .ok (.iload_n 3, 1) := by decide +kernel
theorem dL_law_268 : decode cL_law 268 = .ok (.iconst 2, 1) := by decide +kernel
theorem dL_law_269 : decode cL_law 269 = .ok (.iadd, 1) := by decide +kernel
theorem dL_law_270 : decode cL_law 270 = .ok (.iaload, 1) := by decide +kernel
theorem dL_law_271 : decode cL_law 271 = .ok (.invokevirtual 26, 3) := by decide +kernel
theorem dL_law_274 : decode cL_law 274 = .ok (.if_icmp .eq 526, 3) := by decide +kernel
theorem dL_law_277 : decode cL_law 277 = .ok (.iconst 0, 1) := by decide +kernel
theorem dL_law_278 : decode cL_law 278 = .ok (.ireturn, 1) := by decide +kernel
theorem dL_law_279 : decode cL_law 279 = .ok (.aload_n 1, 1) := by decide +kernel
theorem dL_law_280 : decode cL_law 280 = .ok (.aload_n 0, 1) := by decide +kernel
theorem dL_law_281 : decode cL_law 281 = .ok (.iload_n 3, 1) := by decide +kernel
theorem dL_law_282 : decode cL_law 282 = .ok (.iconst 1, 1) := by decide +kernel
theorem dL_law_283 : decode cL_law 283 = .ok (.iadd, 1) := by decide +kernel
theorem dL_law_284 : decode cL_law 284 = .ok (.iaload, 1) := by decide +kernel
theorem dL_law_285 : decode cL_law 285 = .ok (.invokevirtual 27, 3) := by decide +kernel
theorem dL_law_288 : decode cL_law 288 = .ok (.aload_n 2, 1) := by decide +kernel
theorem dL_law_289 : decode cL_law 289 = .ok (.aload_n 0, 1) := by decide +kernel
theorem dL_law_290 : decode cL_law 290 = .ok (.iload_n 3, 1) := by decide +kernel
theorem dL_law_291 : decode cL_law 291 = .ok (.iconst 1, 1) := by decide +kernel
theorem dL_law_292 : decode cL_law 292 = .ok (.iadd, 1) := by decide +kernel
theorem dL_law_293 : decode cL_law 293 = .ok (.iaload, 1) := by decide +kernel
theorem dL_law_294 : decode cL_law 294 = .ok (.invokevirtual 31, 3) := by decide +kernel
theorem dL_law_297 : decode cL_law 297 = .ok (.if_icmp .eq 503, 3) := by decide +kernel
theorem dL_law_300 : decode cL_law 300 = .ok (.iconst 0, 1) := by decide +kernel
theorem dL_law_301 : decode cL_law 301 = .ok (.ireturn, 1) := by decide +kernel
theorem dL_law_302 : decode cL_law 302 = .ok (.aload_n 1, 1) := by decide +kernel
theorem dL_law_303 : decode cL_law 303 = .ok (.aload_n 0, 1) := by decide +kernel
theorem dL_law_304 : decode cL_law 304 = .ok (.iload_n 3, 1) := by decide +kernel
theorem dL_law_305 : decode cL_law 305 = .ok (.iconst 1, 1) := by decide +kernel
theorem dL_law_306 : decode cL_law 306 = .ok (.iadd, 1) := by decide +kernel
theorem dL_law_307 : decode cL_law 307 = .ok (.iaload, 1) := by decide +kernel
theorem dL_law_308 : decode cL_law 308 = .ok (.invokevirtual 32, 3) := by decide +kernel
theorem dL_law_311 : decode cL_law 311 = .ok (.aload_n 2, 1) := by decide +kernel
theorem dL_law_312 : decode cL_law 312 = .ok (.aload_n 0, 1) := by decide +kernel
theorem dL_law_313 : decode cL_law 313 = .ok (.iload_n 3, 1) := by decide +kernel
theorem dL_law_314 : decode cL_law 314 = .ok (.iconst 1, 1) := by decide +kernel
theorem dL_law_315 : decode cL_law 315 = .ok (.iadd, 1) := by decide +kernel
theorem dL_law_316 : decode cL_law 316 = .ok (.iaload, 1) := by decide +kernel
theorem dL_law_317 : decode cL_law 317 = .ok (.invokevirtual 35, 3) := by decide +kernel
theorem dL_law_320 : decode cL_law 320 = .ok (.if_icmp .eq 480, 3) := by decide +kernel
theorem dL_law_323 : decode cL_law 323 = .ok (.iconst 0, 1) := by decide +kernel
theorem dL_law_324 : decode cL_law 324 = .ok (.ireturn, 1) := by decide +kernel
theorem dL_law_325 : decode cL_law 325 = .ok (.aload_n 1, 1) := by decide +kernel
theorem dL_law_326 : decode cL_law 326 = .ok (.aload_n 0, 1) := by decide +kernel
theorem dL_law_327 : decode cL_law 327 = .ok (.iload_n 3, 1) := by decide +kernel
theorem dL_law_328 : decode cL_law 328 = .ok (.iconst 1, 1) := by decide +kernel
theorem dL_law_329 : decode cL_law 329 = .ok (.iadd, 1) := by decide +kernel
theorem dL_law_330 : decode cL_law 330 = .ok (.iaload, 1) := by decide +kernel
theorem dL_law_331 : decode cL_law 331 = .ok (.aload_n 0, 1) := by decide +kernel
theorem dL_law_332 : decode cL_law 332 = .ok (.iload_n 3, 1) := by decide +kernel
theorem dL_law_333 : decode cL_law 333 = .ok (.iconst 2, 1) := by decide +kernel
theorem dL_law_334 : decode cL_law 334 = .ok (.iadd, 1) := by decide +kernel
theorem dL_law_335 : decode cL_law 335 = .ok (.iaload, 1) := by decide +kernel
theorem dL_law_336 : decode cL_law 336 = .ok (.invokevirtual 36, 3) := by decide +kernel
theorem dL_law_339 : decode cL_law 339 = .ok (.aload_n 2, 1) := by decide +kernel
theorem dL_law_340 : decode cL_law 340 = .ok (.aload_n 0, 1) := by decide +kernel
theorem dL_law_341 : decode cL_law 341 = .ok (.iload_n 3, 1) := by decide +kernel
theorem dL_law_342 : decode cL_law 342 = .ok (.iconst 1, 1) := by decide +kernel
theorem dL_law_343 : decode cL_law 343 = .ok (.iadd, 1) := by decide +kernel
theorem dL_law_344 : decode cL_law 344 = .ok (.iaload, 1) := by decide +kernel
theorem dL_law_345 : decode cL_law 345 = .ok (.aload_n 0, 1) := by decide +kernel
theorem dL_law_346 : decode cL_law 346 = .ok (.iload_n 3, 1) := by decide +kernel
theorem dL_law_347 : decode cL_law 347 = .ok (.iconst 2, 1) := by decide +kernel
theorem dL_law_348 : decode cL_law 348 = .ok (.iadd, 1) := by decide +kernel
theorem dL_law_349 : decode cL_law 349 = .ok (.iaload, 1) := by decide +kernel
theorem dL_law_350 : decode cL_law 350 = .ok (.invokevirtual 39, 3) := by decide +kernel
theorem dL_law_353 : decode cL_law 353 = .ok (.if_icmp .eq 447, 3) := by decide +kernel
theorem dL_law_356 : decode cL_law 356 = .ok (.iconst 0, 1) := by decide +kernel
theorem dL_law_357 : decode cL_law 357 = .ok (.ireturn, 1) := by decide +kernel
theorem dL_law_358 : decode cL_law 358 = .ok (.aload_n 1, 1) := by decide +kernel
theorem dL_law_359 : decode cL_law 359 = .ok (.aload_n 0, 1) := by decide +kernel
theorem dL_law_360 : decode cL_law 360 = .ok (.iload_n 3, 1) := by decide +kernel
theorem dL_law_361 : decode cL_law 361 = .ok (.iconst 1, 1) := by decide +kernel
theorem dL_law_362 : decode cL_law 362 = .ok (.iadd, 1) := by decide +kernel
theorem dL_law_363 : decode cL_law 363 = .ok (.iaload, 1) := by decide +kernel
theorem dL_law_364 : decode cL_law 364 = .ok (.i2c, 1) := by decide +kernel
theorem dL_law_365 : decode cL_law 365 = .ok (.invokevirtual 40, 3) := by decide +kernel
theorem dL_law_368 : decode cL_law 368 = .ok (.aload_n 2, 1) := by decide +kernel
theorem dL_law_369 : decode cL_law 369 = .ok (.aload_n 0, 1) := by decide +kernel
theorem dL_law_370 : decode cL_law 370 = .ok (.iload_n 3, 1) := by decide +kernel
theorem dL_law_371 : decode cL_law 371 = .ok (.iconst 1, 1) := by decide +kernel
theorem dL_law_372 : decode cL_law 372 = .ok (.iadd, 1) := by decide +kernel
theorem dL_law_373 : decode cL_law 373 = .ok (.iaload, 1) := by decide +kernel
theorem dL_law_374 : decode cL_law 374 = .ok (.i2c, 1) := by decide +kernel
theorem dL_law_375 : decode cL_law 375 = .ok (.invokevirtual 44, 3) := by decide +kernel
theorem dL_law_378 : decode cL_law 378 = .ok (.if_icmp .eq 422, 3) := by decide +kernel
theorem dL_law_381 : decode cL_law 381 = .ok (.iconst 0, 1) := by decide +kernel
theorem dL_law_382 : decode cL_law 382 = .ok (.ireturn, 1) := by decide +kernel
theorem dL_law_383 : decode cL_law 383 = .ok (.aload_n 1, 1) := by decide +kernel
theorem dL_law_384 : decode cL_law 384 = .ok (.invokevirtual 45, 3) := by decide +kernel
theorem dL_law_387 : decode cL_law 387 = .ok (.aload_n 2, 1) := by decide +kernel
theorem dL_law_388 : decode cL_law 388 = .ok (.invokevirtual 49, 3) := by decide +kernel
theorem dL_law_391 : decode cL_law 391 = .ok (.if_icmp .eq 409, 3) := by decide +kernel
theorem dL_law_394 : decode cL_law 394 = .ok (.iconst 0, 1) := by decide +kernel
theorem dL_law_395 : decode cL_law 395 = .ok (.ireturn, 1) := by decide +kernel
theorem dL_law_396 : decode cL_law 396 = .ok (.aload_n 1, 1) := by decide +kernel
theorem dL_law_397 : decode cL_law 397 = .ok (.invokevirtual 50, 3) := by decide +kernel
theorem dL_law_400 : decode cL_law 400 = .ok (.aload_n 2, 1) := by decide +kernel
theorem dL_law_401 : decode cL_law 401 = .ok (.invokevirtual 53, 3) := by decide +kernel
theorem dL_law_404 : decode cL_law 404 = .ok (.if_icmp .eq 396, 3) := by decide +kernel
theorem dL_law_407 : decode cL_law 407 = .ok (.iconst 0, 1) := by decide +kernel
theorem dL_law_408 : decode cL_law 408 = .ok (.ireturn, 1) := by decide +kernel
theorem dL_law_409 : decode cL_law 409 = .ok (.aload_n 1, 1) := by decide +kernel
theorem dL_law_410 : decode cL_law 410 = .ok (.aload_n 0, 1) := by decide +kernel
theorem dL_law_411 : decode cL_law 411 = .ok (.iload_n 3, 1) := by decide +kernel
theorem dL_law_412 : decode cL_law 412 = .ok (.iconst 1, 1) := by decide +kernel
theorem dL_law_413 : decode cL_law 413 = .ok (.iadd, 1) := by decide +kernel
theorem dL_law_414 : decode cL_law 414 = .ok (.iaload, 1) := by decide +kernel
theorem dL_law_415 : decode cL_law 415 = .ok (.invokevirtual 54, 3) := by decide +kernel
theorem dL_law_418 : decode cL_law 418 = .ok (.aload_n 2, 1) := by decide +kernel
theorem dL_law_419 : decode cL_law 419 = .ok (.aload_n 0, 1) := by decide +kernel
theorem dL_law_420 : decode cL_law 420 = .ok (.iload_n 3, 1) := by decide +kernel
theorem dL_law_421 : decode cL_law 421 = .ok (.iconst 1, 1) := by decide +kernel
theorem dL_law_422 : decode cL_law 422 = .ok (.iadd, 1) := by decide +kernel
theorem dL_law_423 : decode cL_law 423 = .ok (.iaload, 1) := by decide +kernel
theorem dL_law_424 : decode cL_law 424 = .ok (.invokevirtual 57, 3) := by decide +kernel
theorem dL_law_427 : decode cL_law 427 = .ok (.if_icmp .eq 373, 3) := by decide +kernel
theorem dL_law_430 : decode cL_law 430 = .ok (.iconst 0, 1) := by decide +kernel
theorem dL_law_431 : decode cL_law 431 = .ok (.ireturn, 1) := by decide +kernel
theorem dL_law_432 : decode cL_law 432 = .ok (.aload_n 1, 1) := by decide +kernel
theorem dL_law_433 : decode cL_law 433 = .ok (.invokevirtual 58, 3) := by decide +kernel
theorem dL_law_436 : decode cL_law 436 = .ok (.aload_n 2, 1) := by decide +kernel
theorem dL_law_437 : decode cL_law 437 = .ok (.invokevirtual 61, 3) := by decide +kernel
theorem dL_law_440 : decode cL_law 440 = .ok (.if_icmp .eq 360, 3) := by decide +kernel
theorem dL_law_443 : decode cL_law 443 = .ok (.iconst 0, 1) := by decide +kernel
theorem dL_law_444 : decode cL_law 444 = .ok (.ireturn, 1) := by decide +kernel
theorem dL_law_445 : decode cL_law 445 = .ok (.aload_n 1, 1) := by decide +kernel
theorem dL_law_446 : decode cL_law 446 = .ok (.invokevirtual 62, 3) := by decide +kernel
theorem dL_law_449 : decode cL_law 449 = .ok (.aload_n 2, 1) := by decide +kernel
theorem dL_law_450 : decode cL_law 450 = .ok (.invokevirtual 65, 3) := by decide +kernel
theorem dL_law_453 : decode cL_law 453 = .ok (.if_icmp .eq 347, 3) := by decide +kernel
theorem dL_law_456 : decode cL_law 456 = .ok (.iconst 0, 1) := by decide +kernel
theorem dL_law_457 : decode cL_law 457 = .ok (.ireturn, 1) := by decide +kernel
theorem dL_law_458 : decode cL_law 458 = .ok (.aload_n 1, 1) := by decide +kernel
theorem dL_law_459 : decode cL_law 459 = .ok (.invokevirtual 66, 3) := by decide +kernel
theorem dL_law_462 : decode cL_law 462 = .ok (.aload_n 2, 1) := by decide +kernel
theorem dL_law_463 : decode cL_law 463 = .ok (.invokevirtual 69, 3) := by decide +kernel
theorem dL_law_466 : decode cL_law 466 = .ok (.if_icmp .eq 334, 3) := by decide +kernel
theorem dL_law_469 : decode cL_law 469 = .ok (.iconst 0, 1) := by decide +kernel
theorem dL_law_470 : decode cL_law 470 = .ok (.ireturn, 1) := by decide +kernel
theorem dL_law_471 : decode cL_law 471 = .ok (.aload_n 1, 1) := by decide +kernel
theorem dL_law_472 : decode cL_law 472 = .ok (.aload_n 0, 1) := by decide +kernel
theorem dL_law_473 : decode cL_law 473 = .ok (.iload_n 3, 1) := by decide +kernel
theorem dL_law_474 : decode cL_law 474 = .ok (.iconst 1, 1) := by decide +kernel
theorem dL_law_475 : decode cL_law 475 = .ok (.iadd, 1) := by decide +kernel
theorem dL_law_476 : decode cL_law 476 = .ok (.iaload, 1) := by decide +kernel
theorem dL_law_477 : decode cL_law 477 = .ok (.aload_n 0, 1) := by decide +kernel
theorem dL_law_478 : decode cL_law 478 = .ok (.iload_n 3, 1) := by decide +kernel
theorem dL_law_479 : decode cL_law 479 = .ok (.iconst 2, 1) := by decide +kernel
theorem dL_law_480 : decode cL_law 480 = .ok (.iadd, 1) := by decide +kernel
theorem dL_law_481 : decode cL_law 481 = .ok (.iaload, 1) := by decide +kernel
theorem dL_law_482 : decode cL_law 482 = .ok (.invokevirtual 70, 3) := by decide +kernel
theorem dL_law_485 : decode cL_law 485 = .ok (.aload_n 2, 1) := by decide +kernel
theorem dL_law_486 : decode cL_law 486 = .ok (.aload_n 0, 1) := by decide +kernel
theorem dL_law_487 : decode cL_law 487 = .ok (.iload_n 3, 1) := by decide +kernel
theorem dL_law_488 : decode cL_law 488 = .ok (.iconst 1, 1) := by decide +kernel
theorem dL_law_489 : decode cL_law 489 = .ok (.iadd, 1) := by decide +kernel
theorem dL_law_490 : decode cL_law 490 = .ok (.iaload, 1) := by decide +kernel
theorem dL_law_491 : decode cL_law 491 = .ok (.aload_n 0, 1) := by decide +kernel
theorem dL_law_492 : decode cL_law 492 = .ok (.iload_n 3, 1) := by decide +kernel
theorem dL_law_493 : decode cL_law 493 = .ok (.iconst 2, 1) := by decide +kernel
theorem dL_law_494 : decode cL_law 494 = .ok (.iadd, 1) := by decide +kernel
theorem dL_law_495 : decode cL_law 495 = .ok (.iaload, 1) := by decide +kernel
theorem dL_law_496 : decode cL_law 496 = .ok (.invokevirtual 73, 3) := by decide +kernel
theorem dL_law_499 : decode cL_law 499 = .ok (.if_icmp .eq 301, 3) := by decide +kernel
theorem dL_law_502 : decode cL_law 502 = .ok (.iconst 0, 1) := by decide +kernel
theorem dL_law_503 : decode cL_law 503 = .ok (.ireturn, 1) := by decide +kernel
theorem dL_law_504 : decode cL_law 504 = .ok (.aload_n 1, 1) := by decide +kernel
theorem dL_law_505 : decode cL_law 505 = .ok (.aload_n 0, 1) := by decide +kernel
theorem dL_law_506 : decode cL_law 506 = .ok (.iload_n 3, 1) := by decide +kernel
theorem dL_law_507 : decode cL_law 507 = .ok (.iconst 1, 1) := by decide +kernel
theorem dL_law_508 : decode cL_law 508 = .ok (.iadd, 1) := by decide +kernel
theorem dL_law_509 : decode cL_law 509 = .ok (.iaload, 1) := by decide +kernel
theorem dL_law_510 : decode cL_law 510 = .ok (.aload_n 0, 1) := by decide +kernel
theorem dL_law_511 : decode cL_law 511 = .ok (.iload_n 3, 1) := by decide +kernel
theorem dL_law_512 : decode cL_law 512 = .ok (.iconst 2, 1) := by decide +kernel
theorem dL_law_513 : decode cL_law 513 = .ok (.iadd, 1) := by decide +kernel
theorem dL_law_514 : decode cL_law 514 = .ok (.iaload, 1) := by decide +kernel
theorem dL_law_515 : decode cL_law 515 = .ok (.invokevirtual 74, 3) := by decide +kernel
theorem dL_law_518 : decode cL_law 518 = .ok (.aload_n 2, 1) := by decide +kernel
theorem dL_law_519 : decode cL_law 519 = .ok (.aload_n 0, 1) := by decide +kernel
theorem dL_law_520 : decode cL_law 520 = .ok (.iload_n 3, 1) := by decide +kernel
theorem dL_law_521 : decode cL_law 521 = .ok (.iconst 1, 1) := by decide +kernel
theorem dL_law_522 : decode cL_law 522 = .ok (.iadd, 1) := by decide +kernel
theorem dL_law_523 : decode cL_law 523 = .ok (.iaload, 1) := by decide +kernel
theorem dL_law_524 : decode cL_law 524 = .ok (.aload_n 0, 1) := by decide +kernel
theorem dL_law_525 : decode cL_law 525 = .ok (.iload_n 3, 1) := by decide +kernel
theorem dL_law_526 : decode cL_law 526 = .ok (.iconst 2, 1) := by decide +kernel
theorem dL_law_527 : decode cL_law 527 = .ok (.iadd, 1) := by decide +kernel
theorem dL_law_528 : decode cL_law 528 = .ok (.iaload, 1) := by decide +kernel
theorem dL_law_529 : decode cL_law 529 = .ok (.invokevirtual 77, 3) := by decide +kernel
theorem dL_law_532 : decode cL_law 532 = .ok (.if_icmp .eq 268, 3) := by decide +kernel
theorem dL_law_535 : decode cL_law 535 = .ok (.iconst 0, 1) := by decide +kernel
theorem dL_law_536 : decode cL_law 536 = .ok (.ireturn, 1) := by decide +kernel
theorem dL_law_537 : decode cL_law 537 = .ok (.aload_n 1, 1) := by decide +kernel
theorem dL_law_538 : decode cL_law 538 = .ok (.aload_n 0, 1) := by decide +kernel
theorem dL_law_539 : decode cL_law 539 = .ok (.iload_n 3, 1) := by decide +kernel
theorem dL_law_540 : decode cL_law 540 = .ok (.iconst 1, 1) := by decide +kernel
theorem dL_law_541 : decode cL_law 541 = .ok (.iadd, 1) := by decide +kernel
theorem dL_law_542 : decode cL_law 542 = .ok (.iaload, 1) := by decide +kernel
theorem dL_law_543 : decode cL_law 543 = .ok (.invokevirtual 78, 3) := by decide +kernel
theorem dL_law_546 : decode cL_law 546 = .ok (.aload_n 2, 1) := by decide +kernel
theorem dL_law_547 : decode cL_law 547 = .ok (.aload_n 0, 1) := by decide +kernel
theorem dL_law_548 : decode cL_law 548 = .ok (.iload_n 3, 1) := by decide +kernel
theorem dL_law_549 : decode cL_law 549 = .ok (.iconst 1, 1) := by decide +kernel
theorem dL_law_550 : decode cL_law 550 = .ok (.iadd, 1) := by decide +kernel
theorem dL_law_551 : decode cL_law 551 = .ok (.iaload, 1) := by decide +kernel
theorem dL_law_552 : decode cL_law 552 = .ok (.invokevirtual 81, 3) := by decide +kernel
theorem dL_law_555 : decode cL_law 555 = .ok (.if_icmp .eq 245, 3) := by decide +kernel
theorem dL_law_558 : decode cL_law 558 = .ok (.iconst 0, 1) := by decide +kernel
theorem dL_law_559 : decode cL_law 559 = .ok (.ireturn, 1) := by decide +kernel
theorem dL_law_560 : decode cL_law 560 = .ok (.aload_n 1, 1) := by decide +kernel
theorem dL_law_561 : decode cL_law 561 = .ok (.aload_n 0, 1) := by decide +kernel
theorem dL_law_562 : decode cL_law 562 = .ok (.iload_n 3, 1) := by decide +kernel
theorem dL_law_563 : decode cL_law 563 = .ok (.iconst 1, 1) := by decide +kernel
theorem dL_law_564 : decode cL_law 564 = .ok (.iadd, 1) := by decide +kernel
theorem dL_law_565 : decode cL_law 565 = .ok (.iaload, 1) := by decide +kernel
theorem dL_law_566 : decode cL_law 566 = .ok (.aload_n 0, 1) := by decide +kernel
theorem dL_law_567 : decode cL_law 567 = .ok (.iload_n 3, 1) := by decide +kernel
theorem dL_law_568 : decode cL_law 568 = .ok (.iconst 2, 1) := by decide +kernel
theorem dL_law_569 : decode cL_law 569 = .ok (.iadd, 1) := by decide +kernel
theorem dL_law_570 : decode cL_law 570 = .ok (.iaload, 1) := by decide +kernel
theorem dL_law_571 : decode cL_law 571 = .ok (.invokevirtual 82, 3) := by decide +kernel
theorem dL_law_574 : decode cL_law 574 = .ok (.aload_n 2, 1) := by decide +kernel
theorem dL_law_575 : decode cL_law 575 = .ok (.aload_n 0, 1) := by decide +kernel
theorem dL_law_576 : decode cL_law 576 = .ok (.iload_n 3, 1) := by decide +kernel
theorem dL_law_577 : decode cL_law 577 = .ok (.iconst 1, 1) := by decide +kernel
theorem dL_law_578 : decode cL_law 578 = .ok (.iadd, 1) := by decide +kernel
theorem dL_law_579 : decode cL_law 579 = .ok (.iaload, 1) := by decide +kernel
theorem dL_law_580 : decode cL_law 580 = .ok (.aload_n 0, 1) := by decide +kernel
theorem dL_law_581 : decode cL_law 581 = .ok (.iload_n 3, 1) := by decide +kernel
theorem dL_law_582 : decode cL_law 582 = .ok (.iconst 2, 1) := by decide +kernel
theorem dL_law_583 : decode cL_law 583 = .ok (.iadd, 1) := by decide +kernel
theorem dL_law_584 : decode cL_law 584 = .ok (.iaload, 1) := by decide +kernel
theorem dL_law_585 : decode cL_law 585 = .ok (.invokevirtual 85, 3) := by decide +kernel
theorem dL_law_588 : decode cL_law 588 = .ok (.if_icmp .eq 212, 3) := by decide +kernel
theorem dL_law_591 : decode cL_law 591 = .ok (.iconst 0, 1) := by decide +kernel
theorem dL_law_592 : decode cL_law 592 = .ok (.ireturn, 1) := by decide +kernel
theorem dL_law_593 : decode cL_law 593 = .ok (.aload_n 1, 1) := by decide +kernel
theorem dL_law_594 : decode cL_law 594 = .ok (.aload_n 0, 1) := by decide +kernel
theorem dL_law_595 : decode cL_law 595 = .ok (.iload_n 3, 1) := by decide +kernel
theorem dL_law_596 : decode cL_law 596 = .ok (.iconst 1, 1) := by decide +kernel
theorem dL_law_597 : decode cL_law 597 = .ok (.iadd, 1) := by decide +kernel
theorem dL_law_598 : decode cL_law 598 = .ok (.iaload, 1) := by decide +kernel
theorem dL_law_599 : decode cL_law 599 = .ok (.aload_n 0, 1) := by decide +kernel
theorem dL_law_600 : decode cL_law 600 = .ok (.iload_n 3, 1) := by decide +kernel
theorem dL_law_601 : decode cL_law 601 = .ok (.iconst 2, 1) := by decide +kernel
theorem dL_law_602 : decode cL_law 602 = .ok (.iadd, 1) := by decide +kernel
theorem dL_law_603 : decode cL_law 603 = .ok (.iaload, 1) := by decide +kernel
theorem dL_law_604 : decode cL_law 604 = .ok (.invokevirtual 86, 3) := by decide +kernel
theorem dL_law_607 : decode cL_law 607 = .ok (.aload_n 2, 1) := by decide +kernel
theorem dL_law_608 : decode cL_law 608 = .ok (.aload_n 0, 1) := by decide +kernel
theorem dL_law_609 : decode cL_law 609 = .ok (.iload_n 3, 1) := by decide +kernel
theorem dL_law_610 : decode cL_law 610 = .ok (.iconst 1, 1) := by decide +kernel
theorem dL_law_611 : decode cL_law 611 = .ok (.iadd, 1) := by decide +kernel
theorem dL_law_612 : decode cL_law 612 = .ok (.iaload, 1) := by decide +kernel
theorem dL_law_613 : decode cL_law 613 = .ok (.aload_n 0, 1) := by decide +kernel
theorem dL_law_614 : decode cL_law 614 = .ok (.iload_n 3, 1) := by decide +kernel
theorem dL_law_615 : decode cL_law 615 = .ok (.iconst 2, 1) := by decide +kernel
theorem dL_law_616 : decode cL_law 616 = .ok (.iadd, 1) := by decide +kernel
theorem dL_law_617 : decode cL_law 617 = .ok (.iaload, 1) := by decide +kernel
theorem dL_law_618 : decode cL_law 618 = .ok (.invokevirtual 89, 3) := by decide +kernel
theorem dL_law_621 : decode cL_law 621 = .ok (.if_icmp .eq 179, 3) := by decide +kernel
theorem dL_law_624 : decode cL_law 624 = .ok (.iconst 0, 1) := by decide +kernel
theorem dL_law_625 : decode cL_law 625 = .ok (.ireturn, 1) := by decide +kernel
theorem dL_law_626 : decode cL_law 626 = .ok (.aload_n 1, 1) := by decide +kernel
theorem dL_law_627 : decode cL_law 627 = .ok (.aload_n 0, 1) := by decide +kernel
theorem dL_law_628 : decode cL_law 628 = .ok (.iload_n 3, 1) := by decide +kernel
theorem dL_law_629 : decode cL_law 629 = .ok (.iconst 1, 1) := by decide +kernel
theorem dL_law_630 : decode cL_law 630 = .ok (.iadd, 1) := by decide +kernel
theorem dL_law_631 : decode cL_law 631 = .ok (.iaload, 1) := by decide +kernel
theorem dL_law_632 : decode cL_law 632 = .ok (.ifCond .eq 7, 3) := by decide +kernel
theorem dL_law_635 : decode cL_law 635 = .ok (.iconst 1, 1) := by decide +kernel
theorem dL_law_636 : decode cL_law 636 = .ok (.goto 4, 3) := by decide +kernel
theorem dL_law_639 : decode cL_law 639 = .ok (.iconst 0, 1) := by decide +kernel
theorem dL_law_640 : decode cL_law 640 = .ok (.aload_n 0, 1) := by decide +kernel
theorem dL_law_641 : decode cL_law 641 = .ok (.iload_n 3, 1) := by decide +kernel
theorem dL_law_642 : decode cL_law 642 = .ok (.iconst 2, 1) := by decide +kernel
theorem dL_law_643 : decode cL_law 643 = .ok (.iadd, 1) := by decide +kernel
theorem dL_law_644 : decode cL_law 644 = .ok (.iaload, 1) := by decide +kernel
theorem dL_law_645 : decode cL_law 645 = .ok (.aload_n 0, 1) := by decide +kernel
theorem dL_law_646 : decode cL_law 646 = .ok (.iload_n 3, 1) := by decide +kernel
theorem dL_law_647 : decode cL_law 647 = .ok (.iconst 3, 1) := by decide +kernel
theorem dL_law_648 : decode cL_law 648 = .ok (.iadd, 1) := by decide +kernel
theorem dL_law_649 : decode cL_law 649 = .ok (.iaload, 1) := by decide +kernel
theorem dL_law_650 : decode cL_law 650 = .ok (.invokevirtual 90, 3) := by decide +kernel
theorem dL_law_653 : decode cL_law 653 = .ok (.aload_n 2, 1) := by decide +kernel
theorem dL_law_654 : decode cL_law 654 = .ok (.aload_n 0, 1) := by decide +kernel
theorem dL_law_655 : decode cL_law 655 = .ok (.iload_n 3, 1) := by decide +kernel
theorem dL_law_656 : decode cL_law 656 = .ok (.iconst 1, 1) := by decide +kernel
theorem dL_law_657 : decode cL_law 657 = .ok (.iadd, 1) := by decide +kernel
theorem dL_law_658 : decode cL_law 658 = .ok (.iaload, 1) := by decide +kernel
theorem dL_law_659 : decode cL_law 659 = .ok (.ifCond .eq 7, 3) := by decide +kernel
theorem dL_law_662 : decode cL_law 662 = .ok (.iconst 1, 1) := by decide +kernel
theorem dL_law_663 : decode cL_law 663 = .ok (.goto 4, 3) := by decide +kernel
theorem dL_law_666 : decode cL_law 666 = .ok (.iconst 0, 1) := by decide +kernel
theorem dL_law_667 : decode cL_law 667 = .ok (.aload_n 0, 1) := by decide +kernel
theorem dL_law_668 : decode cL_law 668 = .ok (.iload_n 3, 1) := by decide +kernel
theorem dL_law_669 : decode cL_law 669 = .ok (.iconst 2, 1) := by decide +kernel
theorem dL_law_670 : decode cL_law 670 = .ok (.iadd, 1) := by decide +kernel
theorem dL_law_671 : decode cL_law 671 = .ok (.iaload, 1) := by decide +kernel
theorem dL_law_672 : decode cL_law 672 = .ok (.aload_n 0, 1) := by decide +kernel
theorem dL_law_673 : decode cL_law 673 = .ok (.iload_n 3, 1) := by decide +kernel
theorem dL_law_674 : decode cL_law 674 = .ok (.iconst 3, 1) := by decide +kernel
theorem dL_law_675 : decode cL_law 675 = .ok (.iadd, 1) := by decide +kernel
theorem dL_law_676 : decode cL_law 676 = .ok (.iaload, 1) := by decide +kernel
theorem dL_law_677 : decode cL_law 677 = .ok (.invokevirtual 94, 3) := by decide +kernel
theorem dL_law_680 : decode cL_law 680 = .ok (.if_icmp .eq 120, 3) := by decide +kernel
theorem dL_law_683 : decode cL_law 683 = .ok (.iconst 0, 1) := by decide +kernel
theorem dL_law_684 : decode cL_law 684 = .ok (.ireturn, 1) := by decide +kernel
theorem dL_law_685 : decode cL_law 685 = .ok (.aload_n 1, 1) := by decide +kernel
theorem dL_law_686 : decode cL_law 686 = .ok (.aload_n 0, 1) := by decide +kernel
theorem dL_law_687 : decode cL_law 687 = .ok (.iload_n 3, 1) := by decide +kernel
theorem dL_law_688 : decode cL_law 688 = .ok (.iconst 1, 1) := by decide +kernel
theorem dL_law_689 : decode cL_law 689 = .ok (.iadd, 1) := by decide +kernel
theorem dL_law_690 : decode cL_law 690 = .ok (.iaload, 1) := by decide +kernel
theorem dL_law_691 : decode cL_law 691 = .ok (.invokevirtual 95, 3) := by decide +kernel
theorem dL_law_694 : decode cL_law 694 = .ok (.aload_n 2, 1) := by decide +kernel
theorem dL_law_695 : decode cL_law 695 = .ok (.aload_n 0, 1) := by decide +kernel
theorem dL_law_696 : decode cL_law 696 = .ok (.iload_n 3, 1) := by decide +kernel
theorem dL_law_697 : decode cL_law 697 = .ok (.iconst 1, 1) := by decide +kernel
theorem dL_law_698 : decode cL_law 698 = .ok (.iadd, 1) := by decide +kernel
theorem dL_law_699 : decode cL_law 699 = .ok (.iaload, 1) := by decide +kernel
theorem dL_law_700 : decode cL_law 700 = .ok (.invokevirtual 98, 3) := by decide +kernel
theorem dL_law_703 : decode cL_law 703 = .ok (.if_icmp .eq 97, 3) := by decide +kernel
theorem dL_law_706 : decode cL_law 706 = .ok (.iconst 0, 1) := by decide +kernel
theorem dL_law_707 : decode cL_law 707 = .ok (.ireturn, 1) := by decide +kernel
theorem dL_law_708 : decode cL_law 708 = .ok (.aload_n 1, 1) := by decide +kernel
theorem dL_law_709 : decode cL_law 709 = .ok (.aload_n 0, 1) := by decide +kernel
theorem dL_law_710 : decode cL_law 710 = .ok (.iload_n 3, 1) := by decide +kernel
theorem dL_law_711 : decode cL_law 711 = .ok (.iconst 1, 1) := by decide +kernel
theorem dL_law_712 : decode cL_law 712 = .ok (.iadd, 1) := by decide +kernel
theorem dL_law_713 : decode cL_law 713 = .ok (.iaload, 1) := by decide +kernel
theorem dL_law_714 : decode cL_law 714 = .ok (.invokevirtual 99, 3) := by decide +kernel
theorem dL_law_717 : decode cL_law 717 = .ok (.aload_n 2, 1) := by decide +kernel
theorem dL_law_718 : decode cL_law 718 = .ok (.aload_n 0, 1) := by decide +kernel
theorem dL_law_719 : decode cL_law 719 = .ok (.iload_n 3, 1) := by decide +kernel
theorem dL_law_720 : decode cL_law 720 = .ok (.iconst 1, 1) := by decide +kernel
theorem dL_law_721 : decode cL_law 721 = .ok (.iadd, 1) := by decide +kernel
theorem dL_law_722 : decode cL_law 722 = .ok (.iaload, 1) := by decide +kernel
theorem dL_law_723 : decode cL_law 723 = .ok (.invokevirtual 102, 3) := by decide +kernel
theorem dL_law_726 : decode cL_law 726 = .ok (.if_icmp .eq 74, 3) := by decide +kernel
theorem dL_law_729 : decode cL_law 729 = .ok (.iconst 0, 1) := by decide +kernel
theorem dL_law_730 : decode cL_law 730 = .ok (.ireturn, 1) := by decide +kernel
theorem dL_law_731 : decode cL_law 731 = .ok (.aload_n 1, 1) := by decide +kernel
theorem dL_law_732 : decode cL_law 732 = .ok (.aload_n 0, 1) := by decide +kernel
theorem dL_law_733 : decode cL_law 733 = .ok (.iload_n 3, 1) := by decide +kernel
theorem dL_law_734 : decode cL_law 734 = .ok (.iconst 1, 1) := by decide +kernel
theorem dL_law_735 : decode cL_law 735 = .ok (.iadd, 1) := by decide +kernel
theorem dL_law_736 : decode cL_law 736 = .ok (.iaload, 1) := by decide +kernel
theorem dL_law_737 : decode cL_law 737 = .ok (.invokevirtual 103, 3) := by decide +kernel
theorem dL_law_740 : decode cL_law 740 = .ok (.aload_n 2, 1) := by decide +kernel
theorem dL_law_741 : decode cL_law 741 = .ok (.aload_n 0, 1) := by decide +kernel
theorem dL_law_742 : decode cL_law 742 = .ok (.iload_n 3, 1) := by decide +kernel
theorem dL_law_743 : decode cL_law 743 = .ok (.iconst 1, 1) := by decide +kernel
theorem dL_law_744 : decode cL_law 744 = .ok (.iadd, 1) := by decide +kernel
theorem dL_law_745 : decode cL_law 745 = .ok (.iaload, 1) := by decide +kernel
theorem dL_law_746 : decode cL_law 746 = .ok (.invokevirtual 106, 3) := by decide +kernel
theorem dL_law_749 : decode cL_law 749 = .ok (.if_icmp .eq 51, 3) := by decide +kernel
theorem dL_law_752 : decode cL_law 752 = .ok (.iconst 0, 1) := by decide +kernel
theorem dL_law_753 : decode cL_law 753 = .ok (.ireturn, 1) := by decide +kernel
theorem dL_law_754 : decode cL_law 754 = .ok (.aload_n 1, 1) := by decide +kernel
theorem dL_law_755 : decode cL_law 755 = .ok (.aload_n 0, 1) := by decide +kernel
theorem dL_law_756 : decode cL_law 756 = .ok (.iload_n 3, 1) := by decide +kernel
theorem dL_law_757 : decode cL_law 757 = .ok (.iconst 1, 1) := by decide +kernel
theorem dL_law_758 : decode cL_law 758 = .ok (.iadd, 1) := by decide +kernel
theorem dL_law_759 : decode cL_law 759 = .ok (.iaload, 1) := by decide +kernel
theorem dL_law_760 : decode cL_law 760 = .ok (.invokevirtual 107, 3) := by decide +kernel
theorem dL_law_763 : decode cL_law 763 = .ok (.aload_n 2, 1) := by decide +kernel
theorem dL_law_764 : decode cL_law 764 = .ok (.aload_n 0, 1) := by decide +kernel
theorem dL_law_765 : decode cL_law 765 = .ok (.iload_n 3, 1) := by decide +kernel
theorem dL_law_766 : decode cL_law 766 = .ok (.iconst 1, 1) := by decide +kernel
theorem dL_law_767 : decode cL_law 767 = .ok (.iadd, 1) := by decide +kernel
theorem dL_law_768 : decode cL_law 768 = .ok (.iaload, 1) := by decide +kernel
theorem dL_law_769 : decode cL_law 769 = .ok (.invokevirtual 110, 3) := by decide +kernel
theorem dL_law_772 : decode cL_law 772 = .ok (.if_icmp .eq 28, 3) := by decide +kernel
theorem dL_law_775 : decode cL_law 775 = .ok (.iconst 0, 1) := by decide +kernel
theorem dL_law_776 : decode cL_law 776 = .ok (.ireturn, 1) := by decide +kernel
theorem dL_law_777 : decode cL_law 777 = .ok (.aload_n 1, 1) := by decide +kernel
theorem dL_law_778 : decode cL_law 778 = .ok (.aload_n 0, 1) := by decide +kernel
theorem dL_law_779 : decode cL_law 779 = .ok (.iload_n 3, 1) := by decide +kernel
theorem dL_law_780 : decode cL_law 780 = .ok (.iconst 1, 1) := by decide +kernel
theorem dL_law_781 : decode cL_law 781 = .ok (.iadd, 1) := by decide +kernel
theorem dL_law_782 : decode cL_law 782 = .ok (.iaload, 1) := by decide +kernel
theorem dL_law_783 : decode cL_law 783 = .ok (.invokevirtual 111, 3) := by decide +kernel
theorem dL_law_786 : decode cL_law 786 = .ok (.aload_n 2, 1) := by decide +kernel
theorem dL_law_787 : decode cL_law 787 = .ok (.aload_n 0, 1) := by decide +kernel
theorem dL_law_788 : decode cL_law 788 = .ok (.iload_n 3, 1) := by decide +kernel
theorem dL_law_789 : decode cL_law 789 = .ok (.iconst 1, 1) := by decide +kernel
theorem dL_law_790 : decode cL_law 790 = .ok (.iadd, 1) := by decide +kernel
theorem dL_law_791 : decode cL_law 791 = .ok (.iaload, 1) := by decide +kernel
theorem dL_law_792 : decode cL_law 792 = .ok (.invokevirtual 114, 3) := by decide +kernel
theorem dL_law_795 : decode cL_law 795 = .ok (.if_icmp .eq 5, 3) := by decide +kernel
theorem dL_law_798 : decode cL_law 798 = .ok (.iconst 0, 1) := by decide +kernel
theorem dL_law_799 : decode cL_law 799 = .ok (.ireturn, 1) := by decide +kernel
theorem dL_law_800 : decode cL_law 800 = .ok (.iinc 3 5, 3) := by decide +kernel
theorem dL_law_803 : decode cL_law 803 = .ok (.goto (-785), 3) := by decide +kernel
theorem dL_law_806 : decode cL_law 806 = .ok (.iconst 1, 1) := by decide +kernel
theorem dL_law_807 : decode cL_law 807 = .ok (.ireturn, 1) := by decide +kernel
end
section

/-! THE PICTURE: the world is a list of kinds (an object of a class, or an array of a type and a length), the references that cells hold, and the ints that cells hold.
A value is an int or a reference: none is the script, some k the cell k of the list. 'ad' gives the cells' addresses. -/
abbrev xV : Type := Int32 ⊕ Option Nat
abbrev xI : Type := Nat → Nat → Int32
abbrev xF : Type := Nat → Nat → Option Nat
abbrev xS : Type := List (Nat ⊕ (FieldType × Nat)) × xF × xI
/-- a method: name, bytes, locals, what it returns, frames and words of locals that its calls need -/
abbrev xM : Type := MethodName × ByteArray × Nat × Option FieldType × Nat × Nat
abbrev xY (M : xM) : MethodName := M.1
abbrev xB (M : xM) : ByteArray := M.2.1
abbrev xL (M : xM) : Nat := M.2.2.1
abbrev xT (M : xM) : Option FieldType := M.2.2.2.1
abbrev xFr (M : xM) : Nat := M.2.2.2.2.1
abbrev xLo (M : xM) : Nat := M.2.2.2.2.2
def xvm (b : Nat) (ad : Nat → Nat) : xV → Value
  | .inl x => .int x
  | .inr none => .ref b
  | .inr (some k) => .ref (ad k)
def xLv (g : xV → Value) (ls : List (Option xV)) : List (Nat × Value) := ls.zipIdx.filterMap (fun q => q.1.map (fun v => (q.2, g v)))
theorem xLv_mem {g : xV → Value} {ls : List (Option xV)} {q : Nat × Value} : q ∈ xLv g ls ↔ ∃ v, ls[q.1]? = some (some v) ∧ q.2 = g v := by
  unfold xLv
  rw [List.mem_filterMap]
  constructor
  · rintro ⟨⟨o, i⟩, h1, h2⟩
    rw [List.mem_zipIdx_iff_getElem?] at h1
    cases o with
    | none => simp at h2
    | some v =>
      simp only [Option.map_some, Option.some.injEq] at h2
      subst h2
      exact ⟨v, h1, rfl⟩
  · rintro ⟨v, h1, h2⟩
    refine ⟨(some v, q.1), ?_, ?_⟩
    · rw [List.mem_zipIdx_iff_getElem?]; exact h1
    · simp [← h2]
theorem lv_has_mono {ls : Array Slot} {n : Nat} {l l' : List (Nat × Value)} (h : lv_has ls n l) (hs : ∀ q ∈ l', q ∈ l) : lv_has ls n l' := ⟨h.1, h.2.1, fun q hq => h.2.2 q (hs q hq)⟩
theorem xvm_cat (b : Nat) (ad : Nat → Nat) (v : xV) : (xvm b ad v).category = 1 := by
  rcases v with x | (_ | k) <;> rfl
theorem xLv_at {LS : Array Slot} {n : Nat} {g : xV → Value} {ls : List (Option xV)} (h : lv_has LS n (xLv g ls)) {i : Nat} {v : xV} (hi : ls[i]? = some (some v)) : LS[i]? = some (.val (g v)) := h.2.2 (i, g v) (xLv_mem.mpr ⟨v, hi, rfl⟩)
theorem xLv_set {LS : Array Slot} {n i : Nat} {b : Nat} {ad : Nat → Nat} {ls : List (Option xV)} {v : xV} {w : Value} (hw : w = xvm b ad v)
    (h : lv_has LS n ((i, w) :: (xLv (xvm b ad) ls).filter (fun q => !(q.1 == i) && !(q.1 + 1 == i && q.2.category == 2)))) : lv_has LS n (xLv (xvm b ad) (ls.set i (some v))) := by
  subst hw
  refine lv_has_mono h (fun q hq => ?_)
  obtain ⟨u, h1, h2⟩ := xLv_mem.mp hq
  by_cases hj : q.1 = i
  · rw [hj] at h1
    rw [List.getElem?_set_self'] at h1
    cases hz : ls[i]? with
    | none => rw [hz] at h1; simp at h1
    | some z =>
      rw [hz] at h1
      simp at h1
      refine List.mem_cons.mpr (Or.inl ?_)
      obtain ⟨q1, q2⟩ := q
      simp only at hj h2
      rw [hj, h2, h1]
  · rw [List.getElem?_set_ne (Ne.symm hj)] at h1
    refine List.mem_cons.mpr (Or.inr (List.mem_filter.mpr ⟨xLv_mem.mpr ⟨u, h1, h2⟩, ?_⟩))
    have hc : q.2.category = 1 := by rw [h2]; exact xvm_cat b ad u
    simp [hj, hc]
/-! the cells -/
def xRf : FieldType → Bool
  | .object _ => true
  | .array _ => true
  | _ => false
def xTy (ci : Nat) : Nat → FieldType := match ci with
  | 0 => tyX0
  | 1 => tyX1
  | 2 => tyX2
  | 3 => tyX3
  | 4 => tyX4
  | 5 => tyX5
  | 6 => tyX6
  | _ => tyX7
def xN (ci : Nat) : Nat := match ci with
  | 0 => 8
  | 1 => 4
  | 2 => 3
  | 3 => 2
  | 4 => 6
  | 5 => 9
  | 6 => 13
  | _ => 19
def xfv (ad : Nat → Nat) (f : Nat → Option Nat) (r : Nat → Int32) (ci j : Nat) : Value := if xRf (xTy ci j) = true then va_rf ((f j).map ad) else .int (r j)
def xE (dA : FieldType → ClassId) (ad : Nat → Nat) (f : Nat → Option Nat) (r : Nat → Int32) : Nat ⊕ (FieldType × Nat) → va_E
  | .inl ci => .inr (ci, (List.range (xN ci)).map (xfv ad f r ci))
  | .inr q => .inl (dA q.1, q.2, if xRf q.1 = true then .inr (.inr (.inr (.inr (fun j => (f j).map ad)))) else .inl r)
def xWs (dA : FieldType → ClassId) (ad : Nat → Nat) (σ : xS) : va_W := σ.1.zipIdx.map (fun q => (ad q.2, xE dA ad (σ.2.1 q.2) (σ.2.2 q.2) q.1))
theorem xWs_at (dA : FieldType → ClassId) (ad : Nat → Nat) (σ : xS) (k : Nat) : (xWs dA ad σ)[k]? = (σ.1[k]?).map (fun kd => (ad k, xE dA ad (σ.2.1 k) (σ.2.2 k) kd)) := by
  unfold xWs
  rw [List.getElem?_map, List.getElem?_zipIdx]
  cases σ.1[k]? <;> simp
theorem xWs_some {dA : FieldType → ClassId} {ad : Nat → Nat} {σ : xS} {k : Nat} {kd : Nat ⊕ (FieldType × Nat)} (h : σ.1[k]? = some kd) : (xWs dA ad σ)[k]? = some (ad k, xE dA ad (σ.2.1 k) (σ.2.2 k) kd) := by rw [xWs_at, h]; rfl
theorem xWs_len (dA : FieldType → ClassId) (ad : Nat → Nat) (σ : xS) : (xWs dA ad σ).length = σ.1.length := by simp [xWs]
def xup {α : Type} (f : Nat → Nat → α) (k j : Nat) (x : α) : Nat → Nat → α := fun a c => if a = k then (if c = j then x else f a c) else f a c
theorem xup_row {α : Type} (f : Nat → Nat → α) (k j : Nat) (x : α) : xup f k j x k = fun c => if c = j then x else f k c := by funext c; simp [xup]
theorem xup_other {α : Type} (f : Nat → Nat → α) (k j : Nat) (x : α) {a : Nat} (h : ¬ a = k) : xup f k j x a = f a := by funext c; simp [xup, h]
theorem xWs_upI {dA : FieldType → ClassId} {ad : Nat → Nat} {sh : List (Nat ⊕ (FieldType × Nat))} {F : xF} {I : xI} {k j : Nat} {x : Int32} {kd : Nat ⊕ (FieldType × Nat)} (h : sh[k]? = some kd) :
    (xWs dA ad (sh, F, I)).set k (ad k, xE dA ad (F k) (fun c => if c = j then x else I k c) kd) = xWs dA ad (sh, F, xup I k j x) := by
  have hl : k < sh.length := (List.getElem?_eq_some_iff.mp h).1
  refine List.ext_getElem? (fun i => ?_)
  by_cases hi : i = k
  · subst hi
    rw [List.getElem?_set_self (by rw [xWs_len]; exact hl), xWs_some (σ := (sh, F, xup I i j x)) h]
    show _ = some (ad i, xE dA ad (F i) (xup I i j x i) kd)
    rw [xup_row]
  · rw [List.getElem?_set_ne (Ne.symm hi), xWs_at, xWs_at]
    show Option.map (fun kd => (ad i, xE dA ad (F i) (I i) kd)) sh[i]? = Option.map (fun kd => (ad i, xE dA ad (F i) (xup I k j x i) kd)) sh[i]?
    rw [xup_other _ _ _ _ hi]
theorem xWs_upF {dA : FieldType → ClassId} {ad : Nat → Nat} {sh : List (Nat ⊕ (FieldType × Nat))} {F : xF} {I : xI} {k j : Nat} {x : Option Nat} {kd : Nat ⊕ (FieldType × Nat)} (h : sh[k]? = some kd) :
    (xWs dA ad (sh, F, I)).set k (ad k, xE dA ad (fun c => if c = j then x else F k c) (I k) kd) = xWs dA ad (sh, xup F k j x, I) := by
  have hl : k < sh.length := (List.getElem?_eq_some_iff.mp h).1
  refine List.ext_getElem? (fun i => ?_)
  by_cases hi : i = k
  · subst hi
    rw [List.getElem?_set_self (by rw [xWs_len]; exact hl), xWs_some (σ := (sh, xup F i j x, I)) h]
    show _ = some (ad i, xE dA ad (xup F i j x i) (I i) kd)
    rw [xup_row]
  · rw [List.getElem?_set_ne (Ne.symm hi), xWs_at, xWs_at]
    show Option.map (fun kd => (ad i, xE dA ad (F i) (I i) kd)) sh[i]? = Option.map (fun kd => (ad i, xE dA ad (xup F k j x i) (I i) kd)) sh[i]?
    rw [xup_other _ _ _ _ hi]
/-- how many slots a world has -/
def xSz : Nat ⊕ (FieldType × Nat) → Nat
  | .inl ci => xN ci
  | .inr q => q.2
def xC (σ : xS) : Nat := σ.1.length
def xW (σ : xS) : Nat := (σ.1.map xSz).sum
/-- references lie in the world -/
def xFw (σ : xS) : Prop := ∀ k j r, σ.2.1 k j = some r → k < σ.1.length ∧ r < σ.1.length
/-! the words -/
def xWd : List Cond := lw_tbl.filter goodWord
theorem xWd_of {w : Cond} (i : Nat) (h : lw_tbl[i]? = some w) (hg : goodWord w = true) : w ∈ xWd := List.mem_filter.mpr ⟨List.mem_of_getElem? h, hg⟩
def xMw (M : xM) : List Cond := Cond.code (xY M) (xB M) (xL M) (xT M) :: xWd
/-- a method that can be called: its code, its class's start -/
def xGood (M : xM) : Prop := plainName (xY M).cls = true ∧ Cond.code (xY M) (xB M) (xL M) (xT M) ∈ xWd ∧ Cond.initialized (xY M).cls ∈ xWd ∧ ((xY M).cls ≠ "java/lang/invoke/MethodHandle" ∧ (xY M).cls ≠ "java/lang/invoke/VarHandle")
theorem xMw_good {M : xM} (h : xGood M) : GoodIn xWd (xMw M) := by
  intro w hw
  rcases List.mem_cons.mp hw with e | e
  · rw [e]; exact ⟨h.2.1, good_of_word (List.mem_filter.mp h.2.1).2⟩
  · exact ⟨e, good_of_word (List.mem_filter.mp e).2⟩
/-- the calls of nest mates' private members -/
def xIsN : Cond → Bool
  | .methodLinkNest .. => true
  | _ => false
def xNw : List Cond := tables_1.filter xIsN
theorem xNw_tab {w : Cond} (h : w ∈ xNw) : ∃ a i y n, w = .methodLinkNest a i y n := by
  have h2 := (List.mem_filter.mp h).2
  cases w <;> first | exact ⟨_, _, _, _, rfl⟩ | cases h2
theorem xNw_of {w : Cond} (i : Nat) (h : tables_1[i]? = some w) (hg : xIsN w = true) : w ∈ xNw := List.mem_filter.mpr ⟨List.mem_of_getElem? h, hg⟩
def xTys (dA : FieldType → ClassId) : List (ClassId × FieldType) := [(dA .int, .int), (dA .char, .char), (dA .boolean, .boolean), (dA (.object "FenceDuel$State"), .object "FenceDuel$State")]
def xCtx (X : Option (Nat × (Nat → Int32))) (M : xM) (p : Program) (R : Room) (s : State) (m : MethodId) (args : Array Value) (meth : Method) (c : Code) (D : va_G) (dA : FieldType → ClassId) (A : Nat → Prop) (b : Nat) : Prop :=
  p.tables.exec = Jvm.exec ∧ c.code = xB M ∧ c.maxLocals = xL M ∧ s.vm.findClass (xY M).cls = some m.cls ∧ (∀ w ∈ xWd, w.before args s = true) ∧ (∀ w ∈ xNw, va_Nw w s) ∧ va_AO "FenceDuel$State" s ∧ ((xY M).name = "<init>" → meth.name = "<init>") ∧ xFr M ≤ R.frames ∧ xLo M ≤ R.locals ∧
  va_K D vwCl (xTys dA) s ∧ (∀ q, s.heap.size ≤ q → A q) ∧ (∀ L xs, X = some (L, xs) → va_X b L xs s s.heap ∧ b < s.heap.size ∧ ¬ A b)
def xRel (D : va_G) (dA : FieldType → ClassId) (A : Nat → Prop) (σ : xS) (ad : Nat → Nat) (H : Heap) : Prop := va_P D vwCl (xWs dA ad σ) H ∧ va_D A (xWs dA ad σ) ∧ xFw σ
def xEnd (M : xM) (pc : Nat) : Option Int32 → Prop
  | none => xT M = none ∧ decode (xB M) pc = .ok (.return_, 1)
  | some x => ∃ ty, xT M = some ty ∧ narrow ty (.int x) = .int x ∧ decode (xB M) pc = .ok (.ireturn, 1)
def xAg (σ σ' : xS) (ad ad' : Nat → Nat) : Prop := ∀ k, ¬ (σ.1.length ≤ k ∧ k < σ'.1.length) → ad' k = ad k
def xst (v : Option Int32) : List Value := (v.map Value.int).toList
/-- THE JUDGEMENT: from pc, with these locals and this stack over the world σ, the method comes to its end with o's answer and world (none: nothing is said) -/
def Ex (X : Option (Nat × (Nat → Int32))) (M : xM) (pc : Nat) (ls : List (Option xV)) (st : List xV) (σ : xS) (o : Option (Option Int32 × xS)) : Prop :=
  ∀ v σ', o = some (v, σ') → σ.1 <+: σ'.1 ∧
    ∀ {p : Program} {l : Launch} {e : Env} {R : Room} {s : State} {m : MethodId} {args : Array Value} {below : List Frame} {meth : Method} {c : Code} {H : Heap} {locs : List Loc} {cells slots : Nat} {Q : State → Prop} (D : va_G) (dA : FieldType → ClassId) (A : Nat → Prop) (b : Nat) (ad : Nat → Nat) (LS : Array Slot),
      xCtx X M p R s m args meth c D dA A b → cells + (xC σ' - xC σ) ≤ R.cells ∧ slots + (xW σ' - xW σ) ≤ R.slots → xRel D dA A σ ad H → va_S A s.heap H locs → lv_has LS (xL M) (xLv (xvm b ad) ls) →
      (∀ (pc' : Nat) (LS' : Array Slot) (H' : Heap) (locs' : List Loc) (ad' : Nat → Nat), xAg σ σ' ad ad' → xRel D dA A σ' ad' H' → va_S A s.heap H' locs' → xEnd M pc' v → W p l e R s m args below meth c H' locs' (cells + (xC σ' - xC σ)) (slots + (xW σ' - xW σ)) Q (F0 m pc' LS' (xst v))) →
      W p l e R s m args below meth c H locs cells slots Q (F0 m pc LS (st.map (xvm b ad)))
section EX
variable {X : Option (Nat × (Nat → Int32))} {M : xM} {pc : Nat} {ls : List (Option xV)} {st : List xV} {σ : xS} {o : Option (Option Int32 × xS)}
theorem Ex.nil : Ex X M pc ls st σ none := fun _ _ h => by cases h
theorem Ex.ite {c : Prop} (inst : Decidable c) {o1 o2 : Option (Option Int32 × xS)} (h1 : c → Ex X M pc ls st σ o1) (h2 : ¬ c → Ex X M pc ls st σ o2) : Ex X M pc ls st σ (@_root_.ite _ c inst o1 o2) := by
  by_cases h : c
  · rw [if_pos h]; exact h1 h
  · rw [if_neg h]; exact h2 h
theorem Ex.guard {c : Prop} (inst : Decidable c) (h1 : c → Ex X M pc ls st σ o) : Ex X M pc ls st σ (@_root_.ite _ c inst o Option.none) := Ex.ite inst h1 (fun _ => Ex.nil)

theorem Ex.iconst {n : Int} {x : Int32} (hd : decode (xB M) pc = .ok (.iconst n, 1)) (hv : Int32.ofInt n = x) (k : Ex X M (pc + 1) ls (.inl x :: st) σ o) : Ex X M pc ls (st) σ o := by
  intro v σ' ho
  obtain ⟨h1, h2⟩ := k v σ' ho
  refine ⟨h1, fun D dA A b ad LS C hcs hR hS hl K => ?_⟩
  exact lv_iconst C.1 C.2.1 hd hv (h2 D dA A b ad LS C hcs hR hS hl K)
theorem Ex.bipush {n : Int} {x : Int32} (hd : decode (xB M) pc = .ok (.bipush n, 2)) (hv : (Int8.ofInt n).toInt32 = x) (k : Ex X M (pc + 2) ls (.inl x :: st) σ o) : Ex X M pc ls (st) σ o := by
  intro v σ' ho
  obtain ⟨h1, h2⟩ := k v σ' ho
  refine ⟨h1, fun D dA A b ad LS C hcs hR hS hl K => ?_⟩
  exact lv_bipush C.1 C.2.1 hd hv (h2 D dA A b ad LS C hcs hR hS hl K)
theorem Ex.sipush {n : Int} {x : Int32} (hd : decode (xB M) pc = .ok (.sipush n, 3)) (hv : (Int16.ofInt n).toInt32 = x) (k : Ex X M (pc + 3) ls (.inl x :: st) σ o) : Ex X M pc ls (st) σ o := by
  intro v σ' ho
  obtain ⟨h1, h2⟩ := k v σ' ho
  refine ⟨h1, fun D dA A b ad LS C hcs hR hS hl K => ?_⟩
  exact lv_sipush C.1 C.2.1 hd hv (h2 D dA A b ad LS C hcs hR hS hl K)
theorem Ex.ldc {n : Nat} {x : Int32} (hd : decode (xB M) pc = .ok (.ldc n, 2)) (hw : Cond.constant (xY M).cls n x ∈ xWd) (k : Ex X M (pc + 2) ls (.inl x :: st) σ o) : Ex X M pc ls (st) σ o := by
  intro v σ' ho
  obtain ⟨h1, h2⟩ := k v σ' ho
  refine ⟨h1, fun D dA A b ad LS C hcs hR hS hl K => ?_⟩
  exact lv_ldc C.1 C.2.1 C.2.2.2.1 (C.2.2.2.2.1 _ hw) hd (h2 D dA A b ad LS C hcs hR hS hl K)
theorem Ex.iload_n {k0 : Fin 4} {i : Nat} {x : Int32} (hd : decode (xB M) pc = .ok (.iload_n k0, 1)) (hi : (k0 : Nat) = i) (hg : ls[i]? = some (some (.inl x))) (k : Ex X M (pc + 1) ls (.inl x :: st) σ o) : Ex X M pc ls (st) σ o := by
  intro v σ' ho
  obtain ⟨h1, h2⟩ := k v σ' ho
  refine ⟨h1, fun D dA A b ad LS C hcs hR hS hl K => ?_⟩
  exact lv_iload_n C.1 C.2.1 hd hi (xLv_at hl hg) (h2 D dA A b ad LS C hcs hR hS hl K)
theorem Ex.iload {i : Nat} {x : Int32} (hd : decode (xB M) pc = .ok (.iload i, 2)) (hg : ls[i]? = some (some (.inl x))) (k : Ex X M (pc + 2) ls (.inl x :: st) σ o) : Ex X M pc ls (st) σ o := by
  intro v σ' ho
  obtain ⟨h1, h2⟩ := k v σ' ho
  refine ⟨h1, fun D dA A b ad LS C hcs hR hS hl K => ?_⟩
  exact lv_iload C.1 C.2.1 hd (xLv_at hl hg) (h2 D dA A b ad LS C hcs hR hS hl K)
theorem Ex.aload_n {k0 : Fin 4} {i : Nat} {r : Option Nat} (hd : decode (xB M) pc = .ok (.aload_n k0, 1)) (hi : (k0 : Nat) = i) (hg : ls[i]? = some (some (.inr r))) (k : Ex X M (pc + 1) ls (.inr r :: st) σ o) : Ex X M pc ls (st) σ o := by
  intro v σ' ho
  obtain ⟨h1, h2⟩ := k v σ' ho
  refine ⟨h1, fun D dA A b ad LS C hcs hR hS hl K => ?_⟩
  exact (by cases r with | none => exact lv_aload_n C.1 C.2.1 hd hi (xLv_at hl hg) (h2 D dA A b ad LS C hcs hR hS hl K) | some r => exact lv_aload_n C.1 C.2.1 hd hi (xLv_at hl hg) (h2 D dA A b ad LS C hcs hR hS hl K))
theorem Ex.aload {i : Nat} {r : Option Nat} (hd : decode (xB M) pc = .ok (.aload i, 2)) (hg : ls[i]? = some (some (.inr r))) (k : Ex X M (pc + 2) ls (.inr r :: st) σ o) : Ex X M pc ls (st) σ o := by
  intro v σ' ho
  obtain ⟨h1, h2⟩ := k v σ' ho
  refine ⟨h1, fun D dA A b ad LS C hcs hR hS hl K => ?_⟩
  exact (by cases r with | none => exact lv_aload C.1 C.2.1 hd (xLv_at hl hg) (h2 D dA A b ad LS C hcs hR hS hl K) | some r => exact lv_aload C.1 C.2.1 hd (xLv_at hl hg) (h2 D dA A b ad LS C hcs hR hS hl K))
theorem Ex.iadd {x y : Int32} (hd : decode (xB M) pc = .ok (.iadd, 1)) (k : Ex X M (pc + 1) ls (.inl (x + y) :: st) σ o) : Ex X M pc ls (.inl y :: .inl x :: st) σ o := by
  intro v σ' ho
  obtain ⟨h1, h2⟩ := k v σ' ho
  refine ⟨h1, fun D dA A b ad LS C hcs hR hS hl K => ?_⟩
  exact lv_iadd C.1 C.2.1 hd (h2 D dA A b ad LS C hcs hR hS hl K)
theorem Ex.isub {x y : Int32} (hd : decode (xB M) pc = .ok (.isub, 1)) (k : Ex X M (pc + 1) ls (.inl (x - y) :: st) σ o) : Ex X M pc ls (.inl y :: .inl x :: st) σ o := by
  intro v σ' ho
  obtain ⟨h1, h2⟩ := k v σ' ho
  refine ⟨h1, fun D dA A b ad LS C hcs hR hS hl K => ?_⟩
  exact lv_isub C.1 C.2.1 hd (h2 D dA A b ad LS C hcs hR hS hl K)
theorem Ex.imul {x y : Int32} (hd : decode (xB M) pc = .ok (.imul, 1)) (k : Ex X M (pc + 1) ls (.inl (x * y) :: st) σ o) : Ex X M pc ls (.inl y :: .inl x :: st) σ o := by
  intro v σ' ho
  obtain ⟨h1, h2⟩ := k v σ' ho
  refine ⟨h1, fun D dA A b ad LS C hcs hR hS hl K => ?_⟩
  exact lv_imul C.1 C.2.1 hd (h2 D dA A b ad LS C hcs hR hS hl K)
theorem Ex.iand {x y : Int32} (hd : decode (xB M) pc = .ok (.iand, 1)) (k : Ex X M (pc + 1) ls (.inl (x &&& y) :: st) σ o) : Ex X M pc ls (.inl y :: .inl x :: st) σ o := by
  intro v σ' ho
  obtain ⟨h1, h2⟩ := k v σ' ho
  refine ⟨h1, fun D dA A b ad LS C hcs hR hS hl K => ?_⟩
  exact lv_iand C.1 C.2.1 hd (h2 D dA A b ad LS C hcs hR hS hl K)
theorem Ex.ior {x y : Int32} (hd : decode (xB M) pc = .ok (.ior, 1)) (k : Ex X M (pc + 1) ls (.inl (x ||| y) :: st) σ o) : Ex X M pc ls (.inl y :: .inl x :: st) σ o := by
  intro v σ' ho
  obtain ⟨h1, h2⟩ := k v σ' ho
  refine ⟨h1, fun D dA A b ad LS C hcs hR hS hl K => ?_⟩
  exact lv_ior C.1 C.2.1 hd (h2 D dA A b ad LS C hcs hR hS hl K)
theorem Ex.ixor {x y : Int32} (hd : decode (xB M) pc = .ok (.ixor, 1)) (k : Ex X M (pc + 1) ls (.inl (x ^^^ y) :: st) σ o) : Ex X M pc ls (.inl y :: .inl x :: st) σ o := by
  intro v σ' ho
  obtain ⟨h1, h2⟩ := k v σ' ho
  refine ⟨h1, fun D dA A b ad LS C hcs hR hS hl K => ?_⟩
  exact lv_ixor C.1 C.2.1 hd (h2 D dA A b ad LS C hcs hR hS hl K)
theorem Ex.ishl {x y : Int32} (hd : decode (xB M) pc = .ok (.ishl, 1)) (k : Ex X M (pc + 1) ls (.inl (x <<< (y &&& 31)) :: st) σ o) : Ex X M pc ls (.inl y :: .inl x :: st) σ o := by
  intro v σ' ho
  obtain ⟨h1, h2⟩ := k v σ' ho
  refine ⟨h1, fun D dA A b ad LS C hcs hR hS hl K => ?_⟩
  exact lv_ishl C.1 C.2.1 hd (h2 D dA A b ad LS C hcs hR hS hl K)
theorem Ex.ishr {x y : Int32} (hd : decode (xB M) pc = .ok (.ishr, 1)) (k : Ex X M (pc + 1) ls (.inl (x >>> (y &&& 31)) :: st) σ o) : Ex X M pc ls (.inl y :: .inl x :: st) σ o := by
  intro v σ' ho
  obtain ⟨h1, h2⟩ := k v σ' ho
  refine ⟨h1, fun D dA A b ad LS C hcs hR hS hl K => ?_⟩
  exact lv_ishr C.1 C.2.1 hd (h2 D dA A b ad LS C hcs hR hS hl K)
theorem Ex.ineg {x : Int32} (hd : decode (xB M) pc = .ok (.ineg, 1)) (k : Ex X M (pc + 1) ls (.inl (-x) :: st) σ o) : Ex X M pc ls (.inl x :: st) σ o := by
  intro v σ' ho
  obtain ⟨h1, h2⟩ := k v σ' ho
  refine ⟨h1, fun D dA A b ad LS C hcs hR hS hl K => ?_⟩
  exact lv_ineg C.1 C.2.1 hd (h2 D dA A b ad LS C hcs hR hS hl K)
theorem Ex.idiv {x y : Int32} (hd : decode (xB M) pc = .ok (.idiv, 1)) (hne : ¬ y = 0) (k : Ex X M (pc + 1) ls (.inl (x / y) :: st) σ o) : Ex X M pc ls (.inl y :: .inl x :: st) σ o := by
  intro v σ' ho
  obtain ⟨h1, h2⟩ := k v σ' ho
  refine ⟨h1, fun D dA A b ad LS C hcs hR hS hl K => ?_⟩
  exact lv_idiv C.1 C.2.1 hd hne (h2 D dA A b ad LS C hcs hR hS hl K)
theorem Ex.irem {x y : Int32} (hd : decode (xB M) pc = .ok (.irem, 1)) (hne : ¬ y = 0) (k : Ex X M (pc + 1) ls (.inl (x - x / y * y) :: st) σ o) : Ex X M pc ls (.inl y :: .inl x :: st) σ o := by
  intro v σ' ho
  obtain ⟨h1, h2⟩ := k v σ' ho
  refine ⟨h1, fun D dA A b ad LS C hcs hR hS hl K => ?_⟩
  exact lv_irem C.1 C.2.1 hd hne (h2 D dA A b ad LS C hcs hR hS hl K)
theorem Ex.i2c {x : Int32} (hd : decode (xB M) pc = .ok (.i2c, 1)) (k : Ex X M (pc + 1) ls (.inl ((x.toUInt32 % 65536).toInt32) :: st) σ o) : Ex X M pc ls (.inl x :: st) σ o := by
  intro v σ' ho
  obtain ⟨h1, h2⟩ := k v σ' ho
  refine ⟨h1, fun D dA A b ad LS C hcs hR hS hl K => ?_⟩
  exact lv_i2c C.1 C.2.1 hd rfl (h2 D dA A b ad LS C hcs hR hS hl K)
theorem Ex.dup {x : xV} (hd : decode (xB M) pc = .ok (.dup, 1)) (k : Ex X M (pc + 1) ls (x :: x :: st) σ o) : Ex X M pc ls (x :: st) σ o := by
  intro v σ' ho
  obtain ⟨h1, h2⟩ := k v σ' ho
  refine ⟨h1, fun D dA A b ad LS C hcs hR hS hl K => ?_⟩
  exact lv_dup C.1 C.2.1 hd (xvm_cat b ad x) (h2 D dA A b ad LS C hcs hR hS hl K)
theorem Ex.pop {x : xV} (hd : decode (xB M) pc = .ok (.pop, 1)) (k : Ex X M (pc + 1) ls (st) σ o) : Ex X M pc ls (x :: st) σ o := by
  intro v σ' ho
  obtain ⟨h1, h2⟩ := k v σ' ho
  refine ⟨h1, fun D dA A b ad LS C hcs hR hS hl K => ?_⟩
  exact lv_pop C.1 C.2.1 hd (xvm_cat b ad x) (h2 D dA A b ad LS C hcs hR hS hl K)
theorem Ex.dup2 {x y : xV} (hd : decode (xB M) pc = .ok (.dup2, 1)) (k : Ex X M (pc + 1) ls (x :: y :: x :: y :: st) σ o) : Ex X M pc ls (x :: y :: st) σ o := by
  intro v σ' ho
  obtain ⟨h1, h2⟩ := k v σ' ho
  refine ⟨h1, fun D dA A b ad LS C hcs hR hS hl K => ?_⟩
  exact lv_dup2_11 C.1 C.2.1 hd (xvm_cat b ad x) (xvm_cat b ad y) (h2 D dA A b ad LS C hcs hR hS hl K)
theorem Ex.istore_n {k0 : Fin 4} {i : Nat} {x : Int32} (hd : decode (xB M) pc = .ok (.istore_n k0, 1)) (hi : (k0 : Nat) = i) (hn : i < xL M) (k : Ex X M (pc + 1) (ls.set i (some (.inl x))) st σ o) : Ex X M pc ls (.inl x :: st) σ o := by
  intro v σ' ho
  obtain ⟨h1, h2⟩ := k v σ' ho
  refine ⟨h1, fun D dA A b ad LS C hcs hR hS hl K => ?_⟩
  exact lv_istore_n C.1 C.2.1 hd hi hl hn rfl (fun LS1 hl1 => h2 D dA A b ad LS1 C hcs hR hS (xLv_set rfl hl1) K)
theorem Ex.istore {i : Nat} {x : Int32} (hd : decode (xB M) pc = .ok (.istore i, 2)) (hn : i < xL M) (k : Ex X M (pc + 2) (ls.set i (some (.inl x))) st σ o) : Ex X M pc ls (.inl x :: st) σ o := by
  intro v σ' ho
  obtain ⟨h1, h2⟩ := k v σ' ho
  refine ⟨h1, fun D dA A b ad LS C hcs hR hS hl K => ?_⟩
  exact lv_istore C.1 C.2.1 hd hl hn rfl (fun LS1 hl1 => h2 D dA A b ad LS1 C hcs hR hS (xLv_set rfl hl1) K)
theorem Ex.astore_n {k0 : Fin 4} {i r : Nat} (hd : decode (xB M) pc = .ok (.astore_n k0, 1)) (hi : (k0 : Nat) = i) (hn : i < xL M) (k : Ex X M (pc + 1) (ls.set i (some (.inr (some r)))) st σ o) : Ex X M pc ls (.inr (some r) :: st) σ o := by
  intro v σ' ho
  obtain ⟨h1, h2⟩ := k v σ' ho
  refine ⟨h1, fun D dA A b ad LS C hcs hR hS hl K => ?_⟩
  exact lv_astore_n C.1 C.2.1 hd hi hl hn rfl (fun LS1 hl1 => h2 D dA A b ad LS1 C hcs hR hS (xLv_set rfl hl1) K)
theorem Ex.astore {i r : Nat} (hd : decode (xB M) pc = .ok (.astore i, 2)) (hn : i < xL M) (k : Ex X M (pc + 2) (ls.set i (some (.inr (some r)))) st σ o) : Ex X M pc ls (.inr (some r) :: st) σ o := by
  intro v σ' ho
  obtain ⟨h1, h2⟩ := k v σ' ho
  refine ⟨h1, fun D dA A b ad LS C hcs hR hS hl K => ?_⟩
  exact lv_astore C.1 C.2.1 hd hl hn rfl (fun LS1 hl1 => h2 D dA A b ad LS1 C hcs hR hS (xLv_set rfl hl1) K)
theorem Ex.iinc {i : Nat} {n : Int} {x y : Int32} (hd : decode (xB M) pc = .ok (.iinc i n, 3)) (hg : ls[i]? = some (some (.inl x))) (hv : Int32.ofInt n = y) (hn : i < xL M) (k : Ex X M (pc + 3) (ls.set i (some (.inl (x + y)))) st σ o) : Ex X M pc ls st σ o := by
  intro v σ' ho
  obtain ⟨h1, h2⟩ := k v σ' ho
  refine ⟨h1, fun D dA A b ad LS C hcs hR hS hl K => ?_⟩
  subst hv
  obtain ⟨kk, hk⟩ := List.getElem?_of_mem (xLv_mem (g := xvm b ad) (q := (i, .int x)).mpr ⟨.inl x, hg, rfl⟩)
  exact lv_iinc C.1 C.2.1 hd hl hk rfl hn rfl (fun LS1 hl1 => h2 D dA A b ad LS1 C hcs hR hS (xLv_set rfl hl1) K)
theorem Ex.if_eq {x : Int32} {off : Int} {tgt : Nat} (hd : decode (xB M) pc = .ok (.ifCond .eq off, 3)) (ht : (pc : Int) + off = (tgt : Int)) {o1 o2 : Option (Option Int32 × xS)} (kt : x = 0 → Ex X M tgt ls st σ o1) (kf : ¬ (x = 0) → Ex X M (pc + 3) ls st σ o2) : Ex X M pc ls (.inl x :: st) σ (if x = 0 then o1 else o2) := by
  refine Ex.ite _ (fun hc => ?_) (fun hc => ?_)
  · intro v σ' ho
    obtain ⟨h1, h2⟩ := kt hc v σ' ho
    refine ⟨h1, fun D dA A b ad LS C hcs hR hS hl K => ?_⟩
    exact lv_if_eq C.1 C.2.1 hd ht (fun _ => h2 D dA A b ad LS C hcs hR hS hl K) (fun q => absurd hc q)
  · intro v σ' ho
    obtain ⟨h1, h2⟩ := kf hc v σ' ho
    refine ⟨h1, fun D dA A b ad LS C hcs hR hS hl K => ?_⟩
    exact lv_if_eq C.1 C.2.1 hd ht (fun q => absurd q hc) (fun _ => h2 D dA A b ad LS C hcs hR hS hl K)
theorem Ex.icmp_eq {x y : Int32} {off : Int} {tgt : Nat} (hd : decode (xB M) pc = .ok (.if_icmp .eq off, 3)) (ht : (pc : Int) + off = (tgt : Int)) {o1 o2 : Option (Option Int32 × xS)} (kt : x = y → Ex X M tgt ls st σ o1) (kf : ¬ (x = y) → Ex X M (pc + 3) ls st σ o2) : Ex X M pc ls (.inl y :: .inl x :: st) σ (if x = y then o1 else o2) := by
  refine Ex.ite _ (fun hc => ?_) (fun hc => ?_)
  · intro v σ' ho
    obtain ⟨h1, h2⟩ := kt hc v σ' ho
    refine ⟨h1, fun D dA A b ad LS C hcs hR hS hl K => ?_⟩
    exact lv_icmp_eq C.1 C.2.1 hd ht (fun _ => h2 D dA A b ad LS C hcs hR hS hl K) (fun q => absurd hc q)
  · intro v σ' ho
    obtain ⟨h1, h2⟩ := kf hc v σ' ho
    refine ⟨h1, fun D dA A b ad LS C hcs hR hS hl K => ?_⟩
    exact lv_icmp_eq C.1 C.2.1 hd ht (fun q => absurd q hc) (fun _ => h2 D dA A b ad LS C hcs hR hS hl K)
theorem Ex.if_ne {x : Int32} {off : Int} {tgt : Nat} (hd : decode (xB M) pc = .ok (.ifCond .ne off, 3)) (ht : (pc : Int) + off = (tgt : Int)) {o1 o2 : Option (Option Int32 × xS)} (kt : x ≠ 0 → Ex X M tgt ls st σ o1) (kf : ¬ (x ≠ 0) → Ex X M (pc + 3) ls st σ o2) : Ex X M pc ls (.inl x :: st) σ (if x ≠ 0 then o1 else o2) := by
  refine Ex.ite _ (fun hc => ?_) (fun hc => ?_)
  · intro v σ' ho
    obtain ⟨h1, h2⟩ := kt hc v σ' ho
    refine ⟨h1, fun D dA A b ad LS C hcs hR hS hl K => ?_⟩
    exact lv_if_ne C.1 C.2.1 hd ht (fun _ => h2 D dA A b ad LS C hcs hR hS hl K) (fun q => absurd q hc)
  · intro v σ' ho
    obtain ⟨h1, h2⟩ := kf hc v σ' ho
    refine ⟨h1, fun D dA A b ad LS C hcs hR hS hl K => ?_⟩
    exact lv_if_ne C.1 C.2.1 hd ht (fun q => absurd q hc) (fun _ => h2 D dA A b ad LS C hcs hR hS hl K)
theorem Ex.icmp_ne {x y : Int32} {off : Int} {tgt : Nat} (hd : decode (xB M) pc = .ok (.if_icmp .ne off, 3)) (ht : (pc : Int) + off = (tgt : Int)) {o1 o2 : Option (Option Int32 × xS)} (kt : x ≠ y → Ex X M tgt ls st σ o1) (kf : ¬ (x ≠ y) → Ex X M (pc + 3) ls st σ o2) : Ex X M pc ls (.inl y :: .inl x :: st) σ (if x ≠ y then o1 else o2) := by
  refine Ex.ite _ (fun hc => ?_) (fun hc => ?_)
  · intro v σ' ho
    obtain ⟨h1, h2⟩ := kt hc v σ' ho
    refine ⟨h1, fun D dA A b ad LS C hcs hR hS hl K => ?_⟩
    exact lv_icmp_ne C.1 C.2.1 hd ht (fun _ => h2 D dA A b ad LS C hcs hR hS hl K) (fun q => absurd q hc)
  · intro v σ' ho
    obtain ⟨h1, h2⟩ := kf hc v σ' ho
    refine ⟨h1, fun D dA A b ad LS C hcs hR hS hl K => ?_⟩
    exact lv_icmp_ne C.1 C.2.1 hd ht (fun q => absurd q hc) (fun _ => h2 D dA A b ad LS C hcs hR hS hl K)
theorem Ex.if_lt {x : Int32} {off : Int} {tgt : Nat} (hd : decode (xB M) pc = .ok (.ifCond .lt off, 3)) (ht : (pc : Int) + off = (tgt : Int)) {o1 o2 : Option (Option Int32 × xS)} (kt : x < 0 → Ex X M tgt ls st σ o1) (kf : ¬ (x < 0) → Ex X M (pc + 3) ls st σ o2) : Ex X M pc ls (.inl x :: st) σ (if x < 0 then o1 else o2) := by
  refine Ex.ite _ (fun hc => ?_) (fun hc => ?_)
  · intro v σ' ho
    obtain ⟨h1, h2⟩ := kt hc v σ' ho
    refine ⟨h1, fun D dA A b ad LS C hcs hR hS hl K => ?_⟩
    exact lv_if_lt C.1 C.2.1 hd ht (fun _ => h2 D dA A b ad LS C hcs hR hS hl K) (fun q => absurd hc q)
  · intro v σ' ho
    obtain ⟨h1, h2⟩ := kf hc v σ' ho
    refine ⟨h1, fun D dA A b ad LS C hcs hR hS hl K => ?_⟩
    exact lv_if_lt C.1 C.2.1 hd ht (fun q => absurd q hc) (fun _ => h2 D dA A b ad LS C hcs hR hS hl K)
theorem Ex.icmp_lt {x y : Int32} {off : Int} {tgt : Nat} (hd : decode (xB M) pc = .ok (.if_icmp .lt off, 3)) (ht : (pc : Int) + off = (tgt : Int)) {o1 o2 : Option (Option Int32 × xS)} (kt : x < y → Ex X M tgt ls st σ o1) (kf : ¬ (x < y) → Ex X M (pc + 3) ls st σ o2) : Ex X M pc ls (.inl y :: .inl x :: st) σ (if x < y then o1 else o2) := by
  refine Ex.ite _ (fun hc => ?_) (fun hc => ?_)
  · intro v σ' ho
    obtain ⟨h1, h2⟩ := kt hc v σ' ho
    refine ⟨h1, fun D dA A b ad LS C hcs hR hS hl K => ?_⟩
    exact lv_icmp_lt C.1 C.2.1 hd ht (fun _ => h2 D dA A b ad LS C hcs hR hS hl K) (fun q => absurd hc q)
  · intro v σ' ho
    obtain ⟨h1, h2⟩ := kf hc v σ' ho
    refine ⟨h1, fun D dA A b ad LS C hcs hR hS hl K => ?_⟩
    exact lv_icmp_lt C.1 C.2.1 hd ht (fun q => absurd q hc) (fun _ => h2 D dA A b ad LS C hcs hR hS hl K)
theorem Ex.if_ge {x : Int32} {off : Int} {tgt : Nat} (hd : decode (xB M) pc = .ok (.ifCond .ge off, 3)) (ht : (pc : Int) + off = (tgt : Int)) {o1 o2 : Option (Option Int32 × xS)} (kt : x ≥ 0 → Ex X M tgt ls st σ o1) (kf : ¬ (x ≥ 0) → Ex X M (pc + 3) ls st σ o2) : Ex X M pc ls (.inl x :: st) σ (if x ≥ 0 then o1 else o2) := by
  refine Ex.ite _ (fun hc => ?_) (fun hc => ?_)
  · intro v σ' ho
    obtain ⟨h1, h2⟩ := kt hc v σ' ho
    refine ⟨h1, fun D dA A b ad LS C hcs hR hS hl K => ?_⟩
    exact lv_if_ge C.1 C.2.1 hd ht (fun _ => h2 D dA A b ad LS C hcs hR hS hl K) (fun q => absurd hc q)
  · intro v σ' ho
    obtain ⟨h1, h2⟩ := kf hc v σ' ho
    refine ⟨h1, fun D dA A b ad LS C hcs hR hS hl K => ?_⟩
    exact lv_if_ge C.1 C.2.1 hd ht (fun q => absurd q hc) (fun _ => h2 D dA A b ad LS C hcs hR hS hl K)
theorem Ex.icmp_ge {x y : Int32} {off : Int} {tgt : Nat} (hd : decode (xB M) pc = .ok (.if_icmp .ge off, 3)) (ht : (pc : Int) + off = (tgt : Int)) {o1 o2 : Option (Option Int32 × xS)} (kt : x ≥ y → Ex X M tgt ls st σ o1) (kf : ¬ (x ≥ y) → Ex X M (pc + 3) ls st σ o2) : Ex X M pc ls (.inl y :: .inl x :: st) σ (if x ≥ y then o1 else o2) := by
  refine Ex.ite _ (fun hc => ?_) (fun hc => ?_)
  · intro v σ' ho
    obtain ⟨h1, h2⟩ := kt hc v σ' ho
    refine ⟨h1, fun D dA A b ad LS C hcs hR hS hl K => ?_⟩
    exact lv_icmp_ge C.1 C.2.1 hd ht (fun _ => h2 D dA A b ad LS C hcs hR hS hl K) (fun q => absurd hc q)
  · intro v σ' ho
    obtain ⟨h1, h2⟩ := kf hc v σ' ho
    refine ⟨h1, fun D dA A b ad LS C hcs hR hS hl K => ?_⟩
    exact lv_icmp_ge C.1 C.2.1 hd ht (fun q => absurd q hc) (fun _ => h2 D dA A b ad LS C hcs hR hS hl K)
theorem Ex.if_gt {x : Int32} {off : Int} {tgt : Nat} (hd : decode (xB M) pc = .ok (.ifCond .gt off, 3)) (ht : (pc : Int) + off = (tgt : Int)) {o1 o2 : Option (Option Int32 × xS)} (kt : x > 0 → Ex X M tgt ls st σ o1) (kf : ¬ (x > 0) → Ex X M (pc + 3) ls st σ o2) : Ex X M pc ls (.inl x :: st) σ (if x > 0 then o1 else o2) := by
  refine Ex.ite _ (fun hc => ?_) (fun hc => ?_)
  · intro v σ' ho
    obtain ⟨h1, h2⟩ := kt hc v σ' ho
    refine ⟨h1, fun D dA A b ad LS C hcs hR hS hl K => ?_⟩
    exact lv_if_gt C.1 C.2.1 hd ht (fun _ => h2 D dA A b ad LS C hcs hR hS hl K) (fun q => absurd hc q)
  · intro v σ' ho
    obtain ⟨h1, h2⟩ := kf hc v σ' ho
    refine ⟨h1, fun D dA A b ad LS C hcs hR hS hl K => ?_⟩
    exact lv_if_gt C.1 C.2.1 hd ht (fun q => absurd q hc) (fun _ => h2 D dA A b ad LS C hcs hR hS hl K)
theorem Ex.icmp_gt {x y : Int32} {off : Int} {tgt : Nat} (hd : decode (xB M) pc = .ok (.if_icmp .gt off, 3)) (ht : (pc : Int) + off = (tgt : Int)) {o1 o2 : Option (Option Int32 × xS)} (kt : x > y → Ex X M tgt ls st σ o1) (kf : ¬ (x > y) → Ex X M (pc + 3) ls st σ o2) : Ex X M pc ls (.inl y :: .inl x :: st) σ (if x > y then o1 else o2) := by
  refine Ex.ite _ (fun hc => ?_) (fun hc => ?_)
  · intro v σ' ho
    obtain ⟨h1, h2⟩ := kt hc v σ' ho
    refine ⟨h1, fun D dA A b ad LS C hcs hR hS hl K => ?_⟩
    exact lv_icmp_gt C.1 C.2.1 hd ht (fun _ => h2 D dA A b ad LS C hcs hR hS hl K) (fun q => absurd hc q)
  · intro v σ' ho
    obtain ⟨h1, h2⟩ := kf hc v σ' ho
    refine ⟨h1, fun D dA A b ad LS C hcs hR hS hl K => ?_⟩
    exact lv_icmp_gt C.1 C.2.1 hd ht (fun q => absurd q hc) (fun _ => h2 D dA A b ad LS C hcs hR hS hl K)
theorem Ex.if_le {x : Int32} {off : Int} {tgt : Nat} (hd : decode (xB M) pc = .ok (.ifCond .le off, 3)) (ht : (pc : Int) + off = (tgt : Int)) {o1 o2 : Option (Option Int32 × xS)} (kt : x ≤ 0 → Ex X M tgt ls st σ o1) (kf : ¬ (x ≤ 0) → Ex X M (pc + 3) ls st σ o2) : Ex X M pc ls (.inl x :: st) σ (if x ≤ 0 then o1 else o2) := by
  refine Ex.ite _ (fun hc => ?_) (fun hc => ?_)
  · intro v σ' ho
    obtain ⟨h1, h2⟩ := kt hc v σ' ho
    refine ⟨h1, fun D dA A b ad LS C hcs hR hS hl K => ?_⟩
    exact lv_if_le C.1 C.2.1 hd ht (fun _ => h2 D dA A b ad LS C hcs hR hS hl K) (fun q => absurd hc q)
  · intro v σ' ho
    obtain ⟨h1, h2⟩ := kf hc v σ' ho
    refine ⟨h1, fun D dA A b ad LS C hcs hR hS hl K => ?_⟩
    exact lv_if_le C.1 C.2.1 hd ht (fun q => absurd q hc) (fun _ => h2 D dA A b ad LS C hcs hR hS hl K)
theorem Ex.icmp_le {x y : Int32} {off : Int} {tgt : Nat} (hd : decode (xB M) pc = .ok (.if_icmp .le off, 3)) (ht : (pc : Int) + off = (tgt : Int)) {o1 o2 : Option (Option Int32 × xS)} (kt : x ≤ y → Ex X M tgt ls st σ o1) (kf : ¬ (x ≤ y) → Ex X M (pc + 3) ls st σ o2) : Ex X M pc ls (.inl y :: .inl x :: st) σ (if x ≤ y then o1 else o2) := by
  refine Ex.ite _ (fun hc => ?_) (fun hc => ?_)
  · intro v σ' ho
    obtain ⟨h1, h2⟩ := kt hc v σ' ho
    refine ⟨h1, fun D dA A b ad LS C hcs hR hS hl K => ?_⟩
    exact lv_icmp_le C.1 C.2.1 hd ht (fun _ => h2 D dA A b ad LS C hcs hR hS hl K) (fun q => absurd hc q)
  · intro v σ' ho
    obtain ⟨h1, h2⟩ := kf hc v σ' ho
    refine ⟨h1, fun D dA A b ad LS C hcs hR hS hl K => ?_⟩
    exact lv_icmp_le C.1 C.2.1 hd ht (fun q => absurd q hc) (fun _ => h2 D dA A b ad LS C hcs hR hS hl K)
theorem Ex.goto {off : Int} {tgt : Nat} (hd : decode (xB M) pc = .ok (.goto off, 3)) (ht : (pc : Int) + off = (tgt : Int)) (k : Ex X M tgt ls st σ o) : Ex X M pc ls st σ o := by
  intro v σ' ho
  obtain ⟨h1, h2⟩ := k v σ' ho
  refine ⟨h1, fun D dA A b ad LS C hcs hR hS hl K => ?_⟩
  exact lv_goto C.1 C.2.1 hd ht (h2 D dA A b ad LS C hcs hR hS hl K)
theorem Ex.lookup {dflt : Int} {ps : Array (Int × Int)} {len : Nat} {x : Int32} {off : Int} {tgt : Nat} (hd : decode (xB M) pc = .ok (.lookupswitch dflt ps, len)) (hp : (ps.toList.zip (ps.toList.drop 1)).all (fun (a, next) => a.1 < next.1) = true) (ho : Op.lookupswitch.offset ps.toList dflt x.toInt = off) (ht : (pc : Int) + off = (tgt : Int)) (k : Ex X M tgt ls st σ o) : Ex X M pc ls (.inl x :: st) σ o := by
  intro v σ' ho99
  obtain ⟨h1, h2⟩ := k v σ' ho99
  refine ⟨h1, fun D dA A b ad LS C hcs hR hS hl K => ?_⟩
  exact lv_lookup C.1 C.2.1 hd hp ho ht (h2 D dA A b ad LS C hcs hR hS hl K)
theorem Ex.tableOut {dflt lo hi : Int} {offs : Array Int} {len : Nat} {x : Int32} {tgt : Nat} (hd : decode (xB M) pc = .ok (.tableswitch dflt lo hi offs, len)) (h : x.toInt < lo ∨ hi < x.toInt) (ht : (pc : Int) + dflt = (tgt : Int)) (k : Ex X M tgt ls st σ o) : Ex X M pc ls (.inl x :: st) σ o := by
  intro v σ' ho
  obtain ⟨h1, h2⟩ := k v σ' ho
  refine ⟨h1, fun D dA A b ad LS C hcs hR hS hl K => ?_⟩
  exact lv_tableOut C.1 C.2.1 hd h ht (h2 D dA A b ad LS C hcs hR hS hl K)
theorem Ex.tableIn {dflt lo hi : Int} {offs : Array Int} {len : Nat} {x : Int32} {off : Int} {tgt : Nat} (hd : decode (xB M) pc = .ok (.tableswitch dflt lo hi offs, len)) (g1 : ¬ x.toInt < lo) (g2 : ¬ hi < x.toInt) (ho : offs[(x.toInt - lo).toNat]? = some off) (ht : (pc : Int) + off = (tgt : Int)) (k : Ex X M tgt ls st σ o) : Ex X M pc ls (.inl x :: st) σ o := by
  intro v σ' ho99
  obtain ⟨h1, h2⟩ := k v σ' ho99
  refine ⟨h1, fun D dA A b ad LS C hcs hR hS hl K => ?_⟩
  exact lv_tableIn C.1 C.2.1 hd g1 g2 ho ht (h2 D dA A b ad LS C hcs hR hS hl K)
end EX
end
section
/-! the heap: fields, arrays, what is made -/
def xCk (ci : Nat) (C : String) (T : u_T) (N : Nat) : Prop := vwCl[ci]? = some (C, T, N) ∧ N = xN ci ∧ (∀ w ∈ u_ws C T N, w ∈ xWd) ∧ (∀ k, k < N → parseFieldDescriptor (T k).2.2.1 = some (xTy ci k)) ∧ (∀ a, a < N → ∀ b, b < N → a ≠ b → (T a).2.1 ≠ (T b).2.1) ∧ (∀ j, j < N → defaultValue (xTy ci j) = if xRf (xTy ci j) = true then .null else .int 0)
theorem xfs_at {ad : Nat → Nat} {f : Nat → Option Nat} {r : Nat → Int32} {ci j : Nat} (hj : j < xN ci) : ((List.range (xN ci)).map (xfv ad f r ci))[j]? = some (xfv ad f r ci j) := by
  rw [List.getElem?_map, List.getElem?_range hj]; rfl
theorem xfs_setI {ad : Nat → Nat} {f : Nat → Option Nat} {r : Nat → Int32} {ci j : Nat} {x : Int32} (hr : xRf (xTy ci j) = false) : ((List.range (xN ci)).map (xfv ad f r ci)).set j (.int x) = (List.range (xN ci)).map (xfv ad f (fun c => if c = j then x else r c) ci) := by
  refine List.ext_getElem? (fun i => ?_)
  by_cases hi : i < xN ci
  · by_cases hj : i = j
    · subst hj
      rw [List.getElem?_set_self (by simpa using hi), xfs_at hi]
      simp [xfv, hr]
    · rw [List.getElem?_set_ne (Ne.symm hj), xfs_at hi, xfs_at hi]
      simp [xfv, hj]
  · rw [List.getElem?_eq_none (by simp; omega), List.getElem?_eq_none (by simp; omega)]
theorem xfs_setF {ad : Nat → Nat} {f : Nat → Option Nat} {r : Nat → Int32} {ci j : Nat} {x : Nat} (hr : xRf (xTy ci j) = true) : ((List.range (xN ci)).map (xfv ad f r ci)).set j (.ref (ad x)) = (List.range (xN ci)).map (xfv ad (fun c => if c = j then some x else f c) r ci) := by
  refine List.ext_getElem? (fun i => ?_)
  by_cases hi : i < xN ci
  · by_cases hj : i = j
    · subst hj
      rw [List.getElem?_set_self (by simpa using hi), xfs_at hi]
      simp [xfv, hr, va_rf]
    · rw [List.getElem?_set_ne (Ne.symm hj), xfs_at hi, xfs_at hi]
      simp [xfv, hj]
  · rw [List.getElem?_eq_none (by simp; omega), List.getElem?_eq_none (by simp; omega)]
section EXH
variable {X : Option (Nat × (Nat → Int32))} {M : xM} {pc : Nat} {ls : List (Option xV)} {st : List xV} {sh : List (Nat ⊕ (FieldType × Nat))} {F : xF} {I : xI} {o : Option (Option Int32 × xS)}
theorem Ex.getI {idx k j ci N : Nat} {C0 : String} {T : u_T} (hd : decode (xB M) pc = .ok (.getfield idx, 3)) (hc : xCk ci C0 T N) (hl0 : Cond.fieldLink (xY M).cls idx (T j).1 (T j).2.1 (T j).2.2.1 ∈ xWd) (hj : j < N) (hk : sh[k]? = some (.inl ci)) (hr : xRf (xTy ci j) = false)
    (kk : Ex X M (pc + 3) ls (.inl (I k j) :: st) (sh, F, I) o) : Ex X M pc ls (.inr (some k) :: st) (sh, F, I) o := by
  intro v σ' ho
  obtain ⟨h1, h2⟩ := kk v σ' ho
  refine ⟨h1, fun D dA A b ad LS C hcs hR hS hl K => ?_⟩
  obtain ⟨hx, hb, hml, hown, hts, hnw, hao, hin, hfr, hlo, hK, hA, hX⟩ := id C
  obtain ⟨q1, q2, q3, q4, q5, q6⟩ := hc
  subst q2
  exact va_get (cl := vwCl) hx hb hts q3 hown hK hR.1 k (xWs_some (σ := (sh, F, I)) hk) q1 j hj (hts _ hl0) (fun _ h => h) (v := .int (I k j)) (by rw [xfs_at hj]; simp [xfv, hr]) hd (h2 D dA A b ad LS C hcs hR hS hl K)
theorem Ex.getR {idx k j ci N r : Nat} {C0 : String} {T : u_T} (hd : decode (xB M) pc = .ok (.getfield idx, 3)) (hc : xCk ci C0 T N) (hl0 : Cond.fieldLink (xY M).cls idx (T j).1 (T j).2.1 (T j).2.2.1 ∈ xWd) (hj : j < N) (hk : sh[k]? = some (.inl ci)) (hr : xRf (xTy ci j) = true) (hv : F k j = some r)
    (kk : Ex X M (pc + 3) ls (.inr (some r) :: st) (sh, F, I) o) : Ex X M pc ls (.inr (some k) :: st) (sh, F, I) o := by
  intro v σ' ho
  obtain ⟨h1, h2⟩ := kk v σ' ho
  refine ⟨h1, fun D dA A b ad LS C hcs hR hS hl K => ?_⟩
  obtain ⟨hx, hb, hml, hown, hts, hnw, hao, hin, hfr, hlo, hK, hA, hX⟩ := id C
  obtain ⟨q1, q2, q3, q4, q5, q6⟩ := hc
  subst q2
  exact va_get (cl := vwCl) hx hb hts q3 hown hK hR.1 k (xWs_some (σ := (sh, F, I)) hk) q1 j hj (hts _ hl0) (fun _ h => h) (v := .ref (ad r)) (by rw [xfs_at hj]; simp [xfv, hr, hv, va_rf]) hd (h2 D dA A b ad LS C hcs hR hS hl K)
theorem Ex.putI {idx k j ci N : Nat} {C0 : String} {T : u_T} {x : Int32} (hd : decode (xB M) pc = .ok (.putfield idx, 3)) (hc : xCk ci C0 T N) (hl0 : Cond.fieldLink (xY M).cls idx (T j).1 (T j).2.1 (T j).2.2.1 ∈ xWd) (hj : j < N) (hk : sh[k]? = some (.inl ci)) (hr : xRf (xTy ci j) = false) (hfin : (T j).2.2.2 = false) (hn : narrow (xTy ci j) (.int x) = .int x ∧ fits (xTy ci j) (.int x) = true)
    (kk : Ex X M (pc + 3) ls st (sh, F, xup I k j x) o) : Ex X M pc ls (.inl x :: .inr (some k) :: st) (sh, F, I) o := by
  intro v σ' ho
  obtain ⟨h1, h2⟩ := kk v σ' ho
  refine ⟨h1, fun D dA A b ad LS C hcs hR hS hl K => ?_⟩
  obtain ⟨hx, hb, hml, hown, hts, hnw, hao, hin, hfr, hlo, hK, hA, hX⟩ := id C
  obtain ⟨q1, q2, q3, q4, q5, q6⟩ := hc
  subst q2
  refine va_put (cl := vwCl) hx hb hts q3 (xTy ci) q4 q5 hown hK hR.1 hR.2.1 hS k (xWs_some (σ := (sh, F, I)) hk) q1 j hj (hts _ hl0) (fun _ h => h) hfin (ty := xTy ci j) (v := .int x) (q4 j hj) hn.1 hn.2 (by simpa using hj) hd (fun H1 locs1 hP hD hS1 => ?_)
  rw [xfs_setI hr] at hP hD
  have e := xWs_upI (dA := dA) (ad := ad) (F := F) (I := I) (j := j) (x := x) hk
  have e2 : (xWs dA ad (sh, F, I)).set k (ad k, .inr (ci, (List.range (xN ci)).map (xfv ad (F k) (fun c => if c = j then x else I k c) ci))) = xWs dA ad (sh, F, xup I k j x) := e
  have hP : va_P D vwCl (xWs dA ad (sh, F, xup I k j x)) H1 := by rw [← e2]; exact hP
  have hD : va_D A (xWs dA ad (sh, F, xup I k j x)) := by rw [← e2]; exact hD
  exact h2 D dA A b ad LS C hcs ⟨hP, hD, hR.2.2⟩ hS1 hl K
theorem Ex.putR {idx k j ci N r : Nat} {C0 : String} {T : u_T} {kr : Nat ⊕ (FieldType × Nat)} (hd : decode (xB M) pc = .ok (.putfield idx, 3)) (hc : xCk ci C0 T N) (hl0 : Cond.fieldLink (xY M).cls idx (T j).1 (T j).2.1 (T j).2.2.1 ∈ xWd) (hj : j < N) (hk : sh[k]? = some (.inl ci)) (hr : xRf (xTy ci j) = true) (hrr : sh[r]? = some kr) (hfin : (T j).2.2.2 = true) (hin2 : (xY M).name = "<init>") (hdc : (T j).1 = (xY M).cls)
    (kk : Ex X M (pc + 3) ls st (sh, xup F k j (some r), I) o) : Ex X M pc ls (.inr (some r) :: .inr (some k) :: st) (sh, F, I) o := by
  intro v σ' ho
  obtain ⟨h1, h2⟩ := kk v σ' ho
  refine ⟨h1, fun D dA A b ad LS C hcs hR hS hl K => ?_⟩
  obtain ⟨hx, hb, hml, hown, hts, hnw, hao, hin, hfr, hlo, hK, hA, hX⟩ := id C
  obtain ⟨q1, q2, q3, q4, q5, q6⟩ := hc
  subst q2
  have hnar : narrow (xTy ci j) (.ref (ad r)) = .ref (ad r) ∧ fits (xTy ci j) (.ref (ad r)) = true := by
    revert hr
    cases xTy ci j <;> simp [xRf, narrow, fits]
  refine va_putF (cl := vwCl) hx hb hts q3 (xTy ci) q4 q5 hown hK hR.1 hR.2.1 hS k (xWs_some (σ := (sh, F, I)) hk) q1 j hj (hts _ hl0) (fun _ h => h) hfin (hin hin2) hdc (ty := xTy ci j) (v := .ref (ad r)) (q4 j hj) hnar.1 hnar.2 (by simpa using hj) hd (fun H1 locs1 hP hD hS1 => ?_)
  rw [xfs_setF hr] at hP hD
  have e := xWs_upF (dA := dA) (ad := ad) (F := F) (I := I) (j := j) (x := some r) hk
  have e2 : (xWs dA ad (sh, F, I)).set k (ad k, .inr (ci, (List.range (xN ci)).map (xfv ad (fun c => if c = j then some r else F k c) (I k) ci))) = xWs dA ad (sh, xup F k j (some r), I) := e
  have hP : va_P D vwCl (xWs dA ad (sh, xup F k j (some r), I)) H1 := by rw [← e2]; exact hP
  have hD : va_D A (xWs dA ad (sh, xup F k j (some r), I)) := by rw [← e2]; exact hD
  refine h2 D dA A b ad LS C hcs ⟨hP, hD, fun a c r' h => ?_⟩ hS1 hl K
  have h' : xup F k j (some r) a c = some r' := h
  unfold xup at h'
  by_cases ha : a = k
  · rw [if_pos ha] at h'
    by_cases hcj : c = j
    · rw [if_pos hcj] at h'
      cases h'
      exact ⟨by rw [ha]; exact (List.getElem?_eq_some_iff.mp hk).1, (List.getElem?_eq_some_iff.mp hrr).1⟩
    · rw [if_neg hcj] at h'
      exact hR.2.2 a c r' h'
  · rw [if_neg ha] at h'
    exact hR.2.2 a c r' h'
abbrev xin (i : Int32) (n : Nat) : Prop := ¬ (i < 0 ∨ n ≤ i.toNatClampNeg)
theorem Ex.iaload {k n : Nat} {i : Int32} (hd : decode (xB M) pc = .ok (.iaload, 1)) (hk : sh[k]? = some (.inr (.int, n))) (hi : xin i n) (kk : Ex X M (pc + 1) ls (.inl (I k i.toNatClampNeg) :: st) (sh, F, I) o) : Ex X M pc ls (.inl i :: .inr (some k) :: st) (sh, F, I) o := by
  intro v σ' ho
  obtain ⟨h1, h2⟩ := kk v σ' ho
  refine ⟨h1, fun D dA A b ad LS C hcs hR hS hl K => ?_⟩
  obtain ⟨hx, hb, hml, hown, hts, hnw, hao, hin, hfr, hlo, hK, hA, hX⟩ := id C
  exact va_iald (cl := vwCl) (f := I k) hx hb hK hR.1 k 0 (xWs_some (σ := (sh, F, I)) hk) rfl hi hd (h2 D dA A b ad LS C hcs hR hS hl K)
theorem Ex.caload {k n : Nat} {i : Int32} (hd : decode (xB M) pc = .ok (.caload, 1)) (hk : sh[k]? = some (.inr (.char, n))) (hi : xin i n) (kk : Ex X M (pc + 1) ls (.inl (I k i.toNatClampNeg) :: st) (sh, F, I) o) : Ex X M pc ls (.inl i :: .inr (some k) :: st) (sh, F, I) o := by
  intro v σ' ho
  obtain ⟨h1, h2⟩ := kk v σ' ho
  refine ⟨h1, fun D dA A b ad LS C hcs hR hS hl K => ?_⟩
  obtain ⟨hx, hb, hml, hown, hts, hnw, hao, hin, hfr, hlo, hK, hA, hX⟩ := id C
  exact va_cald (cl := vwCl) (f := I k) hx hb hK hR.1 k 1 (xWs_some (σ := (sh, F, I)) hk) rfl hi hd (h2 D dA A b ad LS C hcs hR hS hl K)
theorem Ex.baload {k n : Nat} {i : Int32} (hd : decode (xB M) pc = .ok (.baload, 1)) (hk : sh[k]? = some (.inr (.boolean, n))) (hi : xin i n) (kk : Ex X M (pc + 1) ls (.inl (I k i.toNatClampNeg) :: st) (sh, F, I) o) : Ex X M pc ls (.inl i :: .inr (some k) :: st) (sh, F, I) o := by
  intro v σ' ho
  obtain ⟨h1, h2⟩ := kk v σ' ho
  refine ⟨h1, fun D dA A b ad LS C hcs hR hS hl K => ?_⟩
  obtain ⟨hx, hb, hml, hown, hts, hnw, hao, hin, hfr, hlo, hK, hA, hX⟩ := id C
  exact va_zald (cl := vwCl) (f := I k) hx hb hK hR.1 k 2 (xWs_some (σ := (sh, F, I)) hk) rfl hi hd (h2 D dA A b ad LS C hcs hR hS hl K)
theorem xRel_up {D : va_G} {dA : FieldType → ClassId} {A : Nat → Prop} {ad : Nat → Nat} {H1 : Heap} {k j n : Nat} {ty : FieldType} {x : Int32} (hk : sh[k]? = some (.inr (ty, n))) (hty : xRf ty = false) (hFw : xFw (sh, F, I))
    (hP : va_P D vwCl ((xWs dA ad (sh, F, I)).set k (ad k, .inl (dA ty, n, .inl (fun c => if c = j then x else I k c)))) H1) (hD : va_D A ((xWs dA ad (sh, F, I)).set k (ad k, .inl (dA ty, n, .inl (fun c => if c = j then x else I k c))))) : xRel D dA A (sh, F, xup I k j x) ad H1 := by
  have e := xWs_upI (dA := dA) (ad := ad) (F := F) (I := I) (j := j) (x := x) hk
  have e3 : xE dA ad (F k) (fun c => if c = j then x else I k c) (.inr (ty, n)) = .inl (dA ty, n, .inl (fun c => if c = j then x else I k c)) := by simp [xE, hty]
  rw [e3] at e
  rw [e] at hP hD
  exact ⟨hP, hD, hFw⟩
theorem Ex.iastore {k n : Nat} {i x : Int32} (hd : decode (xB M) pc = .ok (.iastore, 1)) (hk : sh[k]? = some (.inr (.int, n))) (hi : xin i n) (kk : Ex X M (pc + 1) ls st (sh, F, xup I k i.toNatClampNeg x) o) : Ex X M pc ls (.inl x :: .inl i :: .inr (some k) :: st) (sh, F, I) o := by
  intro v σ' ho
  obtain ⟨h1, h2⟩ := kk v σ' ho
  refine ⟨h1, fun D dA A b ad LS C hcs hR hS hl K => ?_⟩
  obtain ⟨hx, hb, hml, hown, hts, hnw, hao, hin, hfr, hlo, hK, hA, hX⟩ := id C
  exact va_iast (cl := vwCl) (f := I k) hx hb hK hR.1 hR.2.1 hS k 0 (xWs_some (σ := (sh, F, I)) hk) rfl hi hd (fun H1 locs1 hP hD hS1 => h2 D dA A b ad LS C hcs (xRel_up hk rfl hR.2.2 hP hD) hS1 hl K)
theorem Ex.castore {k n : Nat} {i x : Int32} (hd : decode (xB M) pc = .ok (.castore, 1)) (hk : sh[k]? = some (.inr (.char, n))) (hi : xin i n) (kk : Ex X M (pc + 1) ls st (sh, F, xup I k i.toNatClampNeg (vp_nar .char x)) o) : Ex X M pc ls (.inl x :: .inl i :: .inr (some k) :: st) (sh, F, I) o := by
  intro v σ' ho
  obtain ⟨h1, h2⟩ := kk v σ' ho
  refine ⟨h1, fun D dA A b ad LS C hcs hR hS hl K => ?_⟩
  obtain ⟨hx, hb, hml, hown, hts, hnw, hao, hin, hfr, hlo, hK, hA, hX⟩ := id C
  exact va_cast (cl := vwCl) (f := I k) hx hb hK hR.1 hR.2.1 hS k 1 (xWs_some (σ := (sh, F, I)) hk) rfl hi hd (fun H1 locs1 hP hD hS1 => h2 D dA A b ad LS C hcs (xRel_up hk rfl hR.2.2 hP hD) hS1 hl K)
theorem Ex.bastore {k n : Nat} {i x : Int32} (hd : decode (xB M) pc = .ok (.bastore, 1)) (hk : sh[k]? = some (.inr (.boolean, n))) (hi : xin i n) (kk : Ex X M (pc + 1) ls st (sh, F, xup I k i.toNatClampNeg (vp_nar .boolean x)) o) : Ex X M pc ls (.inl x :: .inl i :: .inr (some k) :: st) (sh, F, I) o := by
  intro v σ' ho
  obtain ⟨h1, h2⟩ := kk v σ' ho
  refine ⟨h1, fun D dA A b ad LS C hcs hR hS hl K => ?_⟩
  obtain ⟨hx, hb, hml, hown, hts, hnw, hao, hin, hfr, hlo, hK, hA, hX⟩ := id C
  exact va_zast (cl := vwCl) (f := I k) hx hb hK hR.1 hR.2.1 hS k 2 (xWs_some (σ := (sh, F, I)) hk) rfl hi hd (fun H1 locs1 hP hD hS1 => h2 D dA A b ad LS C hcs (xRel_up hk rfl hR.2.2 hP hD) hS1 hl K)
theorem Ex.alenI {k n : Nat} {x : Int32} (hd : decode (xB M) pc = .ok (.arraylength, 1)) (hk : sh[k]? = some (.inr (.int, n))) (hv : Int32.ofNat n = x) (kk : Ex X M (pc + 1) ls (.inl x :: st) (sh, F, I) o) : Ex X M pc ls (.inr (some k) :: st) (sh, F, I) o := by
  intro v σ' ho
  obtain ⟨h1, h2⟩ := kk v σ' ho
  refine ⟨h1, fun D dA A b ad LS C hcs hR hS hl K => ?_⟩
  obtain ⟨hx, hb, hml, hown, hts, hnw, hao, hin, hfr, hlo, hK, hA, hX⟩ := id C
  exact va_alen (cl := vwCl) (x := (n, .inl (I k))) hx hb hK hR.1 k 0 (xWs_some (σ := (sh, F, I)) hk) rfl hv hd (h2 D dA A b ad LS C hcs hR hS hl K)
/-- the script -/
theorem Ex.sld {L : Nat} {xs : Nat → Int32} {i : Int32} (hX0 : X = some (L, xs)) (hd : decode (xB M) pc = .ok (.iaload, 1)) (hi : xin i L) (kk : Ex X M (pc + 1) ls (.inl (xs i.toNatClampNeg) :: st) (sh, F, I) o) : Ex X M pc ls (.inl i :: .inr none :: st) (sh, F, I) o := by
  intro v σ' ho
  obtain ⟨h1, h2⟩ := kk v σ' ho
  refine ⟨h1, fun D dA A b ad LS C hcs hR hS hl K => ?_⟩
  obtain ⟨hx, hb, hml, hown, hts, hnw, hao, hin, hfr, hlo, hK, hA, hX⟩ := id C
  obtain ⟨g1, g2, g3⟩ := hX L xs hX0
  exact va_sld hx hb g1 g2 g3 hS hi hd (h2 D dA A b ad LS C hcs hR hS hl K)
theorem Ex.slen {L : Nat} {xs : Nat → Int32} (hX0 : X = some (L, xs)) (hd : decode (xB M) pc = .ok (.arraylength, 1)) (kk : Ex X M (pc + 1) ls (.inl (Int32.ofNat L) :: st) (sh, F, I) o) : Ex X M pc ls (.inr none :: st) (sh, F, I) o := by
  intro v σ' ho
  obtain ⟨h1, h2⟩ := kk v σ' ho
  refine ⟨h1, fun D dA A b ad LS C hcs hR hS hl K => ?_⟩
  obtain ⟨hx, hb, hml, hown, hts, hnw, hao, hin, hfr, hlo, hK, hA, hX⟩ := id C
  obtain ⟨g1, g2, g3⟩ := hX L xs hX0
  exact va_slen hx hb g1 g2 g3 hS hd (h2 D dA A b ad LS C hcs hR hS hl K)
/-- an array of states -/
theorem Ex.aaload {k n r : Nat} {i : Int32} (hd : decode (xB M) pc = .ok (.aaload, 1)) (hk : sh[k]? = some (.inr (.object "FenceDuel$State", n))) (hi : xin i n) (hv : F k i.toNatClampNeg = some r) (kk : Ex X M (pc + 1) ls (.inr (some r) :: st) (sh, F, I) o) : Ex X M pc ls (.inl i :: .inr (some k) :: st) (sh, F, I) o := by
  intro v σ' ho
  obtain ⟨h1, h2⟩ := kk v σ' ho
  refine ⟨h1, fun D dA A b ad LS C hcs hR hS hl K => ?_⟩
  obtain ⟨hx, hb, hml, hown, hts, hnw, hao, hin, hfr, hlo, hK, hA, hX⟩ := id C
  refine va_aldq (cl := vwCl) (C := "FenceDuel$State") (f := fun j => (F k j).map ad) hx hb hK hR.1 k 3 (xWs_some (σ := (sh, F, I)) hk) rfl hi hd ?_
  rw [hv]
  exact h2 D dA A b ad LS C hcs hR hS hl K
theorem Ex.aastore {k n r : Nat} {i : Int32} (hd : decode (xB M) pc = .ok (.aastore, 1)) (hk : sh[k]? = some (.inr (.object "FenceDuel$State", n))) (hi : xin i n) (hr : sh[r]? = some (.inl 5)) (kk : Ex X M (pc + 1) ls st (sh, xup F k i.toNatClampNeg (some r), I) o) : Ex X M pc ls (.inr (some r) :: .inl i :: .inr (some k) :: st) (sh, F, I) o := by
  intro v σ' ho
  obtain ⟨h1, h2⟩ := kk v σ' ho
  refine ⟨h1, fun D dA A b ad LS C hcs hR hS hl K => ?_⟩
  obtain ⟨hx, hb, hml, hown, hts, hnw, hao, hin, hfr, hlo, hK, hA, hX⟩ := id C
  refine va_astq (cl := vwCl) (r := (RX5, TX5, 9)) (f := fun j => (F k j).map ad) hx hb hK hR.1 hR.2.1 hS k 3 r 5 (xWs_some (σ := (sh, F, I)) hk) rfl (xWs_some (σ := (sh, F, I)) hr) rfl hi hd (fun H1 locs1 hP hD hS1 => ?_)
  have e := xWs_upF (dA := dA) (ad := ad) (F := F) (I := I) (j := i.toNatClampNeg) (x := some r) hk
  have e3 : xE dA ad (fun c => if c = i.toNatClampNeg then some r else F k c) (I k) (.inr (.object "FenceDuel$State", n)) = .inl (dA (.object "FenceDuel$State"), n, .inr (.inr (.inr (.inr (va_up (fun j => (F k j).map ad) i.toNatClampNeg (some (ad r))))))) := by
    show Sum.inl (dA (.object "FenceDuel$State"), n, Sum.inr (Sum.inr (Sum.inr (Sum.inr (fun j => Option.map ad (if j = i.toNatClampNeg then some r else F k j)))))) = _
    congr 7
    funext j
    by_cases h : j = i.toNatClampNeg <;> simp [va_up, h]
  rw [e3] at e
  have hP : va_P D vwCl (xWs dA ad (sh, xup F k i.toNatClampNeg (some r), I)) H1 := by rw [← e]; exact hP
  have hD : va_D A (xWs dA ad (sh, xup F k i.toNatClampNeg (some r), I)) := by rw [← e]; exact hD
  refine h2 D dA A b ad LS C hcs ⟨hP, hD, fun a c r' h => ?_⟩ hS1 hl K
  have h' : xup F k i.toNatClampNeg (some r) a c = some r' := h
  unfold xup at h'
  by_cases ha : a = k
  · rw [if_pos ha] at h'
    by_cases hcj : c = i.toNatClampNeg
    · rw [if_pos hcj] at h'
      cases h'
      exact ⟨by rw [ha]; exact (List.getElem?_eq_some_iff.mp hk).1, (List.getElem?_eq_some_iff.mp hr).1⟩
    · rw [if_neg hcj] at h'
      exact hR.2.2 a c r' h'
  · rw [if_neg ha] at h'
    exact hR.2.2 a c r' h'
end EXH
end
section
/-! what is made, calls, a method's contract out of its run -/
theorem xW_le {a b : xS} (h : a.1 <+: b.1) : xC a ≤ xC b ∧ xW a ≤ xW b := by
  obtain ⟨t, ht⟩ := h
  unfold xC xW
  rw [← ht]
  simp
theorem xAg.trans {a b c : xS} {ad ad' ad'' : Nat → Nat} (h1 : a.1.length ≤ b.1.length) (h2 : b.1.length ≤ c.1.length) (g1 : xAg a b ad ad') (g2 : xAg b c ad' ad'') : xAg a c ad ad'' := by
  intro k hk
  rw [g2 k (by omega), g1 k (by omega)]
def xwv (n : Nat) : xV → Bool
  | .inr (some k) => decide (k < n)
  | _ => true
def xwo (n : Nat) : Option xV → Bool
  | some v => xwv n v
  | .none => true
theorem xwv_eq {n b : Nat} {ad ad' : Nat → Nat} (h : ∀ k, k < n → ad' k = ad k) {v : xV} (hv : xwv n v = true) : xvm b ad' v = xvm b ad v := by
  rcases v with x | (_ | k)
  · rfl
  · rfl
  · show Value.ref (ad' k) = Value.ref (ad k)
    rw [h k (by simpa [xwv] using hv)]
theorem xws_eq {n b : Nat} {ad ad' : Nat → Nat} (h : ∀ k, k < n → ad' k = ad k) {st : List xV} (hv : st.all (xwv n) = true) : st.map (xvm b ad') = st.map (xvm b ad) := by
  refine List.map_congr_left (fun v hm => xwv_eq h (List.all_eq_true.mp hv v hm))
theorem xwl_eq {n b nL : Nat} {ad ad' : Nat → Nat} (h : ∀ k, k < n → ad' k = ad k) {ls : List (Option xV)} (hv : ls.all (xwo n) = true) {LS : Array Slot} (hl : lv_has LS nL (xLv (xvm b ad) ls)) : lv_has LS nL (xLv (xvm b ad') ls) := by
  refine lv_has_mono hl (fun q hq => ?_)
  obtain ⟨v, h1, h2⟩ := xLv_mem.mp hq
  refine xLv_mem.mpr ⟨v, h1, ?_⟩
  rw [h2]
  exact xwv_eq h (by have := List.all_eq_true.mp hv (some v) (List.mem_of_getElem? h1); exact this)
/-- a cell more at the end of the world -/
theorem xWs_push {dA : FieldType → ClassId} {ad : Nat → Nat} {sh : List (Nat ⊕ (FieldType × Nat))} {F : xF} {I I' : xI} {kd : Nat ⊕ (FieldType × Nat)} {q : Nat} (hF : xFw (sh, F, I)) (hI : ∀ k, k < sh.length → I' k = I k) :
    xWs dA (fun k => if k = sh.length then q else ad k) (sh ++ [kd], F, I') = xWs dA ad (sh, F, I) ++ [(q, xE dA (fun k => if k = sh.length then q else ad k) (fun _ => .none) (I' sh.length) kd)] := by
  have hF0 : ∀ k j r, F k j = some r → k < sh.length ∧ r < sh.length := hF
  refine List.ext_getElem? (fun i => ?_)
  rw [xWs_at]
  by_cases hi : i < sh.length
  · refine Eq.trans ?_ (List.getElem?_append_left (by rw [xWs_len]; exact hi)).symm
    rw [xWs_at]
    show Option.map _ (sh ++ [kd])[i]? = Option.map _ sh[i]?
    rw [List.getElem?_append_left hi]
    cases sh[i]? with
    | none => rfl
    | some kd0 =>
      simp only [Option.map_some, Option.some.injEq, Prod.mk.injEq]
      refine ⟨by rw [if_neg (by omega)], ?_⟩
      rw [hI i hi]
      have hm : ∀ j, Option.map (fun k => if k = sh.length then q else ad k) (F i j) = Option.map ad (F i j) := by
        intro j
        cases h : F i j with
        | none => rfl
        | some r =>
          have := (hF0 i j r h).2
          simp only [Option.map_some, Option.some.injEq]
          rw [if_neg (by omega)]
      cases kd0 with
      | inl ci =>
        show Sum.inr (ci, _) = Sum.inr (ci, _)
        congr 2
        refine List.map_congr_left (fun j _ => ?_)
        unfold xfv
        rw [hm j]
      | inr p =>
        show Sum.inl (dA p.1, p.2, _) = Sum.inl (dA p.1, p.2, _)
        congr 3
        by_cases hp : xRf p.1 = true
        · simp only [hp, if_true]
          congr 4
          funext j
          exact hm j
        · simp only [hp]
          rfl
  · refine Eq.trans ?_ (List.getElem?_append_right (by rw [xWs_len]; show sh.length ≤ i; omega)).symm
    rw [xWs_len]
    show Option.map _ (sh ++ [kd])[i]? = _
    rw [List.getElem?_append_right (by omega)]
    by_cases hz : i = sh.length
    · subst hz
      have hf : F sh.length = fun _ => .none := by
        funext j
        cases h : F sh.length j with
        | none => rfl
        | some r => have := (hF0 _ j r h).1; omega
      simp [hf]
    · rw [List.getElem?_eq_none (by simp; omega), List.getElem?_eq_none (by simp; show 1 ≤ i - sh.length; omega)]
      rfl
theorem xsum_one : ∀ st : List xV, (st.map (fun _ => 1)).sum = st.length
  | [] => rfl
  | _ :: l => by
    have := xsum_one l
    simp only [List.map_cons, List.sum_cons, List.length_cons]
    omega
def xzr (I : xI) (n : Nat) : xI := fun a c => if a = n then 0 else I a c
section EXC
variable {X : Option (Nat × (Nat → Int32))} {M : xM} {pc : Nat} {ls : List (Option xV)} {st : List xV} {sh : List (Nat ⊕ (FieldType × Nat))} {F : xF} {I : xI} {σ : xS} {o : Option (Option Int32 × xS)}
theorem xFw_push {kd : Nat ⊕ (FieldType × Nat)} {I' : xI} (h : xFw (sh, F, I)) : xFw (sh ++ [kd], F, I') := by
  intro k j r hr
  obtain ⟨h1, h2⟩ := h k j r hr
  have h1 : k < sh.length := h1
  have h2 : r < sh.length := h2
  exact ⟨by simp; omega, by simp; omega⟩
/-- the frame of a making: what the rules of 'new' share -/
theorem Ex.made {kd : Nat ⊕ (FieldType × Nat)} {n pc' : Nat} {st' : List xV} (hn : xSz kd = n) (hw1 : st'.all (xwv sh.length) = true) (hw2 : ls.all (xwo sh.length) = true)
    (kk : Ex X M pc' ls (.inr (some sh.length) :: st') (sh ++ [kd], F, xzr I sh.length) o)
    (step : ∀ {p : Program} {l : Launch} {e : Env} {R : Room} {s : State} {m : MethodId} {args : Array Value} {below : List Frame} {meth : Method} {c : Code} {H : Heap} {locs : List Loc} {cells slots : Nat} {Q : State → Prop} (D : va_G) (dA : FieldType → ClassId) (A : Nat → Prop) (b : Nat) (ad : Nat → Nat) (LS : Array Slot),
      xCtx X M p R s m args meth c D dA A b → cells + 1 ≤ R.cells → slots + n ≤ R.slots → xRel D dA A (sh, F, I) ad H → va_S A s.heap H locs → lv_has LS (xL M) (xLv (xvm b ad) ls) →
      (∀ (q : Nat) (H1 : Heap), va_P D vwCl (xWs dA ad (sh, F, I) ++ [(q, xE dA (fun k => if k = sh.length then q else ad k) (fun _ => .none) (fun _ => 0) kd)]) H1 → va_D A (xWs dA ad (sh, F, I) ++ [(q, xE dA (fun k => if k = sh.length then q else ad k) (fun _ => .none) (fun _ => 0) kd)]) → va_S A s.heap H1 locs → W p l e R s m args below meth c H1 locs (cells + 1) (slots + n) Q (F0 m pc' LS (.ref q :: st'.map (xvm b ad)))) →
      W p l e R s m args below meth c H locs cells slots Q (F0 m pc LS (st.map (xvm b ad)))) : Ex X M pc ls st (sh, F, I) o := by
  intro v σ' ho
  obtain ⟨h1, h2⟩ := kk v σ' ho
  have hp : sh <+: σ'.1 := List.IsPrefix.trans ⟨[kd], rfl⟩ h1
  refine ⟨hp, fun {p l e R s m args below meth c H locs cells slots Q} D dA A b ad LS C hcs hR hS hl K => ?_⟩
  have z1 := xW_le (a := (sh ++ [kd], F, xzr I sh.length)) (b := σ') h1
  have e1 : xC (sh ++ [kd], F, xzr I sh.length) = xC (sh, F, I) + 1 := by simp [xC]
  have e2 : xW (sh ++ [kd], F, xzr I sh.length) = xW (sh, F, I) + n := by simp [xW, hn]
  rw [e1, e2] at z1
  refine step D dA A b ad LS C (by omega) (by omega) hR hS hl (fun q H1 hP hD hS1 => ?_)
  have ew := xWs_push (dA := dA) (ad := ad) (I' := xzr I sh.length) (kd := kd) (q := q) hR.2.2 (fun k hk => by funext c; simp [xzr]; omega)
  have er : xzr I sh.length sh.length = fun _ => 0 := by funext c; simp [xzr]
  rw [er] at ew
  have hag : ∀ k, k < sh.length → (fun k => if k = sh.length then q else ad k) k = ad k := fun k hk => if_neg (by omega)
  have key := h2 (p := p) (l := l) (e := e) (R := R) (s := s) (m := m) (args := args) (below := below) (meth := meth) (c := c) (H := H1) (locs := locs) (cells := cells + 1) (slots := slots + n) (Q := Q) D dA A b (fun k => if k = sh.length then q else ad k) LS C (by rw [e1, e2]; omega) ⟨by rw [ew]; exact hP, by rw [ew]; exact hD, xFw_push hR.2.2⟩ hS1 (xwl_eq hag hw2 hl)
    (fun pc2 LS2 H2 locs2 ad2 hg2 hR2 hS2 hE2 => by
      have := K pc2 LS2 H2 locs2 ad2 (fun k hk => ?_) hR2 hS2 hE2
      · rw [e1, e2]
        have a1 : cells + 1 + (xC σ' - (xC (sh, F, I) + 1)) = cells + (xC σ' - xC (sh, F, I)) := by omega
        have a2 : slots + n + (xW σ' - (xW (sh, F, I) + n)) = slots + (xW σ' - xW (sh, F, I)) := by omega
        rw [a1, a2]
        exact this
      · have hk : ¬ (sh.length ≤ k ∧ k < σ'.1.length) := hk
        have hlen : sh.length + 1 ≤ σ'.1.length := by have := h1.length_le; simpa using this
        rw [hg2 k (by simp; omega)]
        exact if_neg (by omega))
  have e3 : (Sum.inr (some sh.length) :: st').map (xvm b (fun k => if k = sh.length then q else ad k)) = .ref q :: st'.map (xvm b ad) := by
    rw [List.map_cons, xws_eq hag hw1]
    show Value.ref (if sh.length = sh.length then q else ad sh.length) :: _ = _
    rw [if_pos rfl]
  rw [e3] at key
  exact key
theorem Ex.new {idx ci N : Nat} {C0 : String} {T : u_T} (hd : decode (xB M) pc = .ok (.new idx, 3)) (hc : xCk ci C0 T N) (hl1 : Cond.classLink (xY M).cls idx C0 ∈ xWd) (hl2 : Cond.instantiable C0 N ∈ xWd) (hl3 : Cond.initialized C0 ∈ xWd) (hw1 : st.all (xwv sh.length) = true) (hw2 : ls.all (xwo sh.length) = true)
    (kk : Ex X M (pc + 3) ls (.inr (some sh.length) :: st) (sh ++ [.inl ci], F, xzr I sh.length) o) : Ex X M pc ls st (sh, F, I) o := by
  refine Ex.made (n := N) (by rw [hc.2.1]; rfl) hw1 hw2 kk ?_
  intro p l e R s m args below meth c H locs cells slots Q D dA A b ad LS C hcl hsl hR hS hl K
  obtain ⟨hx, hb, hml, hown, hts, hnw, hao, hin, hfr, hlo, hK, hA, hX⟩ := id C
  obtain ⟨q1, q2, q3, q4, q5, q6⟩ := hc
  subst q2
  refine va_new (cl := vwCl) (fs := (List.range (xN ci)).map (xfv ad (fun _ => .none) (fun _ => 0) ci)) hx hb hts q3 (xTy ci) q4 hown (hts _ hl1) (hts _ hl2) (hts _ hl3) hK hR.1 hR.2.1 hS hA q1 (fun j hj => ?_) hcl hsl hd (fun q H1 hP hD hS1 => ?_)
  · rw [q6 j hj]
    unfold vp_V
    rw [List.getD_eq_getElem?_getD, xfs_at hj]
    simp [xfv, va_rf]
  · have e : xE dA (fun k => if k = sh.length then q else ad k) (fun _ => .none) (fun _ => 0) (.inl ci) = .inr (ci, (List.range (xN ci)).map (xfv ad (fun _ => .none) (fun _ => 0) ci)) := rfl
    exact K q H1 (by rw [e]; exact hP) (by rw [e]; exact hD) hS1
theorem Ex.newa {at0 : ArrayType} {ty : FieldType} {n : Int32} {N t0 : Nat} (hd : decode (xB M) pc = .ok (.newarray at0, 2)) (hty : newarray.typeOf at0 = ty) (hp : (ty = .int ∧ t0 = 0) ∨ (ty = .char ∧ t0 = 1) ∨ (ty = .boolean ∧ t0 = 2)) (hl1 : Cond.arrayClass (newarray.typeOf at0) ∈ xWd) (hn : ¬ n < 0) (hN : n.toNatClampNeg = N) (hb1 : N * 8 ≤ 536870912) (hw1 : st.all (xwv sh.length) = true) (hw2 : ls.all (xwo sh.length) = true)
    (kk : Ex X M (pc + 2) ls (.inr (some sh.length) :: st) (sh ++ [.inr (ty, N)], F, xzr I sh.length) o) : Ex X M pc ls (.inl n :: st) (sh, F, I) o := by
  refine Ex.made (n := N) rfl hw1 hw2 kk ?_
  intro p l e R s m args below meth c H locs cells slots Q D dA A b ad LS C hcl hsl hR hS hl K
  obtain ⟨hx, hb, hml, hown, hts, hnw, hao, hin, hfr, hlo, hK, hA, hX⟩ := id C
  refine va_newa (cl := vwCl) (a0 := (N, .inl (fun _ => 0))) hx hb (hts _ hl1) hty hK hR.1 hR.2.1 hS hA (fun cA => ?_) hn hN (Nat.le_trans (Nat.mul_le_mul_left _ ?_) hb1) hcl hsl hd (fun q cA H1 hK1 hP hD hS1 => ?_)
  · rcases hp with ⟨rfl, -⟩ | ⟨rfl, -⟩ | ⟨rfl, -⟩ <;> rfl
  · rcases hp with ⟨rfl, -⟩ | ⟨rfl, -⟩ | ⟨rfl, -⟩ <;> decide
  · have hcA : cA = dA ty := by
      have h1 := (hK1.2 4 (cA, ty) rfl).2
      rcases hp with ⟨rfl, -⟩ | ⟨rfl, -⟩ | ⟨rfl, -⟩
      · exact Option.some.inj (h1.symm.trans (hK.2 0 _ rfl).2)
      · exact Option.some.inj (h1.symm.trans (hK.2 1 _ rfl).2)
      · exact Option.some.inj (h1.symm.trans (hK.2 2 _ rfl).2)
    have e : xE dA (fun k => if k = sh.length then q else ad k) (fun _ => .none) (fun _ => 0) (.inr (ty, N)) = .inl (cA, N, .inl (fun _ => 0)) := by
      rw [hcA]
      rcases hp with ⟨rfl, -⟩ | ⟨rfl, -⟩ | ⟨rfl, -⟩ <;> rfl
    exact K q H1 (by rw [e]; exact hP) (by rw [e]; exact hD) hS1
theorem Ex.newq {idx : Nat} {n : Int32} {N : Nat} (hd : decode (xB M) pc = .ok (.anewarray idx, 3)) (hl1 : Cond.classLink (xY M).cls idx "FenceDuel$State" ∈ xWd) (hn : ¬ n < 0) (hN : n.toNatClampNeg = N) (hb1 : N * 4 ≤ 536870912) (hw1 : st.all (xwv sh.length) = true) (hw2 : ls.all (xwo sh.length) = true)
    (kk : Ex X M (pc + 3) ls (.inr (some sh.length) :: st) (sh ++ [.inr (.object "FenceDuel$State", N)], F, xzr I sh.length) o) : Ex X M pc ls (.inl n :: st) (sh, F, I) o := by
  refine Ex.made (n := N) rfl hw1 hw2 kk ?_
  intro p l e R s m args below meth c H locs cells slots Q D dA A b ad LS C hcl hsl hR hS hl K
  obtain ⟨hx, hb, hml, hown, hts, hnw, hao, hin, hfr, hlo, hK, hA, hX⟩ := id C
  refine va_newq (cl := vwCl) hx hb hown (hts _ hl1) hao hK hR.1 hR.2.1 hS hA hn hN hb1 hcl hsl hd (fun q cA H1 hK1 hP hD hS1 => ?_)
  have hcA : cA = dA (.object "FenceDuel$State") := by
    obtain ⟨_, _, _, _, _, h1⟩ := (hK1.2 4 (cA, .object "FenceDuel$State") rfl).2
    obtain ⟨_, _, _, _, _, h2⟩ := (hK.2 3 (dA (.object "FenceDuel$State"), .object "FenceDuel$State") rfl).2
    exact Option.some.inj (h1.symm.trans h2)
  have e : xE dA (fun k => if k = sh.length then q else ad k) (fun _ => .none) (fun _ => 0) (.inr (.object "FenceDuel$State", N)) = .inl (cA, N, .inr (.inr (.inr (.inr (fun _ => .none))))) := by
    rw [hcA]; rfl
  exact K q H1 (by rw [e]; exact hP) (by rw [e]; exact hD) hS1
theorem Ex.objInit {idx : Nat} {r : Option Nat} (hd : decode (xB M) pc = .ok (.invokespecial idx, 3)) (hl1 : Cond.methodLink (xY M).cls idx objectInit ∈ xWd) (hl2 : Cond.instanceMethod objectInit ∈ xWd) (hl3 : Cond.code objectInit ⟨#[0xb1]⟩ 1 .none ∈ xWd) (hf : 1 ≤ xFr M) (hlw : st.length + 12 ≤ xLo M) (k : Ex X M (pc + 3) ls st σ o) : Ex X M pc ls (.inr r :: st) σ o := by
  intro v σ' ho
  obtain ⟨h1, h2⟩ := k v σ' ho
  refine ⟨h1, fun D dA A b ad LS C hcs hR hS hl K => ?_⟩
  obtain ⟨hx, hb, hml, hown, hts, hnw, hao, hin, hfr, hlo, hK, hA, hX⟩ := id C
  have hsum : ((st.map (xvm b ad)).map fun v => v.category).sum = st.length := by
    rw [List.map_map]
    have : (fun v => v.category) ∘ (xvm b ad) = fun _ => 1 := by funext v; exact xvm_cat b ad v
    rw [this]; exact xsum_one st
  cases r with
  | none => exact W.objInit hx hb hown (hts _ hl1) (hts _ hl2) (hts _ hl3) rfl (by show LS.size = _; rw [hml]; exact hl.1) rfl hd (Nat.le_trans hf hfr) (by rw [hsum]; show 2 * 0 + st.length + 12 ≤ _; omega) (h2 D dA A b ad LS C hcs hR hS hl K)
  | some r => exact W.objInit hx hb hown (hts _ hl1) (hts _ hl2) (hts _ hl3) rfl (by show LS.size = _; rw [hml]; exact hl.1) rfl hd (Nat.le_trans hf hfr) (by rw [hsum]; show 2 * 0 + st.length + 12 ≤ _; omega) (h2 D dA A b ad LS C hcs hR hS hl K)
end EXC
end
section
/-! a method's contract out of its run, and calls -/
def xEnt (as : List xV) (n : Nat) : List (Option xV) := as.map some ++ List.replicate (n - as.length) Option.none
theorem lv_args_x {b : Nat} {ad : Nat → Nat} : ∀ (as : List xV) (j i : Nat) (v : xV), as[i]? = some v → (j + i, xvm b ad v) ∈ lv_args j (as.map (xvm b ad))
  | [], _, i, _, h => by simp at h
  | a :: as, j, i, v, h => by
    have hc : ¬ (xvm b ad a).category = 2 := by rw [xvm_cat]; decide
    show _ ∈ (j, xvm b ad a) :: lv_args (if (xvm b ad a).category = 2 then j + 2 else j + 1) (as.map (xvm b ad))
    rw [if_neg hc]
    cases i with
    | zero =>
      simp at h
      subst h
      exact List.mem_cons_self
    | succ i =>
      have h2 : as[i]? = some v := by simpa using h
      have := lv_args_x (b := b) (ad := ad) as (j + 1) i v h2
      rw [show j + (i + 1) = j + 1 + i by omega]
      exact List.mem_cons_of_mem _ this
theorem lg_sl_x {b : Nat} {ad : Nat → Nat} : ∀ as : List xV, (lg_sl (as.map (xvm b ad))).length = as.length
  | [] => rfl
  | a :: as => by
    have hc : ¬ (xvm b ad a).category = 2 := by rw [xvm_cat]; decide
    have := lg_sl_x (b := b) (ad := ad) as
    unfold lg_sl at this ⊢
    rw [List.map_cons, List.flatMap_cons, if_neg hc, List.length_append, this, List.length_cons, List.length_cons, List.length_nil]
    omega
theorem xEnt_has {b n : Nat} {ad : Nat → Nat} {as : List xV} {LS : Array Slot} (h : lv_has LS n (lv_args 0 (as.map (xvm b ad)))) : lv_has LS n (xLv (xvm b ad) (xEnt as n)) := by
  refine lv_has_mono h (fun q hq => ?_)
  obtain ⟨v, h1, h2⟩ := xLv_mem.mp hq
  unfold xEnt at h1
  by_cases hi : q.1 < as.length
  · rw [List.getElem?_append_left (by simpa using hi), List.getElem?_map] at h1
    cases hz : as[q.1]? with
    | none => rw [hz] at h1; cases h1
    | some z =>
      rw [hz] at h1
      have hzv : z = v := by simpa using h1
      subst hzv
      have := lv_args_x (b := b) (ad := ad) as 0 q.1 z hz
      rw [Nat.zero_add] at this
      obtain ⟨q1, q2⟩ := q
      simp only at h2 this
      rw [h2]; exact this
  · rw [List.getElem?_append_right (by simp; omega)] at h1
    rw [List.getElem?_replicate] at h1
    split at h1 <;> simp at h1
def xPc (D : va_G) (dA : FieldType → ClassId) (b : Nat) (ad : Nat → Nat) (sz : Nat) (σ : xS) (as : List xV) : Array Value → State → Prop :=
  va_Pc (as.map (xvm b ad)) (fun U => U.heap.size = sz ∧ va_P D vwCl (xWs dA ad σ) U.heap ∧ va_K D vwCl (xTys dA) U ∧ va_D (fun _ => True) (xWs dA ad σ) ∧ (∀ w ∈ xNw, va_Nw w U) ∧ va_AO "FenceDuel$State" U)
def xQc (D : va_G) (dA : FieldType → ClassId) (σ σ1 : xS) (v1 : Option Int32) (ad : Nat → Nat) (sz : Nat) : Array Value → State → Outcome → State → Prop := fun _ st oc t =>
  oc = .returned (v1.map .int) ∧ (∃ ad', xAg σ σ1 ad ad' ∧ xRel D dA (va_A (xWs dA ad σ) sz) σ1 ad' t.heap) ∧ va_F (va_A (xWs dA ad σ) sz) st t
def xRm (M : xM) (σ σ1 : xS) : Room := { frames := xFr M, cells := xC σ1 - xC σ, slots := xW σ1 - xW σ, locals := xLo M }
theorem xNw_onT {w : Cond} (h : w ∈ xNw) : w.onTables = true := by
  obtain ⟨a, i, y, n, rfl⟩ := xNw_tab h
  rfl
theorem xPc_blind {D : va_G} {dA : FieldType → ClassId} {b : Nat} {ad : Nat → Nat} {sz : Nat} {σ : xS} {as : List xV} : FrameBlind (xPc D dA b ad sz σ as) := by
  intro a U g mk h
  obtain ⟨h1, h2, h3, h4, h5, h6, h7⟩ := h
  exact ⟨h1, h2, h3, va_K.moved (u := U) (U := U.calling g mk a) (Vm.Alike.refl U.vm) h4, h5, fun w hw => va_Nw.same (xNw_onT hw) (u := U) (U := U.calling g mk a) rfl (h6 w hw), va_AO.moved (u := U) (U := U.calling g mk a) (Vm.Alike.refl U.vm) h7⟩
theorem xMet {M : xM} {as : List xV} {σ σ1 : xS} {v1 : Option Int32} (hG : xGood M) (hn : as.length ≤ xL M) (hFw : xFw σ) (h : Ex Option.none M 0 (xEnt as (xL M)) [] σ (some (v1, σ1))) (l : Launch) (D : va_G) (dA : FieldType → ClassId) (b : Nat) (ad : Nat → Nat) (sz : Nat) :
    Met l (xY M) (xMw M) (xRm M σ σ1) (xPc D dA b ad sz σ as) (xQc D dA σ σ1 v1 ad sz) (xC σ1 - xC σ) (xW σ1 - xW σ) (va_A (xWs dA ad σ) sz) := by
  obtain ⟨hpre, h2⟩ := h v1 σ1 rfl
  refine Met.ofW (cc := xB M) (maxL := xL M) (ret := xT M) hG.1 rfl ?_
  intro p e s m args below meth c s₁ B hml hv
  obtain ⟨rfl, hsz, hP, hK, hD0, hN, hO⟩ := hv
  have hx := B.exec
  have hb := B.bytes
  have hr := B.returns
  have hts0 := atoms_spec (ws := xMw M) B.pre
  have hts : ∀ w ∈ xWd, w.before ((as.map (xvm b ad)).toArray) s = true := fun w hw => hts0 w (List.mem_cons_of_mem _ hw)
  have hown : s.vm.findClass (xY M).cls = some m.cls := findClass_of_methodNamed B.named
  have hlocks := B.notSynchronized
  have hin : meth.name = (xY M).name := (name_of_methodNamed B.named B.method).1
  subst hsz
  have hD := hD0.self (sz := s.heap.size)
  have hl := lv_entry (as.map (xvm b ad)) (n := xL M) (by rw [lg_sl_x]; exact hn)
  rw [lg_entry_eq]
  generalize (lg_sl (as.map (xvm b ad)) ++ List.replicate (xL M - (lg_sl (as.map (xvm b ad))).length) Slot.unset).toArray = LS at hl ⊢
  have hS : va_S (va_A (xWs dA ad σ) s.heap.size) s.heap s.heap [] := va_S.rf
  have C : xCtx Option.none M p (headSpec (xMw M) (xRm M σ σ1)).room s m ((as.map (xvm b ad)).toArray) meth c D dA (va_A (xWs dA ad σ) s.heap.size) b :=
    ⟨hx, hb, hml, hown, hts, hN, hO, fun h => hin.trans h, Nat.le_refl _, Nat.le_refl _, hK, fun q hq => Or.inr hq, fun L xs h => by cases h⟩
  refine h2 D dA (va_A (xWs dA ad σ) s.heap.size) b ad LS C ⟨by rw [Nat.zero_add]; exact Nat.le_refl _, by rw [Nat.zero_add]; exact Nat.le_refl _⟩ ⟨hP, hD, hFw⟩ hS (xEnt_has hl) (fun pc' LS' H' locs' ad' hag hR' hS' hE => ?_)
  rw [Nat.zero_add, Nat.zero_add]
  cases v1 with
  | none => exact W.vret hx hb (hr.trans hE.1) (fun t ht hW => ⟨rfl, ⟨ad', hag, by rw [ht]; exact hR'⟩, hS'.F ht⟩) hS'.2.2 hE.2
  | some x =>
    obtain ⟨ty, hT, hnar, hdec⟩ := hE
    exact W.zret hx hb (hr.trans hT) hnar (fun t ht hW => ⟨rfl, ⟨ad', hag, by rw [ht]; exact hR'⟩, hS'.F ht⟩) hS'.2.2 hdec
section XCALL
variable {p : Program} {l : Launch} {e : Env} {R : Room} {s : State} {m : MethodId} {args : Array Value} {below : List Frame} {meth : Method} {c : Code} {H : Heap} {locs : List Loc} {cells slots : Nat} {Q : State → Prop}
theorem xCall {pc mc ms : Nat} {LS : Array Slot} {rest st0 : List Value} {a : Array Value} {A : Nat → Prop} {D : va_G} {dA : FieldType → ClassId} {σ σ1 : xS} {v1 : Option Int32} {ad : Nat → Nat}
    (hr : va_Run p l e R s m args below meth c H locs cells slots mc ms (F0 m pc LS st0) rest (xQc D dA σ σ1 v1 ad H.size a) (va_A (xWs dA ad σ) H.size)) (hS : va_S A s.heap H locs) (hsub : ∀ q, va_A (xWs dA ad σ) H.size q → A q)
    (kk : ∀ (ad' : Nat → Nat) (H1 : Heap) (locs1 : List Loc), xAg σ σ1 ad ad' → xRel D dA A σ1 ad' H1 → va_S A s.heap H1 locs1 → W p l e R s m args below meth c H1 locs1 (cells + mc) (slots + ms) Q (F0 m (pc + 3) LS (xst v1 ++ rest))) : W p l e R s m args below meth c H locs cells slots Q (F0 m pc LS st0) := by
  intro T hT X
  obtain ⟨v, st₀, t, T', L, h0, X', hL, e1, e2, ⟨hv, ⟨ad', hag, hP, hD, hF⟩, hz, hk⟩, st⟩ := hr T hT X
  have hvv : v = v1.map .int := by cases hv; rfl
  subst hvv
  rw [h0] at hz hk
  obtain ⟨t2, a1, b1⟩ := kk ad' T'.heap (locs ++ L) hag ⟨by rw [e1]; exact hP, hD.weaken (fun _ q _ h => hsub q.1 h), hF⟩
    ⟨Nat.le_trans hS.1 (by rw [e1]; exact hz), fun q h1 h2 => by rw [e1, hk q (Nat.lt_of_lt_of_le h1 hS.1) (fun z => h2 (hsub q z))]; exact hS.2.1 q h1 h2, fun q hq => by
      rcases List.mem_append.mp hq with h | h
      · exact hS.2.2 q h
      · exact hsub _ (hL q h)⟩ T' rfl X'
  exact ⟨t2, st t2 a1, b1⟩
end XCALL
theorem xSub {D : va_G} {dA : FieldType → ClassId} {A : Nat → Prop} {σ : xS} {ad : Nat → Nat} {H H0 : Heap} {locs : List Loc} (hR : xRel D dA A σ ad H) (hS : va_S A H0 H locs) (hA : ∀ q, H0.size ≤ q → A q) : ∀ q, va_A (xWs dA ad σ) H.size q → A q := by
  intro q h
  rcases h with ⟨k, e, h⟩ | h
  · exact hR.2.1.2 k (q, e) h
  · exact hA q (Nat.le_trans hS.1 h)
theorem xcats {b : Nat} {ad : Nat → Nat} (st : List xV) : ((st.map (xvm b ad)).map fun v => v.category).sum = st.length := by
  rw [List.map_map]
  have : (fun v => v.category) ∘ (xvm b ad) = fun _ => 1 := by funext v; exact xvm_cat b ad v
  rw [this]
  exact xsum_one st
theorem xroom {m : MethodId} {pc b : Nat} {LS : Array Slot} {ad : Nat → Nat} {sv : List Value} {st : List xV} (h : st.length ≤ 8) : 2 * (F0 m pc LS sv).monitorRoom + ((st.map (xvm b ad)).map fun v => v.category).sum ≤ 8 := by
  rw [xcats]
  show 2 * 0 + st.length ≤ 8
  omega
section EXCALL
variable {X : Option (Nat × (Nat → Int32))} {M : xM} {pc : Nat} {ls : List (Option xV)} {σ : xS}
/-- the frame of a call: what the rules share; 'run' is the machine's part -/
theorem Ex.called {M' : xM} {pc' : Nat} {as rest st0 : List xV} {o1 : Option (Option Int32 × xS)} {K : Option Int32 → xS → Option (Option Int32 × xS)} (hpc : pc' = pc + 3)
    (hwf : (∀ v σ1, o1 = some (v, σ1) → σ1.1.length = σ.1.length) ∨ (rest.all (xwv σ.1.length) = true ∧ ls.all (xwo σ.1.length) = true))
    (hG : xGood M') (hargs : as.length ≤ xL M') (h1 : Ex Option.none M' 0 (xEnt as (xL M')) [] σ o1)
    (h2 : ∀ v σ1, o1 = some (v, σ1) → Ex X M pc' ls ((v.map Sum.inl).toList ++ rest) σ1 (K v σ1))
    (run : ∀ {p : Program} {l : Launch} {e : Env} {R : Room} {s : State} {m : MethodId} {args : Array Value} {below : List Frame} {meth : Method} {c : Code} {H : Heap} {locs : List Loc} {cells slots : Nat} (D : va_G) (dA : FieldType → ClassId) (A : Nat → Prop) (b : Nat) (ad : Nat → Nat) (LS : Array Slot) (v1 : Option Int32) (σ1 : xS),
      xCtx X M p R s m args meth c D dA A b → cells + (xC σ1 - xC σ) ≤ R.cells ∧ slots + (xW σ1 - xW σ) ≤ R.slots → xRel D dA A σ ad H → va_S A s.heap H locs → lv_has LS (xL M) (xLv (xvm b ad) ls) →
      Met l (xY M') (xMw M') (xRm M' σ σ1) (xPc D dA b ad H.size σ as) (xQc D dA σ σ1 v1 ad H.size) (xC σ1 - xC σ) (xW σ1 - xW σ) (va_A (xWs dA ad σ) H.size) →
      (∀ U : State, U.heap = H → s.WarmedH U.vm → xPc D dA b ad H.size σ as (as.map (xvm b ad)).toArray U) →
      va_Run p l e R s m args below meth c H locs cells slots (xC σ1 - xC σ) (xW σ1 - xW σ) (F0 m pc LS (st0.map (xvm b ad))) (rest.map (xvm b ad)) (xQc D dA σ σ1 v1 ad H.size (as.map (xvm b ad)).toArray) (va_A (xWs dA ad σ) H.size)) :
    Ex X M pc ls st0 σ (o1.bind fun r => K r.1 r.2) := by
  subst hpc
  intro v σ' ho
  cases o1 with
  | none => cases ho
  | some r =>
    obtain ⟨v1, σ1⟩ := r
    have ho : K v1 σ1 = some (v, σ') := ho
    obtain ⟨g1, g2⟩ := h2 v1 σ1 rfl v σ' ho
    obtain ⟨f1, -⟩ := h1 v1 σ1 rfl
    have z1 := xW_le f1
    have z2 := xW_le g1
    have y1 : σ.1.length ≤ σ1.1.length := z1.1
    have y2 : σ1.1.length ≤ σ'.1.length := z2.1
    refine ⟨f1.trans g1, fun {p l e R s m args below meth c H locs cells slots Q} D dA A b ad LS C hcs hR hS hl Kk => ?_⟩
    have hA := C.2.2.2.2.2.2.2.2.2.2.2.1
    have hK := C.2.2.2.2.2.2.2.2.2.2.1
    have hN := C.2.2.2.2.2.1
    have hO := C.2.2.2.2.2.2.1
    refine xCall (run D dA A b ad LS v1 σ1 C (by omega) hR hS hl (xMet hG hargs hR.2.2 h1 l D dA b ad H.size) (fun U hU hW => ⟨rfl, by rw [hU], by rw [hU]; exact hR.1, va_K.moved hW.alike hK, hR.2.1.weaken (fun _ _ _ _ => trivial), fun w hw => by
      obtain ⟨a, i, y, n, rfl⟩ := xNw_tab hw
      exact va_Nw.warmM hW (hN _ hw), va_AO.moved hW.alike hO⟩)) hS (xSub hR hS hA) (fun ad' H1 locs1 hag hR1 hS1 => ?_)
    have heq : ∀ k, k < σ.1.length → ad' k = ad k := fun k hk => hag k (by omega)
    have hst : rest.map (xvm b ad') = rest.map (xvm b ad) ∧ lv_has LS (xL M) (xLv (xvm b ad') ls) := by
      rcases hwf with hw | ⟨hw1, hw2⟩
      · have : ad' = ad := by
          funext k
          exact hag k (by rw [hw v1 σ1 rfl]; omega)
        rw [this]
        exact ⟨rfl, hl⟩
      · exact ⟨xws_eq heq hw1, xwl_eq heq hw2 hl⟩
    have key := g2 (p := p) (l := l) (e := e) (R := R) (s := s) (m := m) (args := args) (below := below) (meth := meth) (c := c) (H := H1) (locs := locs1) (cells := cells + (xC σ1 - xC σ)) (slots := slots + (xW σ1 - xW σ)) (Q := Q) D dA A b ad' LS C (by omega) hR1 hS1 hst.2
      (fun pc2 LS2 H2 locs2 ad2 hg2 hR2 hS2 hE2 => by
        have := Kk pc2 LS2 H2 locs2 ad2 (xAg.trans y1 y2 hag hg2) hR2 hS2 hE2
        have a1 : cells + (xC σ1 - xC σ) + (xC σ' - xC σ1) = cells + (xC σ' - xC σ) := by omega
        have a2 : slots + (xW σ1 - xW σ) + (xW σ' - xW σ1) = slots + (xW σ' - xW σ) := by omega
        rw [a1, a2]
        exact this)
    have e3 : ((v1.map Sum.inl).toList ++ rest).map (xvm b ad') = xst v1 ++ rest.map (xvm b ad) := by
      rw [List.map_append, hst.1]
      congr 1
      cases v1 <;> rfl
    rw [e3] at key
    exact key
theorem xwords {M' : xM} {s : State} {args : Array Value} (hts : ∀ w ∈ xWd, w.before args s = true) (hG : xGood M') : GoodIn xWd (xMw M') ∧ (Cond.initialized (xY M').cls).before args s = true := ⟨xMw_good hG, hts _ hG.2.2.1⟩
theorem Ex.callV {M' : xM} {idx k : Nat} {ci : Nat} {T : u_T} {N : Nat} {as rest st0 : List xV} {o1 : Option (Option Int32 × xS)} {K : Option Int32 → xS → Option (Option Int32 × xS)}
    (hd : decode (xB M) pc = .ok (.invokevirtual idx, 3)) (hG : xGood M') (hl1 : Cond.methodLink (xY M).cls idx (xY M') ∈ xWd) (hl2 : Cond.instanceMethod (xY M') ∈ xWd) (hl3 : Cond.selects (xY M').cls (xY M') (xY M') ∈ xWd)
    (hn : (parseMethodDescriptor (xY M').desc).map (fun d => d.parameters.length) = some as.length) (hroom : xFr M' + 1 ≤ xFr M ∧ 8 + (xL M' + 11) + xLo M' ≤ xLo M)
    (hk : σ.1[k]? = some (.inl ci)) (hci : vwCl[ci]? = some ((xY M').cls, T, N)) (hst : st0 = as.reverse ++ .inr (some k) :: rest) (hr8 : rest.length ≤ 8) (hargs : as.length + 1 ≤ xL M')
    (hwf : (∀ v σ1, o1 = some (v, σ1) → σ1.1.length = σ.1.length) ∨ (rest.all (xwv σ.1.length) = true ∧ ls.all (xwo σ.1.length) = true))
    (h1 : Ex Option.none M' 0 (xEnt (.inr (some k) :: as) (xL M')) [] σ o1) (h2 : ∀ v σ1, o1 = some (v, σ1) → Ex X M (pc + 3) ls ((v.map Sum.inl).toList ++ rest) σ1 (K v σ1)) :
    Ex X M pc ls st0 σ (o1.bind fun r => K r.1 r.2) := by
  refine Ex.called (as := .inr (some k) :: as) (rest := rest) rfl hwf hG (by simpa using hargs) h1 h2 ?_
  intro p l e R s m args below meth c H locs cells slots D dA A b ad LS v1 σ1 C hcs hR hS hl hM hP
  obtain ⟨hx, hb, hml, hown, hts, hnw, hao, hin, hfr, hlo, hK, hA, hX⟩ := id C
  obtain ⟨w1, w2⟩ := xwords hts hG
  subst hst
  obtain ⟨ob, hob⟩ : ∃ fs, (xWs dA ad σ)[k]? = some (ad k, .inr (ci, fs)) := ⟨_, xWs_some hk⟩
  have hrm : (xRm M' σ σ1).frames + 1 ≤ R.frames ∧ 8 + (xL M' + 11) + (xRm M' σ σ1).locals ≤ R.locals := ⟨Nat.le_trans hroom.1 hfr, Nat.le_trans hroom.2 hlo⟩
  exact va_runV (As := as.map (xvm b ad)) (C := (xY M').cls) (n := as.length) (ws := xMw M') ⟨hx, hb, hml, hown, hts⟩ hM
    ⟨callB_of as.length hts w1 rfl rfl rfl w2 (hts _ hl1) ⟨hG.2.2.2.1, hG.2.2.2.2, hn⟩ hrm, hts _ hl2, hts _ hl3⟩
    ⟨xPc_blind, va_recv hK hR.1 hci hob, hP⟩ rfl (by simp) hl.1 (by simp [List.map_append, List.map_reverse, xvm]) (xroom hr8) hd hcs
theorem Ex.callS {M' : xM} {idx : Nat} {as rest st0 : List xV} {o1 : Option (Option Int32 × xS)} {K : Option Int32 → xS → Option (Option Int32 × xS)}
    (hd : decode (xB M) pc = .ok (.invokestatic idx, 3)) (hG : xGood M') (hl1 : Cond.methodLink (xY M).cls idx (xY M') ∈ xWd) (hl2 : Cond.static (xY M') ∈ xWd)
    (hn : (parseMethodDescriptor (xY M').desc).map (fun d => d.parameters.length) = some as.length) (hroom : xFr M' + 1 ≤ xFr M ∧ 8 + (xL M' + 11) + xLo M' ≤ xLo M)
    (hst : st0 = as.reverse ++ rest) (hr8 : rest.length ≤ 8) (hargs : as.length ≤ xL M')
    (hwf : (∀ v σ1, o1 = some (v, σ1) → σ1.1.length = σ.1.length) ∨ (rest.all (xwv σ.1.length) = true ∧ ls.all (xwo σ.1.length) = true))
    (h1 : Ex Option.none M' 0 (xEnt as (xL M')) [] σ o1) (h2 : ∀ v σ1, o1 = some (v, σ1) → Ex X M (pc + 3) ls ((v.map Sum.inl).toList ++ rest) σ1 (K v σ1)) :
    Ex X M pc ls st0 σ (o1.bind fun r => K r.1 r.2) := by
  refine Ex.called (as := as) (rest := rest) rfl hwf hG hargs h1 h2 ?_
  intro p l e R s m args below meth c H locs cells slots D dA A b ad LS v1 σ1 C hcs hR hS hl hM hP
  obtain ⟨hx, hb, hml, hown, hts, hnw, hao, hin, hfr, hlo, hK, hA, hX⟩ := id C
  obtain ⟨w1, w2⟩ := xwords hts hG
  subst hst
  have hrm : (xRm M' σ σ1).frames + 1 ≤ R.frames ∧ 8 + (xL M' + 11) + (xRm M' σ σ1).locals ≤ R.locals := ⟨Nat.le_trans hroom.1 hfr, Nat.le_trans hroom.2 hlo⟩
  exact va_runS (As := as.map (xvm b ad)) (n := as.length) (ws := xMw M') ⟨hx, hb, hml, hown, hts⟩ hM
    ⟨callB_of as.length hts w1 rfl rfl rfl w2 (hts _ hl1) ⟨hG.2.2.2.1, hG.2.2.2.2, hn⟩ hrm, hts _ hl2⟩
    ⟨xPc_blind, hP⟩ rfl (by simp) hl.1 (by simp [List.map_append, List.map_reverse]) (xroom hr8) hd hcs
theorem Ex.callSN {M' : xM} {idx : Nat} {host : String} {as rest st0 : List xV} {o1 : Option (Option Int32 × xS)} {K : Option Int32 → xS → Option (Option Int32 × xS)}
    (hd : decode (xB M) pc = .ok (.invokestatic idx, 3)) (hG : xGood M') (hl1 : Cond.methodLinkNest (xY M).cls idx (xY M') host ∈ xNw) (hl2 : Cond.static (xY M') ∈ xWd)
    (hn : (parseMethodDescriptor (xY M').desc).map (fun d => d.parameters.length) = some as.length) (hroom : xFr M' + 1 ≤ xFr M ∧ 8 + (xL M' + 11) + xLo M' ≤ xLo M)
    (hst : st0 = as.reverse ++ rest) (hr8 : rest.length ≤ 8) (hargs : as.length ≤ xL M')
    (hwf : (∀ v σ1, o1 = some (v, σ1) → σ1.1.length = σ.1.length) ∨ (rest.all (xwv σ.1.length) = true ∧ ls.all (xwo σ.1.length) = true))
    (h1 : Ex Option.none M' 0 (xEnt as (xL M')) [] σ o1) (h2 : ∀ v σ1, o1 = some (v, σ1) → Ex X M (pc + 3) ls ((v.map Sum.inl).toList ++ rest) σ1 (K v σ1)) :
    Ex X M pc ls st0 σ (o1.bind fun r => K r.1 r.2) := by
  refine Ex.called (as := as) (rest := rest) rfl hwf hG hargs h1 h2 ?_
  intro p l e R s m args below meth c H locs cells slots D dA A b ad LS v1 σ1 C hcs hR hS hl hM hP
  obtain ⟨hx, hb, hml, hown, hts, hnw, hao, hin, hfr, hlo, hK, hA, hX⟩ := id C
  obtain ⟨w1, w2⟩ := xwords hts hG
  subst hst
  have hrm : (xRm M' σ σ1).frames + 1 ≤ R.frames ∧ 8 + (xL M' + 11) + (xRm M' σ σ1).locals ≤ R.locals := ⟨Nat.le_trans hroom.1 hfr, Nat.le_trans hroom.2 hlo⟩
  exact va_runSN (As := as.map (xvm b ad)) (n := as.length) (ws := xMw M') ⟨hx, hb, hml, hown, hts⟩ hM
    ⟨va_cnB as.length hts w1 rfl rfl rfl (hnw _ hl1) w2 ⟨hG.2.2.2.1, hG.2.2.2.2, hn⟩ hrm, hts _ hl2, trivial⟩
    ⟨xPc_blind, hP⟩ rfl (by simp) hl.1 (by simp [List.map_append, List.map_reverse]) (xroom hr8) hd hcs
theorem Ex.callI {M' : xM} {idx k : Nat} {as rest st0 : List xV} {o1 : Option (Option Int32 × xS)} {K : Option Int32 → xS → Option (Option Int32 × xS)}
    (hd : decode (xB M) pc = .ok (.invokespecial idx, 3)) (hG : xGood M') (hret : xT M' = Option.none) (hl1 : Cond.methodLink (xY M).cls idx (xY M') ∈ xWd) (hl2 : Cond.instanceMethod (xY M') ∈ xWd) (hnm : (xY M').name = "<init>")
    (hn : (parseMethodDescriptor (xY M').desc).map (fun d => d.parameters.length) = some as.length) (hroom : xFr M' + 1 ≤ xFr M ∧ 8 + (xL M' + 11) + xLo M' ≤ xLo M)
    (hst : st0 = as.reverse ++ .inr (some k) :: rest) (hr8 : rest.length ≤ 8) (hargs : as.length + 1 ≤ xL M')
    (hwf : (∀ v σ1, o1 = some (v, σ1) → σ1.1.length = σ.1.length) ∨ (rest.all (xwv σ.1.length) = true ∧ ls.all (xwo σ.1.length) = true))
    (h1 : Ex Option.none M' 0 (xEnt (.inr (some k) :: as) (xL M')) [] σ o1) (h2 : ∀ v σ1, o1 = some (v, σ1) → Ex X M (pc + 3) ls ((v.map Sum.inl).toList ++ rest) σ1 (K v σ1)) :
    Ex X M pc ls st0 σ (o1.bind fun r => K r.1 r.2) := by
  refine Ex.called (as := .inr (some k) :: as) (rest := rest) rfl hwf hG (by simpa using hargs) h1 h2 ?_
  intro p l e R s m args below meth c H locs cells slots D dA A b ad LS v1 σ1 C hcs hR hS hl hM hP
  obtain ⟨hx, hb, hml, hown, hts, hnw, hao, hin, hfr, hlo, hK, hA, hX⟩ := id C
  obtain ⟨w1, w2⟩ := xwords hts hG
  subst hst
  have hrm : (xRm M' σ σ1).frames + 1 ≤ R.frames ∧ 8 + (xL M' + 11) + (xRm M' σ σ1).locals ≤ R.locals := ⟨Nat.le_trans hroom.1 hfr, Nat.le_trans hroom.2 hlo⟩
  have hw : xMw M' = Cond.code (xY M') (xB M') (xL M') Option.none :: xWd := by unfold xMw; rw [hret]
  exact va_runI (As := as.map (xvm b ad)) (n := as.length) (ws := xMw M') ⟨hx, hb, hml, hown, hts⟩ hM
    ⟨callB_of as.length hts w1 hw rfl rfl w2 (hts _ hl1) ⟨hG.2.2.2.1, hG.2.2.2.2, hn⟩ hrm, hnm, hts _ hl2⟩
    ⟨xPc_blind, hP⟩ rfl (by simp) hl.1 (by simp [List.map_append, List.map_reverse, xvm]) (xroom hr8) hd hcs
theorem Ex.callIN {M' : xM} {idx k : Nat} {host : String} {as rest st0 : List xV} {o1 : Option (Option Int32 × xS)} {K : Option Int32 → xS → Option (Option Int32 × xS)}
    (hd : decode (xB M) pc = .ok (.invokespecial idx, 3)) (hG : xGood M') (hret : xT M' = Option.none) (hl1 : Cond.methodLinkNest (xY M).cls idx (xY M') host ∈ xNw) (hl2 : Cond.instanceMethod (xY M') ∈ xWd) (hnm : (xY M').name = "<init>")
    (hn : (parseMethodDescriptor (xY M').desc).map (fun d => d.parameters.length) = some as.length) (hroom : xFr M' + 1 ≤ xFr M ∧ 8 + (xL M' + 11) + xLo M' ≤ xLo M)
    (hst : st0 = as.reverse ++ .inr (some k) :: rest) (hr8 : rest.length ≤ 8) (hargs : as.length + 1 ≤ xL M')
    (hwf : (∀ v σ1, o1 = some (v, σ1) → σ1.1.length = σ.1.length) ∨ (rest.all (xwv σ.1.length) = true ∧ ls.all (xwo σ.1.length) = true))
    (h1 : Ex Option.none M' 0 (xEnt (.inr (some k) :: as) (xL M')) [] σ o1) (h2 : ∀ v σ1, o1 = some (v, σ1) → Ex X M (pc + 3) ls ((v.map Sum.inl).toList ++ rest) σ1 (K v σ1)) :
    Ex X M pc ls st0 σ (o1.bind fun r => K r.1 r.2) := by
  refine Ex.called (as := .inr (some k) :: as) (rest := rest) rfl hwf hG (by simpa using hargs) h1 h2 ?_
  intro p l e R s m args below meth c H locs cells slots D dA A b ad LS v1 σ1 C hcs hR hS hl hM hP
  obtain ⟨hx, hb, hml, hown, hts, hnw, hao, hin, hfr, hlo, hK, hA, hX⟩ := id C
  obtain ⟨w1, w2⟩ := xwords hts hG
  subst hst
  have hrm : (xRm M' σ σ1).frames + 1 ≤ R.frames ∧ 8 + (xL M' + 11) + (xRm M' σ σ1).locals ≤ R.locals := ⟨Nat.le_trans hroom.1 hfr, Nat.le_trans hroom.2 hlo⟩
  have hw : xMw M' = Cond.code (xY M') (xB M') (xL M') Option.none :: xWd := by unfold xMw; rw [hret]
  exact va_runIN (As := as.map (xvm b ad)) (n := as.length) (ws := xMw M') ⟨hx, hb, hml, hown, hts⟩ hM
    ⟨va_cnB as.length hts w1 hw rfl rfl (hnw _ hl1) w2 ⟨hG.2.2.2.1, hG.2.2.2.2, hn⟩ hrm, hnm, hts _ hl2⟩
    ⟨xPc_blind, hP⟩ rfl (by simp) hl.1 (by simp [List.map_append, List.map_reverse, xvm]) (xroom hr8) hd hcs
end EXCALL
section EXR
variable {X : Option (Nat × (Nat → Int32))} {M : xM} {pc : Nat} {ls : List (Option xV)} {st : List xV} {sh : List (Nat ⊕ (FieldType × Nat))} {F : xF} {I : xI} {σ : xS} {o : Option (Option Int32 × xS)}
theorem Ex.ireturn {x : Int32} {ty : FieldType} (hd : decode (xB M) pc = .ok (.ireturn, 1)) (hT : xT M = some ty) (hn : narrow ty (.int x) = .int x) : Ex X M pc ls [.inl x] σ (some (some x, σ)) := by
  intro v σ' ho
  have e1 : some x = v ∧ σ = σ' := by simpa using ho
  obtain ⟨rfl, rfl⟩ := e1
  refine ⟨List.prefix_refl _, fun {p l e R s m args below meth c H locs cells slots Q} D dA A b ad LS C hcs hR hS hl K => ?_⟩
  have := K pc LS H locs ad (fun _ _ => rfl) hR hS ⟨ty, hT, hn, hd⟩
  rw [Nat.sub_self, Nat.sub_self] at this
  exact this
theorem Ex.ret (hd : decode (xB M) pc = .ok (.return_, 1)) (hT : xT M = Option.none) : Ex X M pc ls [] σ (some (Option.none, σ)) := by
  intro v σ' ho
  have e1 : Option.none = v ∧ σ = σ' := by simpa using ho
  obtain ⟨rfl, rfl⟩ := e1
  refine ⟨List.prefix_refl _, fun {p l e R s m args below meth c H locs cells slots Q} D dA A b ad LS C hcs hR hS hl K => ?_⟩
  have := K pc LS H locs ad (fun _ _ => rfl) hR hS ⟨hT, hd⟩
  rw [Nat.sub_self, Nat.sub_self] at this
  exact this
def xcp (I : xI) (a a0 sp dp n : Nat) : xI := fun k j => if k = a then (if dp ≤ j ∧ j < dp + n then I a0 (sp + (j - dp)) else I a j) else I k j
theorem Ex.acopy {idx a a0 n0 n1 : Nat} {sp dp n : Int32} (hd : decode (xB M) pc = .ok (.invokestatic idx, 3)) (hl1 : Cond.methodLink (xY M).cls idx arraycopyName ∈ xWd) (hl2 : Cond.native arraycopyName ∈ xWd) (hl3 : Cond.static arraycopyName ∈ xWd) (hl4 : Cond.initialized "java/lang/System" ∈ xWd)
    (ha0 : sh[a0]? = some (.inr (.int, n0))) (ha : sh[a]? = some (.inr (.int, n1))) (q1 : ¬ sp < 0) (q2 : ¬ dp < 0) (q3 : ¬ n < 0) (q4 : sp.toNatClampNeg + n.toNatClampNeg ≤ n0) (q5 : dp.toNatClampNeg + n.toNatClampNeg ≤ n1) (hf : 1 ≤ xFr M) (hlw : st.length + 18 ≤ xLo M)
    (kk : Ex X M (pc + 3) ls st (sh, F, xcp I a a0 sp.toNatClampNeg dp.toNatClampNeg n.toNatClampNeg) o) : Ex X M pc ls (.inl n :: .inl dp :: .inr (some a) :: .inl sp :: .inr (some a0) :: st) (sh, F, I) o := by
  intro v σ' ho
  obtain ⟨h1, h2⟩ := kk v σ' ho
  refine ⟨h1, fun D dA A b ad LS C hcs hR hS hl K => ?_⟩
  obtain ⟨hx, hb, hml, hown, hts, hnw, hao, hin, hfr, hlo, hK, hA, hX⟩ := id C
  refine va_copyi (cl := vwCl) (f := I a0) (g := I a) (ty := .int) hx hb (by rw [hml]; exact hl.1.symm) hown (hts _ hl1) (hts _ hl2) (hts _ hl3) (hts _ hl4) hK hR.1 hR.2.1 hS a0 a 0 0 (xWs_some (σ := (sh, F, I)) ha0) (xWs_some (σ := (sh, F, I)) ha) rfl rfl rfl q1 q2 q3 q4 q5 (fun _ _ => rfl) (Nat.le_trans hf hfr) (by rw [xcats]; show st.length + 18 ≤ _; omega) hd (fun H1 locs1 hP hD hS1 => ?_)
  have hl0 : a < sh.length := (List.getElem?_eq_some_iff.mp ha).1
  have e : (xWs dA ad (sh, F, I)).set a (ad a, .inl (dA .int, n1, .inl (va_cpy (I a0) (I a) sp.toNatClampNeg dp.toNatClampNeg n.toNatClampNeg))) = xWs dA ad (sh, F, xcp I a a0 sp.toNatClampNeg dp.toNatClampNeg n.toNatClampNeg) := by
    refine List.ext_getElem? (fun i => ?_)
    by_cases hi : i = a
    · subst hi
      rw [List.getElem?_set_self (by rw [xWs_len]; exact hl0), xWs_some (σ := (sh, F, xcp I i a0 sp.toNatClampNeg dp.toNatClampNeg n.toNatClampNeg)) ha]
      have er : xcp I i a0 sp.toNatClampNeg dp.toNatClampNeg n.toNatClampNeg i = va_cpy (I a0) (I i) sp.toNatClampNeg dp.toNatClampNeg n.toNatClampNeg := by
        funext j
        simp [xcp, va_cpy]
      show _ = some (ad i, xE dA ad (F i) (xcp I i a0 sp.toNatClampNeg dp.toNatClampNeg n.toNatClampNeg i) _)
      rw [er]
      rfl
    · rw [List.getElem?_set_ne (Ne.symm hi), xWs_at, xWs_at]
      have er : xcp I a a0 sp.toNatClampNeg dp.toNatClampNeg n.toNatClampNeg i = I i := by
        funext j
        simp [xcp, hi]
      show Option.map _ sh[i]? = Option.map (fun kd => (ad i, xE dA ad (F i) (xcp I a a0 sp.toNatClampNeg dp.toNatClampNeg n.toNatClampNeg i) kd)) sh[i]?
      rw [er]
  rw [e] at hP hD
  exact h2 D dA A b ad LS C hcs ⟨hP, hD, hR.2.2⟩ hS1 hl K
end EXR
end
section
/-! words of the JDK -/
theorem wd_oi1 : Cond.instanceMethod objectInit ∈ xWd := xWd_of (w := Cond.instanceMethod objectInit) 76 (by decide +kernel) (by decide +kernel)
theorem wd_oi2 : Cond.code objectInit ⟨#[0xb1]⟩ 1 none ∈ xWd := xWd_of (w := Cond.code objectInit ⟨#[0xb1]⟩ 1 none) 77 (by decide +kernel) (by decide +kernel)
theorem wd_ac1 : Cond.native arraycopyName ∈ xWd := xWd_of (w := Cond.native arraycopyName) 307 (by decide +kernel) (by decide +kernel)
theorem wd_ac2 : Cond.static arraycopyName ∈ xWd := xWd_of (w := Cond.static arraycopyName) 306 (by decide +kernel) (by decide +kernel)
theorem wd_ac3 : Cond.initialized "java/lang/System" ∈ xWd := xWd_of (w := Cond.initialized "java/lang/System") 69 (by decide +kernel) (by decide +kernel)
theorem wd_ar_int : Cond.arrayClass (newarray.typeOf .int) ∈ xWd := xWd_of (w := Cond.arrayClass (newarray.typeOf .int)) 114 (by decide +kernel) (by decide +kernel)
theorem wd_ar_char : Cond.arrayClass (newarray.typeOf .char) ∈ xWd := xWd_of (w := Cond.arrayClass (newarray.typeOf .char)) 190 (by decide +kernel) (by decide +kernel)
theorem wd_ar_boolean : Cond.arrayClass (newarray.typeOf .boolean) ∈ xWd := xWd_of (w := Cond.arrayClass (newarray.typeOf .boolean)) 731 (by decide +kernel) (by decide +kernel)
/-! classes -/
theorem xck0 : xCk 0 RX0 TX0 8 := ⟨rfl, rfl, by decide +kernel, tyX0_ok, nmX0, by decide +kernel⟩
theorem xck1 : xCk 1 RX1 TX1 4 := ⟨rfl, rfl, by decide +kernel, tyX1_ok, nmX1, by decide +kernel⟩
theorem xck2 : xCk 2 RX2 TX2 3 := ⟨rfl, rfl, by decide +kernel, tyX2_ok, nmX2, by decide +kernel⟩
theorem xck3 : xCk 3 RX3 TX3 2 := ⟨rfl, rfl, by decide +kernel, tyX3_ok, nmX3, by decide +kernel⟩
theorem xck4 : xCk 4 RX4 TX4 6 := ⟨rfl, rfl, by decide +kernel, tyX4_ok, nmX4, by decide +kernel⟩
theorem xck5 : xCk 5 RX5 TX5 9 := ⟨rfl, rfl, by decide +kernel, tyX5_ok, nmX5, by decide +kernel⟩
theorem xck6 : xCk 6 RX6 TX6 13 := ⟨rfl, rfl, by decide +kernel, tyX6_ok, nmX6, by decide +kernel⟩
theorem xck7 : xCk 7 RX7 TX7 19 := ⟨rfl, rfl, by decide +kernel, tyX7_ok, nmX7, by decide +kernel⟩
/-! methods -/
abbrev mX0_init : xM := (yX0_init, cX0_init, 1, none, 1, 16)
abbrev mX0_append : xM := (yX0_append, cX0_append, 2, some .int, 0, 0)
abbrev mX0_empty : xM := (yX0_empty, cX0_empty, 2, some .int, 0, 0)
abbrev mX0_part : xM := (yX0_part, cX0_part, 3, some .int, 0, 0)
abbrev mX0_findFault : xM := (yX0_findFault, cX0_findFault, 2, some .int, 4, 89)
abbrev mX0_readThing : xM := (yX0_readThing, cX0_readThing, 3, some .boolean, 3, 67)
abbrev mX0_readLetter : xM := (yX0_readLetter, cX0_readLetter, 3, some .boolean, 2, 45)
abbrev mX0_readNumber : xM := (yX0_readNumber, cX0_readNumber, 6, some .boolean, 1, 20)
abbrev mX0_readSide : xM := (yX0_readSide, cX0_readSide, 3, some .boolean, 1, 20)
abbrev mX0_look : xM := (yX0_look, cX0_look, 1, some .int, 0, 0)
abbrev mX0_kindOf : xM := (yX0_kindOf, cX0_kindOf, 1, some .int, 0, 0)
abbrev mX0_sideOf : xM := (yX0_sideOf, cX0_sideOf, 1, some .int, 0, 0)
abbrev mX0_digitOf : xM := (yX0_digitOf, cX0_digitOf, 1, some .int, 0, 0)
abbrev mX1_init : xM := (yX1_init, cX1_init, 3, none, 2, 46)
abbrev mX1_layEdge : xM := (yX1_layEdge, cX1_layEdge, 7, none, 1, 20)
abbrev mX1_edgeNumber : xM := (yX1_edgeNumber, cX1_edgeNumber, 3, some .int, 1, 20)
abbrev mX2_init : xM := (yX2_init, cX2_init, 1, none, 2, 43)
abbrev mX2_add : xM := (yX2_add, cX2_add, 2, none, 2, 39)
abbrev mX2_takeBack : xM := (yX2_takeBack, cX2_takeBack, 2, some .int, 2, 39)
abbrev mX3_init : xM := (yX3_init, cX3_init, 3, none, 1, 16)
abbrev mX3_deliver : xM := (yX3_deliver, cX3_deliver, 6, some .int, 5, 119)
abbrev mX3_bring : xM := (yX3_bring, cX3_bring, 5, none, 4, 95)
abbrev mX3_growsHedge : xM := (yX3_growsHedge, cX3_growsHedge, 5, some .boolean, 3, 65)
abbrev mX3_makesVoid : xM := (yX3_makesVoid, cX3_makesVoid, 4, some .boolean, 3, 65)
abbrev mX3_reasonAgainst : xM := (yX3_reasonAgainst, cX3_reasonAgainst, 3, some .int, 3, 73)
abbrev mX3_reasonAgainstFence : xM := (yX3_reasonAgainstFence, cX3_reasonAgainstFence, 3, some .int, 2, 41)
abbrev mX3_reasonAgainstGap : xM := (yX3_reasonAgainstGap, cX3_reasonAgainstGap, 4, some .int, 2, 41)
abbrev mX3_reasonAgainstClaim : xM := (yX3_reasonAgainstClaim, cX3_reasonAgainstClaim, 3, some .int, 2, 41)
abbrev mX3_carryOut : xM := (yX3_carryOut, cX3_carryOut, 4, none, 3, 67)
abbrev mX3_takeRegion : xM := (yX3_takeRegion, cX3_takeRegion, 5, none, 2, 43)
abbrev mX3_edgeOf : xM := (yX3_edgeOf, cX3_edgeOf, 3, some .int, 2, 43)
abbrev mX4_init : xM := (yX4_init, cX4_init, 2, none, 1, 16)
abbrev mX4_survey : xM := (yX4_survey, cX4_survey, 4, some .int, 2, 50)
abbrev mX4_spreadFrom : xM := (yX4_spreadFrom, cX4_spreadFrom, 11, none, 1, 20)
abbrev mX4_lowestAround : xM := (yX4_lowestAround, cX4_lowestAround, 2, some .int, 1, 20)
abbrev mX4_sizeAround : xM := (yX4_sizeAround, cX4_sizeAround, 2, some .int, 1, 20)
abbrev mX4_freeAround : xM := (yX4_freeAround, cX4_freeAround, 2, some .int, 1, 20)
abbrev mX4_sizeByJoining : xM := (yX4_sizeByJoining, cX4_sizeByJoining, 4, some .int, 1, 23)
abbrev mX4_relabel : xM := (yX4_relabel, cX4_relabel, 4, none, 0, 0)
abbrev mX4_countLabel : xM := (yX4_countLabel, cX4_countLabel, 4, some .int, 0, 0)
abbrev mX5_init : xM := (yX5_init, cX5_init, 1, none, 1, 23)
abbrev mX5_takeFrom : xM := (yX5_takeFrom, cX5_takeFrom, 2, none, 1, 18)
abbrev mX5_hasLetter : xM := (yX5_hasLetter, cX5_hasLetter, 2, some .boolean, 0, 0)
abbrev mX5_told : xM := (yX5_told, cX5_told, 3, some .int, 1, 21)
abbrev mX5_mark : xM := (yX5_mark, cX5_mark, 4, none, 1, 21)
abbrev mX5_addLetter : xM := (yX5_addLetter, cX5_addLetter, 6, some .int, 2, 44)
abbrev mX5_soonest : xM := (yX5_soonest, cX5_soonest, 3, some .int, 2, 43)
abbrev mX5_haveCrossed : xM := (yX5_haveCrossed, cX5_haveCrossed, 3, some .boolean, 2, 43)
abbrev mX5_enterTurn : xM := (yX5_enterTurn, cX5_enterTurn, 3, some .int, 3, 65)
abbrev mX5_wasDone : xM := (yX5_wasDone, cX5_wasDone, 3, some .boolean, 2, 43)
abbrev mX5_onEdge : xM := (yX5_onEdge, cX5_onEdge, 2, some .int, 1, 20)
abbrev mX5_putOnEdge : xM := (yX5_putOnEdge, cX5_putOnEdge, 3, none, 1, 20)
abbrev mX5_takerOf : xM := (yX5_takerOf, cX5_takerOf, 2, some .int, 1, 20)
abbrev mX5_ownerOf : xM := (yX5_ownerOf, cX5_ownerOf, 2, some .int, 2, 43)
abbrev mX5_giveBackFieldsOf : xM := (yX5_giveBackFieldsOf, cX5_giveBackFieldsOf, 3, none, 0, 0)
abbrev mX5_hasTruce : xM := (yX5_hasTruce, cX5_hasTruce, 1, some .boolean, 0, 0)
abbrev mX5_lettersThatAre : xM := (yX5_lettersThatAre, cX5_lettersThatAre, 4, some .int, 2, 43)
abbrev mX5_turnsOfTwo : xM := (yX5_turnsOfTwo, cX5_turnsOfTwo, 3, some .int, 2, 43)
abbrev mX5_fieldsOf : xM := (yX5_fieldsOf, cX5_fieldsOf, 4, some .int, 3, 64)
abbrev mX5_edgesWith : xM := (yX5_edgesWith, cX5_edgesWith, 4, some .int, 0, 0)
abbrev mX6_init : xM := (yX6_init, cX6_init, 1, none, 3, 68)
abbrev mX6_writeEdge : xM := (yX6_writeEdge, cX6_writeEdge, 5, some .int, 4, 93)
abbrev mX6_writeClaim : xM := (yX6_writeClaim, cX6_writeClaim, 3, some .int, 4, 91)
abbrev mX6_writeTruce : xM := (yX6_writeTruce, cX6_writeTruce, 3, some .int, 4, 91)
abbrev mX6_callBack : xM := (yX6_callBack, cX6_callBack, 2, some .int, 3, 60)
abbrev mX6_pass : xM := (yX6_pass, cX6_pass, 2, some .int, 7, 165)
abbrev mX6_set : xM := (yX6_set, cX6_set, 5, some .int, 3, 60)
abbrev mX6_type : xM := (yX6_type, cX6_type, 2, some .int, 1, 21)
abbrev mX6_clearText : xM := (yX6_clearText, cX6_clearText, 1, some .int, 1, 21)
abbrev mX6_perform : xM := (yX6_perform, cX6_perform, 5, some .int, 7, 165)
abbrev mX6_stopped : xM := (yX6_stopped, cX6_stopped, 2, some .int, 0, 0)
abbrev mX6_undo : xM := (yX6_undo, cX6_undo, 1, some .int, 3, 60)
abbrev mX6_keep : xM := (yX6_keep, cX6_keep, 1, some .int, 2, 39)
abbrev mX6_restore : xM := (yX6_restore, cX6_restore, 1, some .int, 3, 60)
abbrev mX6_edge : xM := (yX6_edge, cX6_edge, 4, some .int, 2, 42)
abbrev mX6_field : xM := (yX6_field, cX6_field, 3, some .int, 3, 73)
abbrev mX6_joined : xM := (yX6_joined, cX6_joined, 2, some .int, 2, 46)
abbrev mX6_letter : xM := (yX6_letter, cX6_letter, 3, some .int, 2, 43)
abbrev mX6_crossed : xM := (yX6_crossed, cX6_crossed, 3, some .int, 3, 65)
abbrev mX6_reasonEdge : xM := (yX6_reasonEdge, cX6_reasonEdge, 5, some .int, 3, 64)
abbrev mX6_reasonClaim : xM := (yX6_reasonClaim, cX6_reasonClaim, 2, some .int, 3, 73)
abbrev mX6_next : xM := (yX6_next, cX6_next, 3, some .int, 3, 65)
abbrev mX6_ifAllCome : xM := (yX6_ifAllCome, cX6_ifAllCome, 2, some .int, 6, 144)
abbrev mX6_bestClaim : xM := (yX6_bestClaim, cX6_bestClaim, 6, some .int, 3, 73)
abbrev mX6_count : xM := (yX6_count, cX6_count, 2, some .int, 4, 87)
abbrev mX6_addEdgeLetter : xM := (yX6_addEdgeLetter, cX6_addEdgeLetter, 5, some .int, 3, 69)
abbrev mX6_addClaim : xM := (yX6_addClaim, cX6_addClaim, 3, some .int, 3, 69)
abbrev mX6_addTruce : xM := (yX6_addTruce, cX6_addTruce, 3, some .int, 3, 69)
abbrev mX6_addLetterOfGame : xM := (yX6_addLetterOfGame, cX6_addLetterOfGame, 5, some .int, 4, 93)
abbrev mX6_letDaysPass : xM := (yX6_letDaysPass, cX6_letDaysPass, 2, some .int, 6, 144)
abbrev mX6_recordUnlessError : xM := (yX6_recordUnlessError, cX6_recordUnlessError, 2, some .int, 3, 60)
abbrev mX6_edgesWithSomething : xM := (yX6_edgesWithSomething, cX6_edgesWithSomething, 5, some .int, 2, 42)
abbrev mX6_isPlayer : xM := (yX6_isPlayer, cX6_isPlayer, 1, some .boolean, 0, 0)
abbrev mX6_isField : xM := (yX6_isField, cX6_isField, 1, some .boolean, 0, 0)
abbrev mX6_isEdge : xM := (yX6_isEdge, cX6_isEdge, 1, some .boolean, 0, 0)
abbrev mX6_fenceOf : xM := (yX6_fenceOf, cX6_fenceOf, 1, some .int, 0, 0)
abbrev mX7_init : xM := (yX7_init, cX7_init, 2, none, 1, 16)
abbrev mX7_in : xM := (yX7_in, cX7_in, 3, some .boolean, 0, 0)
abbrev mX7_isPlayer : xM := (yX7_isPlayer, cX7_isPlayer, 1, some .boolean, 1, 22)
abbrev mX7_isField : xM := (yX7_isField, cX7_isField, 1, some .boolean, 1, 22)
abbrev mX7_isLetter : xM := (yX7_isLetter, cX7_isLetter, 2, some .boolean, 1, 22)
abbrev mX7_at : xM := (yX7_at, cX7_at, 2, some .int, 0, 0)
abbrev mX7_of : xM := (yX7_of, cX7_of, 3, some .int, 1, 21)
abbrev mX7_looks : xM := (yX7_looks, cX7_looks, 2, none, 0, 0)
abbrev mX7_records : xM := (yX7_records, cX7_records, 2, none, 0, 0)
abbrev mX7_putAside : xM := (yX7_putAside, cX7_putAside, 2, none, 0, 0)
abbrev mX7_putBack : xM := (yX7_putBack, cX7_putBack, 2, none, 0, 0)
abbrev mX7_edgeAt : xM := (yX7_edgeAt, cX7_edgeAt, 4, some .int, 2, 42)
abbrev mX7_oneOf : xM := (yX7_oneOf, cX7_oneOf, 1, some .int, 0, 0)
abbrev mX7_otherOf : xM := (yX7_otherOf, cX7_otherOf, 1, some .int, 1, 20)
abbrev mX7_mark : xM := (yX7_mark, cX7_mark, 5, some .int, 2, 40)
abbrev mX7_freeIn : xM := (yX7_freeIn, cX7_freeIn, 5, some .int, 3, 64)
abbrev mX7_lowestIn : xM := (yX7_lowestIn, cX7_lowestIn, 4, some .int, 3, 64)
abbrev mX7_isTruce : xM := (yX7_isTruce, cX7_isTruce, 1, some .boolean, 0, 0)
abbrev mX7_whyEdge : xM := (yX7_whyEdge, cX7_whyEdge, 4, some .int, 1, 20)
abbrev mX7_whyClaim : xM := (yX7_whyClaim, cX7_whyClaim, 2, some .int, 3, 64)
abbrev mX7_isTaken : xM := (yX7_isTaken, cX7_isTaken, 2, some .boolean, 0, 0)
abbrev mX7_forgetsTaken : xM := (yX7_forgetsTaken, cX7_forgetsTaken, 1, none, 0, 0)
abbrev mX7_isSecond : xM := (yX7_isSecond, cX7_isSecond, 4, some .boolean, 2, 43)
abbrev mX7_edgeOf : xM := (yX7_edgeOf, cX7_edgeOf, 2, some .int, 3, 65)
abbrev mX7_does : xM := (yX7_does, cX7_does, 7, some .int, 4, 86)
abbrev mX7_doesSecond : xM := (yX7_doesSecond, cX7_doesSecond, 5, some .int, 4, 86)
abbrev mX7_comes : xM := (yX7_comes, cX7_comes, 3, none, 5, 112)
abbrev mX7_day : xM := (yX7_day, cX7_day, 3, some .int, 6, 134)
abbrev mX7_passes : xM := (yX7_passes, cX7_passes, 4, some .int, 7, 156)
abbrev mX7_writes : xM := (yX7_writes, cX7_writes, 7, some .int, 3, 65)
abbrev mX7_acted : xM := (yX7_acted, cX7_acted, 2, some .int, 1, 21)
abbrev mX7_writeEdge : xM := (yX7_writeEdge, cX7_writeEdge, 5, some .int, 4, 91)
abbrev mX7_writeClaim : xM := (yX7_writeClaim, cX7_writeClaim, 3, some .int, 4, 91)
abbrev mX7_writeTruce : xM := (yX7_writeTruce, cX7_writeTruce, 3, some .int, 4, 91)
abbrev mX7_callBack : xM := (yX7_callBack, cX7_callBack, 2, some .int, 2, 43)
abbrev mX7_pass : xM := (yX7_pass, cX7_pass, 2, some .int, 8, 179)
abbrev mX7_set : xM := (yX7_set, cX7_set, 4, some .int, 1, 22)
abbrev mX7_type : xM := (yX7_type, cX7_type, 2, some .int, 0, 0)
abbrev mX7_clearText : xM := (yX7_clearText, cX7_clearText, 2, some .int, 0, 0)
abbrev mX7_isNext : xM := (yX7_isNext, cX7_isNext, 3, some .boolean, 1, 22)
abbrev mX7_takes : xM := (yX7_takes, cX7_takes, 4, some .int, 1, 22)
abbrev mX7_takesNumber : xM := (yX7_takesNumber, cX7_takesNumber, 5, some .int, 2, 45)
abbrev mX7_takesSign : xM := (yX7_takesSign, cX7_takesSign, 6, some .int, 0, 0)
abbrev mX7_readThing : xM := (yX7_readThing, cX7_readThing, 2, none, 3, 69)
abbrev mX7_runs : xM := (yX7_runs, cX7_runs, 6, some .int, 8, 179)
abbrev mX7_perform : xM := (yX7_perform, cX7_perform, 4, some .int, 9, 204)
abbrev mX7_stopped : xM := (yX7_stopped, cX7_stopped, 2, some .int, 0, 0)
abbrev mX7_undo : xM := (yX7_undo, cX7_undo, 2, some .int, 0, 0)
abbrev mX7_keep : xM := (yX7_keep, cX7_keep, 2, some .int, 0, 0)
abbrev mX7_restore : xM := (yX7_restore, cX7_restore, 2, some .int, 1, 21)
abbrev mX7_edge : xM := (yX7_edge, cX7_edge, 4, some .int, 3, 65)
abbrev mX7_edgesOf : xM := (yX7_edgesOf, cX7_edgesOf, 5, some .int, 3, 65)
abbrev mX7_field : xM := (yX7_field, cX7_field, 3, some .int, 4, 89)
abbrev mX7_joined : xM := (yX7_joined, cX7_joined, 2, some .int, 3, 64)
abbrev mX7_letter : xM := (yX7_letter, cX7_letter, 3, some .int, 2, 43)
abbrev mX7_cross : xM := (yX7_cross, cX7_cross, 4, some .boolean, 2, 43)
abbrev mX7_crossed : xM := (yX7_crossed, cX7_crossed, 3, some .int, 3, 66)
abbrev mX7_reasonEdge : xM := (yX7_reasonEdge, cX7_reasonEdge, 5, some .int, 3, 65)
abbrev mX7_reasonClaim : xM := (yX7_reasonClaim, cX7_reasonClaim, 2, some .int, 4, 85)
abbrev mX7_nextLetter : xM := (yX7_nextLetter, cX7_nextLetter, 3, some .int, 2, 43)
abbrev mX7_next : xM := (yX7_next, cX7_next, 3, some .int, 3, 65)
abbrev mX7_lettersThat : xM := (yX7_lettersThat, cX7_lettersThat, 4, some .int, 2, 43)
abbrev mX7_edgesThat : xM := (yX7_edgesThat, cX7_edgesThat, 4, some .int, 0, 0)
abbrev mX7_fieldsOf : xM := (yX7_fieldsOf, cX7_fieldsOf, 4, some .int, 0, 0)
abbrev mX7_ifAllCome : xM := (yX7_ifAllCome, cX7_ifAllCome, 3, some .int, 7, 156)
abbrev mX7_bestClaim : xM := (yX7_bestClaim, cX7_bestClaim, 6, some .int, 4, 88)
abbrev mX7_regions : xM := (yX7_regions, cX7_regions, 3, some .int, 4, 87)
abbrev mX7_count : xM := (yX7_count, cX7_count, 2, some .int, 5, 109)
abbrev mJ7_fill_53178 : xM := (yJ7_fill_53178, cJ7_fill_53178, 4, none, 0, 0)
abbrev mL_law : xM := (yL_law, cL_law, 4, some .boolean, 12, 454)
abbrev xNp (y : MethodName) (n : Nat) : Prop := (parseMethodDescriptor y.desc).map (fun d => d.parameters.length) = some n
def xIsV (M : xM) (n : Nat) : Prop := xGood M ∧ Cond.instanceMethod (xY M) ∈ xWd ∧ Cond.selects (xY M).cls (xY M) (xY M) ∈ xWd ∧ xNp (xY M) n
def xIsS (M : xM) (n : Nat) : Prop := xGood M ∧ Cond.static (xY M) ∈ xWd ∧ xNp (xY M) n
def xIsI (M : xM) (n : Nat) : Prop := xGood M ∧ xT M = none ∧ Cond.instanceMethod (xY M) ∈ xWd ∧ (xY M).name = "<init>" ∧ xNp (xY M) n
theorem isX0_init : xIsI mX0_init 0 := ⟨⟨by decide +kernel, xWd_of (w := Cond.code (xY mX0_init) (xB mX0_init) (xL mX0_init) (xT mX0_init)) 157 (by decide +kernel) (by decide +kernel), xWd_of (w := Cond.initialized (xY mX0_init).cls) 65 (by decide +kernel) (by decide +kernel), by decide +kernel, by decide +kernel⟩, rfl, xWd_of (w := Cond.instanceMethod (xY mX0_init)) 156 (by decide +kernel) (by decide +kernel), rfl, by decide +kernel⟩
theorem isX0_append : xIsV mX0_append 1 := ⟨⟨by decide +kernel, xWd_of (w := Cond.code (xY mX0_append) (xB mX0_append) (xL mX0_append) (xT mX0_append)) 496 (by decide +kernel) (by decide +kernel), xWd_of (w := Cond.initialized (xY mX0_append).cls) 65 (by decide +kernel) (by decide +kernel), by decide +kernel, by decide +kernel⟩, xWd_of (w := Cond.instanceMethod (xY mX0_append)) 494 (by decide +kernel) (by decide +kernel), xWd_of (w := Cond.selects (xY mX0_append).cls (xY mX0_append) (xY mX0_append)) 495 (by decide +kernel) (by decide +kernel), by decide +kernel⟩
theorem isX0_empty : xIsV mX0_empty 0 := ⟨⟨by decide +kernel, xWd_of (w := Cond.code (xY mX0_empty) (xB mX0_empty) (xL mX0_empty) (xT mX0_empty)) 504 (by decide +kernel) (by decide +kernel), xWd_of (w := Cond.initialized (xY mX0_empty).cls) 65 (by decide +kernel) (by decide +kernel), by decide +kernel, by decide +kernel⟩, xWd_of (w := Cond.instanceMethod (xY mX0_empty)) 502 (by decide +kernel) (by decide +kernel), xWd_of (w := Cond.selects (xY mX0_empty).cls (xY mX0_empty) (xY mX0_empty)) 503 (by decide +kernel) (by decide +kernel), by decide +kernel⟩
theorem isX0_part : xIsV mX0_part 2 := ⟨⟨by decide +kernel, xWd_of (w := Cond.code (xY mX0_part) (xB mX0_part) (xL mX0_part) (xT mX0_part)) 545 (by decide +kernel) (by decide +kernel), xWd_of (w := Cond.initialized (xY mX0_part).cls) 65 (by decide +kernel) (by decide +kernel), by decide +kernel, by decide +kernel⟩, xWd_of (w := Cond.instanceMethod (xY mX0_part)) 543 (by decide +kernel) (by decide +kernel), xWd_of (w := Cond.selects (xY mX0_part).cls (xY mX0_part) (xY mX0_part)) 544 (by decide +kernel) (by decide +kernel), by decide +kernel⟩
theorem isX0_findFault : xIsV mX0_findFault 0 := ⟨⟨by decide +kernel, xWd_of (w := Cond.code (xY mX0_findFault) (xB mX0_findFault) (xL mX0_findFault) (xT mX0_findFault)) 512 (by decide +kernel) (by decide +kernel), xWd_of (w := Cond.initialized (xY mX0_findFault).cls) 65 (by decide +kernel) (by decide +kernel), by decide +kernel, by decide +kernel⟩, xWd_of (w := Cond.instanceMethod (xY mX0_findFault)) 510 (by decide +kernel) (by decide +kernel), xWd_of (w := Cond.selects (xY mX0_findFault).cls (xY mX0_findFault) (xY mX0_findFault)) 511 (by decide +kernel) (by decide +kernel), by decide +kernel⟩
theorem isX0_readThing : xIsV mX0_readThing 1 := ⟨⟨by decide +kernel, xWd_of (w := Cond.code (xY mX0_readThing) (xB mX0_readThing) (xL mX0_readThing) (xT mX0_readThing)) 516 (by decide +kernel) (by decide +kernel), xWd_of (w := Cond.initialized (xY mX0_readThing).cls) 65 (by decide +kernel) (by decide +kernel), by decide +kernel, by decide +kernel⟩, xWd_of (w := Cond.instanceMethod (xY mX0_readThing)) 515 (by decide +kernel) (by decide +kernel), xWd_of (w := Cond.selects (xY mX0_readThing).cls (xY mX0_readThing) (xY mX0_readThing)) 14 (by decide +kernel) (by decide +kernel), by decide +kernel⟩
theorem isX0_readLetter : xIsV mX0_readLetter 1 := ⟨⟨by decide +kernel, xWd_of (w := Cond.code (xY mX0_readLetter) (xB mX0_readLetter) (xL mX0_readLetter) (xT mX0_readLetter)) 531 (by decide +kernel) (by decide +kernel), xWd_of (w := Cond.initialized (xY mX0_readLetter).cls) 65 (by decide +kernel) (by decide +kernel), by decide +kernel, by decide +kernel⟩, xWd_of (w := Cond.instanceMethod (xY mX0_readLetter)) 530 (by decide +kernel) (by decide +kernel), xWd_of (w := Cond.selects (xY mX0_readLetter).cls (xY mX0_readLetter) (xY mX0_readLetter)) 17 (by decide +kernel) (by decide +kernel), by decide +kernel⟩
theorem isX0_readNumber : xIsV mX0_readNumber 3 := ⟨⟨by decide +kernel, xWd_of (w := Cond.code (xY mX0_readNumber) (xB mX0_readNumber) (xL mX0_readNumber) (xT mX0_readNumber)) 524 (by decide +kernel) (by decide +kernel), xWd_of (w := Cond.initialized (xY mX0_readNumber).cls) 65 (by decide +kernel) (by decide +kernel), by decide +kernel, by decide +kernel⟩, xWd_of (w := Cond.instanceMethod (xY mX0_readNumber)) 523 (by decide +kernel) (by decide +kernel), xWd_of (w := Cond.selects (xY mX0_readNumber).cls (xY mX0_readNumber) (xY mX0_readNumber)) 16 (by decide +kernel) (by decide +kernel), by decide +kernel⟩
theorem isX0_readSide : xIsV mX0_readSide 1 := ⟨⟨by decide +kernel, xWd_of (w := Cond.code (xY mX0_readSide) (xB mX0_readSide) (xL mX0_readSide) (xT mX0_readSide)) 538 (by decide +kernel) (by decide +kernel), xWd_of (w := Cond.initialized (xY mX0_readSide).cls) 65 (by decide +kernel) (by decide +kernel), by decide +kernel, by decide +kernel⟩, xWd_of (w := Cond.instanceMethod (xY mX0_readSide)) 537 (by decide +kernel) (by decide +kernel), xWd_of (w := Cond.selects (xY mX0_readSide).cls (xY mX0_readSide) (xY mX0_readSide)) 18 (by decide +kernel) (by decide +kernel), by decide +kernel⟩
theorem isX0_look : xIsV mX0_look 0 := ⟨⟨by decide +kernel, xWd_of (w := Cond.code (xY mX0_look) (xB mX0_look) (xL mX0_look) (xT mX0_look)) 520 (by decide +kernel) (by decide +kernel), xWd_of (w := Cond.initialized (xY mX0_look).cls) 65 (by decide +kernel) (by decide +kernel), by decide +kernel, by decide +kernel⟩, xWd_of (w := Cond.instanceMethod (xY mX0_look)) 519 (by decide +kernel) (by decide +kernel), xWd_of (w := Cond.selects (xY mX0_look).cls (xY mX0_look) (xY mX0_look)) 15 (by decide +kernel) (by decide +kernel), by decide +kernel⟩
theorem isX0_kindOf : xIsS mX0_kindOf 1 := ⟨⟨by decide +kernel, xWd_of (w := Cond.code (xY mX0_kindOf) (xB mX0_kindOf) (xL mX0_kindOf) (xT mX0_kindOf)) 534 (by decide +kernel) (by decide +kernel), xWd_of (w := Cond.initialized (xY mX0_kindOf).cls) 65 (by decide +kernel) (by decide +kernel), by decide +kernel, by decide +kernel⟩, xWd_of (w := Cond.static (xY mX0_kindOf)) 533 (by decide +kernel) (by decide +kernel), by decide +kernel⟩
theorem isX0_sideOf : xIsS mX0_sideOf 1 := ⟨⟨by decide +kernel, xWd_of (w := Cond.code (xY mX0_sideOf) (xB mX0_sideOf) (xL mX0_sideOf) (xT mX0_sideOf)) 541 (by decide +kernel) (by decide +kernel), xWd_of (w := Cond.initialized (xY mX0_sideOf).cls) 65 (by decide +kernel) (by decide +kernel), by decide +kernel, by decide +kernel⟩, xWd_of (w := Cond.static (xY mX0_sideOf)) 540 (by decide +kernel) (by decide +kernel), by decide +kernel⟩
theorem isX0_digitOf : xIsS mX0_digitOf 1 := ⟨⟨by decide +kernel, xWd_of (w := Cond.code (xY mX0_digitOf) (xB mX0_digitOf) (xL mX0_digitOf) (xT mX0_digitOf)) 527 (by decide +kernel) (by decide +kernel), xWd_of (w := Cond.initialized (xY mX0_digitOf).cls) 65 (by decide +kernel) (by decide +kernel), by decide +kernel, by decide +kernel⟩, xWd_of (w := Cond.static (xY mX0_digitOf)) 526 (by decide +kernel) (by decide +kernel), by decide +kernel⟩
theorem isX1_init : xIsI mX1_init 0 := ⟨⟨by decide +kernel, xWd_of (w := Cond.code (xY mX1_init) (xB mX1_init) (xL mX1_init) (xT mX1_init)) 82 (by decide +kernel) (by decide +kernel), xWd_of (w := Cond.initialized (xY mX1_init).cls) 61 (by decide +kernel) (by decide +kernel), by decide +kernel, by decide +kernel⟩, rfl, xWd_of (w := Cond.instanceMethod (xY mX1_init)) 81 (by decide +kernel) (by decide +kernel), rfl, by decide +kernel⟩
theorem isX1_layEdge : xIsV mX1_layEdge 4 := ⟨⟨by decide +kernel, xWd_of (w := Cond.code (xY mX1_layEdge) (xB mX1_layEdge) (xL mX1_layEdge) (xT mX1_layEdge)) 90 (by decide +kernel) (by decide +kernel), xWd_of (w := Cond.initialized (xY mX1_layEdge).cls) 61 (by decide +kernel) (by decide +kernel), by decide +kernel, by decide +kernel⟩, xWd_of (w := Cond.instanceMethod (xY mX1_layEdge)) 89 (by decide +kernel) (by decide +kernel), xWd_of (w := Cond.selects (xY mX1_layEdge).cls (xY mX1_layEdge) (xY mX1_layEdge)) 0 (by decide +kernel) (by decide +kernel), by decide +kernel⟩
theorem isX1_edgeNumber : xIsV mX1_edgeNumber 2 := ⟨⟨by decide +kernel, xWd_of (w := Cond.code (xY mX1_edgeNumber) (xB mX1_edgeNumber) (xL mX1_edgeNumber) (xT mX1_edgeNumber)) 318 (by decide +kernel) (by decide +kernel), xWd_of (w := Cond.initialized (xY mX1_edgeNumber).cls) 61 (by decide +kernel) (by decide +kernel), by decide +kernel, by decide +kernel⟩, xWd_of (w := Cond.instanceMethod (xY mX1_edgeNumber)) 316 (by decide +kernel) (by decide +kernel), xWd_of (w := Cond.selects (xY mX1_edgeNumber).cls (xY mX1_edgeNumber) (xY mX1_edgeNumber)) 317 (by decide +kernel) (by decide +kernel), by decide +kernel⟩
theorem isX2_init : xIsI mX2_init 0 := ⟨⟨by decide +kernel, xWd_of (w := Cond.code (xY mX2_init) (xB mX2_init) (xL mX2_init) (xT mX2_init)) 195 (by decide +kernel) (by decide +kernel), xWd_of (w := Cond.initialized (xY mX2_init).cls) 66 (by decide +kernel) (by decide +kernel), by decide +kernel, by decide +kernel⟩, rfl, xWd_of (w := Cond.instanceMethod (xY mX2_init)) 194 (by decide +kernel) (by decide +kernel), rfl, by decide +kernel⟩
theorem isX2_add : xIsV mX2_add 1 := ⟨⟨by decide +kernel, xWd_of (w := Cond.code (xY mX2_add) (xB mX2_add) (xL mX2_add) (xT mX2_add)) 339 (by decide +kernel) (by decide +kernel), xWd_of (w := Cond.initialized (xY mX2_add).cls) 66 (by decide +kernel) (by decide +kernel), by decide +kernel, by decide +kernel⟩, xWd_of (w := Cond.instanceMethod (xY mX2_add)) 337 (by decide +kernel) (by decide +kernel), xWd_of (w := Cond.selects (xY mX2_add).cls (xY mX2_add) (xY mX2_add)) 338 (by decide +kernel) (by decide +kernel), by decide +kernel⟩
theorem isX2_takeBack : xIsV mX2_takeBack 1 := ⟨⟨by decide +kernel, xWd_of (w := Cond.code (xY mX2_takeBack) (xB mX2_takeBack) (xL mX2_takeBack) (xT mX2_takeBack)) 561 (by decide +kernel) (by decide +kernel), xWd_of (w := Cond.initialized (xY mX2_takeBack).cls) 66 (by decide +kernel) (by decide +kernel), by decide +kernel, by decide +kernel⟩, xWd_of (w := Cond.instanceMethod (xY mX2_takeBack)) 559 (by decide +kernel) (by decide +kernel), xWd_of (w := Cond.selects (xY mX2_takeBack).cls (xY mX2_takeBack) (xY mX2_takeBack)) 560 (by decide +kernel) (by decide +kernel), by decide +kernel⟩
theorem isX3_init : xIsI mX3_init 2 := ⟨⟨by decide +kernel, xWd_of (w := Cond.code (xY mX3_init) (xB mX3_init) (xL mX3_init) (xT mX3_init)) 144 (by decide +kernel) (by decide +kernel), xWd_of (w := Cond.initialized (xY mX3_init).cls) 64 (by decide +kernel) (by decide +kernel), by decide +kernel, by decide +kernel⟩, rfl, xWd_of (w := Cond.instanceMethod (xY mX3_init)) 143 (by decide +kernel) (by decide +kernel), rfl, by decide +kernel⟩
theorem isX3_deliver : xIsV mX3_deliver 2 := ⟨⟨by decide +kernel, xWd_of (w := Cond.code (xY mX3_deliver) (xB mX3_deliver) (xL mX3_deliver) (xT mX3_deliver)) 379 (by decide +kernel) (by decide +kernel), xWd_of (w := Cond.initialized (xY mX3_deliver).cls) 64 (by decide +kernel) (by decide +kernel), by decide +kernel, by decide +kernel⟩, xWd_of (w := Cond.instanceMethod (xY mX3_deliver)) 377 (by decide +kernel) (by decide +kernel), xWd_of (w := Cond.selects (xY mX3_deliver).cls (xY mX3_deliver) (xY mX3_deliver)) 378 (by decide +kernel) (by decide +kernel), by decide +kernel⟩
theorem isX3_bring : xIsV mX3_bring 2 := ⟨⟨by decide +kernel, xWd_of (w := Cond.code (xY mX3_bring) (xB mX3_bring) (xL mX3_bring) (xT mX3_bring)) 389 (by decide +kernel) (by decide +kernel), xWd_of (w := Cond.initialized (xY mX3_bring).cls) 64 (by decide +kernel) (by decide +kernel), by decide +kernel, by decide +kernel⟩, xWd_of (w := Cond.instanceMethod (xY mX3_bring)) 388 (by decide +kernel) (by decide +kernel), xWd_of (w := Cond.selects (xY mX3_bring).cls (xY mX3_bring) (xY mX3_bring)) 6 (by decide +kernel) (by decide +kernel), by decide +kernel⟩
theorem isX3_growsHedge : xIsV mX3_growsHedge 3 := ⟨⟨by decide +kernel, xWd_of (w := Cond.code (xY mX3_growsHedge) (xB mX3_growsHedge) (xL mX3_growsHedge) (xT mX3_growsHedge)) 401 (by decide +kernel) (by decide +kernel), xWd_of (w := Cond.initialized (xY mX3_growsHedge).cls) 64 (by decide +kernel) (by decide +kernel), by decide +kernel, by decide +kernel⟩, xWd_of (w := Cond.instanceMethod (xY mX3_growsHedge)) 400 (by decide +kernel) (by decide +kernel), xWd_of (w := Cond.selects (xY mX3_growsHedge).cls (xY mX3_growsHedge) (xY mX3_growsHedge)) 7 (by decide +kernel) (by decide +kernel), by decide +kernel⟩
theorem isX3_makesVoid : xIsV mX3_makesVoid 3 := ⟨⟨by decide +kernel, xWd_of (w := Cond.code (xY mX3_makesVoid) (xB mX3_makesVoid) (xL mX3_makesVoid) (xT mX3_makesVoid)) 426 (by decide +kernel) (by decide +kernel), xWd_of (w := Cond.initialized (xY mX3_makesVoid).cls) 64 (by decide +kernel) (by decide +kernel), by decide +kernel, by decide +kernel⟩, xWd_of (w := Cond.instanceMethod (xY mX3_makesVoid)) 425 (by decide +kernel) (by decide +kernel), xWd_of (w := Cond.selects (xY mX3_makesVoid).cls (xY mX3_makesVoid) (xY mX3_makesVoid)) 9 (by decide +kernel) (by decide +kernel), by decide +kernel⟩
theorem isX3_reasonAgainst : xIsV mX3_reasonAgainst 2 := ⟨⟨by decide +kernel, xWd_of (w := Cond.code (xY mX3_reasonAgainst) (xB mX3_reasonAgainst) (xL mX3_reasonAgainst) (xT mX3_reasonAgainst)) 439 (by decide +kernel) (by decide +kernel), xWd_of (w := Cond.initialized (xY mX3_reasonAgainst).cls) 64 (by decide +kernel) (by decide +kernel), by decide +kernel, by decide +kernel⟩, xWd_of (w := Cond.instanceMethod (xY mX3_reasonAgainst)) 438 (by decide +kernel) (by decide +kernel), xWd_of (w := Cond.selects (xY mX3_reasonAgainst).cls (xY mX3_reasonAgainst) (xY mX3_reasonAgainst)) 10 (by decide +kernel) (by decide +kernel), by decide +kernel⟩
theorem isX3_reasonAgainstFence : xIsV mX3_reasonAgainstFence 2 := ⟨⟨by decide +kernel, xWd_of (w := Cond.code (xY mX3_reasonAgainstFence) (xB mX3_reasonAgainstFence) (xL mX3_reasonAgainstFence) (xT mX3_reasonAgainstFence)) 443 (by decide +kernel) (by decide +kernel), xWd_of (w := Cond.initialized (xY mX3_reasonAgainstFence).cls) 64 (by decide +kernel) (by decide +kernel), by decide +kernel, by decide +kernel⟩, xWd_of (w := Cond.instanceMethod (xY mX3_reasonAgainstFence)) 441 (by decide +kernel) (by decide +kernel), xWd_of (w := Cond.selects (xY mX3_reasonAgainstFence).cls (xY mX3_reasonAgainstFence) (xY mX3_reasonAgainstFence)) 442 (by decide +kernel) (by decide +kernel), by decide +kernel⟩
theorem isX3_reasonAgainstGap : xIsV mX3_reasonAgainstGap 2 := ⟨⟨by decide +kernel, xWd_of (w := Cond.code (xY mX3_reasonAgainstGap) (xB mX3_reasonAgainstGap) (xL mX3_reasonAgainstGap) (xT mX3_reasonAgainstGap)) 447 (by decide +kernel) (by decide +kernel), xWd_of (w := Cond.initialized (xY mX3_reasonAgainstGap).cls) 64 (by decide +kernel) (by decide +kernel), by decide +kernel, by decide +kernel⟩, xWd_of (w := Cond.instanceMethod (xY mX3_reasonAgainstGap)) 445 (by decide +kernel) (by decide +kernel), xWd_of (w := Cond.selects (xY mX3_reasonAgainstGap).cls (xY mX3_reasonAgainstGap) (xY mX3_reasonAgainstGap)) 446 (by decide +kernel) (by decide +kernel), by decide +kernel⟩
theorem isX3_reasonAgainstClaim : xIsV mX3_reasonAgainstClaim 2 := ⟨⟨by decide +kernel, xWd_of (w := Cond.code (xY mX3_reasonAgainstClaim) (xB mX3_reasonAgainstClaim) (xL mX3_reasonAgainstClaim) (xT mX3_reasonAgainstClaim)) 466 (by decide +kernel) (by decide +kernel), xWd_of (w := Cond.initialized (xY mX3_reasonAgainstClaim).cls) 64 (by decide +kernel) (by decide +kernel), by decide +kernel, by decide +kernel⟩, xWd_of (w := Cond.instanceMethod (xY mX3_reasonAgainstClaim)) 464 (by decide +kernel) (by decide +kernel), xWd_of (w := Cond.selects (xY mX3_reasonAgainstClaim).cls (xY mX3_reasonAgainstClaim) (xY mX3_reasonAgainstClaim)) 465 (by decide +kernel) (by decide +kernel), by decide +kernel⟩
theorem isX3_carryOut : xIsV mX3_carryOut 2 := ⟨⟨by decide +kernel, xWd_of (w := Cond.code (xY mX3_carryOut) (xB mX3_carryOut) (xL mX3_carryOut) (xT mX3_carryOut)) 474 (by decide +kernel) (by decide +kernel), xWd_of (w := Cond.initialized (xY mX3_carryOut).cls) 64 (by decide +kernel) (by decide +kernel), by decide +kernel, by decide +kernel⟩, xWd_of (w := Cond.instanceMethod (xY mX3_carryOut)) 473 (by decide +kernel) (by decide +kernel), xWd_of (w := Cond.selects (xY mX3_carryOut).cls (xY mX3_carryOut) (xY mX3_carryOut)) 12 (by decide +kernel) (by decide +kernel), by decide +kernel⟩
theorem isX3_takeRegion : xIsV mX3_takeRegion 2 := ⟨⟨by decide +kernel, xWd_of (w := Cond.code (xY mX3_takeRegion) (xB mX3_takeRegion) (xL mX3_takeRegion) (xT mX3_takeRegion)) 478 (by decide +kernel) (by decide +kernel), xWd_of (w := Cond.initialized (xY mX3_takeRegion).cls) 64 (by decide +kernel) (by decide +kernel), by decide +kernel, by decide +kernel⟩, xWd_of (w := Cond.instanceMethod (xY mX3_takeRegion)) 477 (by decide +kernel) (by decide +kernel), xWd_of (w := Cond.selects (xY mX3_takeRegion).cls (xY mX3_takeRegion) (xY mX3_takeRegion)) 13 (by decide +kernel) (by decide +kernel), by decide +kernel⟩
theorem isX3_edgeOf : xIsV mX3_edgeOf 2 := ⟨⟨by decide +kernel, xWd_of (w := Cond.code (xY mX3_edgeOf) (xB mX3_edgeOf) (xL mX3_edgeOf) (xT mX3_edgeOf)) 409 (by decide +kernel) (by decide +kernel), xWd_of (w := Cond.initialized (xY mX3_edgeOf).cls) 64 (by decide +kernel) (by decide +kernel), by decide +kernel, by decide +kernel⟩, xWd_of (w := Cond.instanceMethod (xY mX3_edgeOf)) 408 (by decide +kernel) (by decide +kernel), xWd_of (w := Cond.selects (xY mX3_edgeOf).cls (xY mX3_edgeOf) (xY mX3_edgeOf)) 8 (by decide +kernel) (by decide +kernel), by decide +kernel⟩
theorem isX4_init : xIsI mX4_init 1 := ⟨⟨by decide +kernel, xWd_of (w := Cond.code (xY mX4_init) (xB mX4_init) (xL mX4_init) (xT mX4_init)) 119 (by decide +kernel) (by decide +kernel), xWd_of (w := Cond.initialized (xY mX4_init).cls) 63 (by decide +kernel) (by decide +kernel), by decide +kernel, by decide +kernel⟩, rfl, xWd_of (w := Cond.instanceMethod (xY mX4_init)) 118 (by decide +kernel) (by decide +kernel), rfl, by decide +kernel⟩
theorem isX4_survey : xIsV mX4_survey 1 := ⟨⟨by decide +kernel, xWd_of (w := Cond.code (xY mX4_survey) (xB mX4_survey) (xL mX4_survey) (xT mX4_survey)) 455 (by decide +kernel) (by decide +kernel), xWd_of (w := Cond.initialized (xY mX4_survey).cls) 63 (by decide +kernel) (by decide +kernel), by decide +kernel, by decide +kernel⟩, xWd_of (w := Cond.instanceMethod (xY mX4_survey)) 453 (by decide +kernel) (by decide +kernel), xWd_of (w := Cond.selects (xY mX4_survey).cls (xY mX4_survey) (xY mX4_survey)) 454 (by decide +kernel) (by decide +kernel), by decide +kernel⟩
theorem isX4_spreadFrom : xIsV mX4_spreadFrom 2 := ⟨⟨by decide +kernel, xWd_of (w := Cond.code (xY mX4_spreadFrom) (xB mX4_spreadFrom) (xL mX4_spreadFrom) (xT mX4_spreadFrom)) 460 (by decide +kernel) (by decide +kernel), xWd_of (w := Cond.initialized (xY mX4_spreadFrom).cls) 63 (by decide +kernel) (by decide +kernel), by decide +kernel, by decide +kernel⟩, xWd_of (w := Cond.instanceMethod (xY mX4_spreadFrom)) 459 (by decide +kernel) (by decide +kernel), xWd_of (w := Cond.selects (xY mX4_spreadFrom).cls (xY mX4_spreadFrom) (xY mX4_spreadFrom)) 11 (by decide +kernel) (by decide +kernel), by decide +kernel⟩
theorem isX4_lowestAround : xIsV mX4_lowestAround 1 := ⟨⟨by decide +kernel, xWd_of (w := Cond.code (xY mX4_lowestAround) (xB mX4_lowestAround) (xL mX4_lowestAround) (xT mX4_lowestAround)) 482 (by decide +kernel) (by decide +kernel), xWd_of (w := Cond.initialized (xY mX4_lowestAround).cls) 63 (by decide +kernel) (by decide +kernel), by decide +kernel, by decide +kernel⟩, xWd_of (w := Cond.instanceMethod (xY mX4_lowestAround)) 480 (by decide +kernel) (by decide +kernel), xWd_of (w := Cond.selects (xY mX4_lowestAround).cls (xY mX4_lowestAround) (xY mX4_lowestAround)) 481 (by decide +kernel) (by decide +kernel), by decide +kernel⟩
theorem isX4_sizeAround : xIsV mX4_sizeAround 1 := ⟨⟨by decide +kernel, xWd_of (w := Cond.code (xY mX4_sizeAround) (xB mX4_sizeAround) (xL mX4_sizeAround) (xT mX4_sizeAround)) 470 (by decide +kernel) (by decide +kernel), xWd_of (w := Cond.initialized (xY mX4_sizeAround).cls) 63 (by decide +kernel) (by decide +kernel), by decide +kernel, by decide +kernel⟩, xWd_of (w := Cond.instanceMethod (xY mX4_sizeAround)) 468 (by decide +kernel) (by decide +kernel), xWd_of (w := Cond.selects (xY mX4_sizeAround).cls (xY mX4_sizeAround) (xY mX4_sizeAround)) 469 (by decide +kernel) (by decide +kernel), by decide +kernel⟩
theorem isX4_freeAround : xIsV mX4_freeAround 1 := ⟨⟨by decide +kernel, xWd_of (w := Cond.code (xY mX4_freeAround) (xB mX4_freeAround) (xL mX4_freeAround) (xT mX4_freeAround)) 589 (by decide +kernel) (by decide +kernel), xWd_of (w := Cond.initialized (xY mX4_freeAround).cls) 63 (by decide +kernel) (by decide +kernel), by decide +kernel, by decide +kernel⟩, xWd_of (w := Cond.instanceMethod (xY mX4_freeAround)) 587 (by decide +kernel) (by decide +kernel), xWd_of (w := Cond.selects (xY mX4_freeAround).cls (xY mX4_freeAround) (xY mX4_freeAround)) 588 (by decide +kernel) (by decide +kernel), by decide +kernel⟩
theorem isX4_sizeByJoining : xIsV mX4_sizeByJoining 2 := ⟨⟨by decide +kernel, xWd_of (w := Cond.code (xY mX4_sizeByJoining) (xB mX4_sizeByJoining) (xL mX4_sizeByJoining) (xT mX4_sizeByJoining)) 602 (by decide +kernel) (by decide +kernel), xWd_of (w := Cond.initialized (xY mX4_sizeByJoining).cls) 63 (by decide +kernel) (by decide +kernel), by decide +kernel, by decide +kernel⟩, xWd_of (w := Cond.instanceMethod (xY mX4_sizeByJoining)) 600 (by decide +kernel) (by decide +kernel), xWd_of (w := Cond.selects (xY mX4_sizeByJoining).cls (xY mX4_sizeByJoining) (xY mX4_sizeByJoining)) 601 (by decide +kernel) (by decide +kernel), by decide +kernel⟩
theorem isX4_relabel : xIsV mX4_relabel 2 := ⟨⟨by decide +kernel, xWd_of (w := Cond.code (xY mX4_relabel) (xB mX4_relabel) (xL mX4_relabel) (xT mX4_relabel)) 606 (by decide +kernel) (by decide +kernel), xWd_of (w := Cond.initialized (xY mX4_relabel).cls) 63 (by decide +kernel) (by decide +kernel), by decide +kernel, by decide +kernel⟩, xWd_of (w := Cond.instanceMethod (xY mX4_relabel)) 605 (by decide +kernel) (by decide +kernel), xWd_of (w := Cond.selects (xY mX4_relabel).cls (xY mX4_relabel) (xY mX4_relabel)) 21 (by decide +kernel) (by decide +kernel), by decide +kernel⟩
theorem isX4_countLabel : xIsV mX4_countLabel 1 := ⟨⟨by decide +kernel, xWd_of (w := Cond.code (xY mX4_countLabel) (xB mX4_countLabel) (xL mX4_countLabel) (xT mX4_countLabel)) 610 (by decide +kernel) (by decide +kernel), xWd_of (w := Cond.initialized (xY mX4_countLabel).cls) 63 (by decide +kernel) (by decide +kernel), by decide +kernel, by decide +kernel⟩, xWd_of (w := Cond.instanceMethod (xY mX4_countLabel)) 609 (by decide +kernel) (by decide +kernel), xWd_of (w := Cond.selects (xY mX4_countLabel).cls (xY mX4_countLabel) (xY mX4_countLabel)) 22 (by decide +kernel) (by decide +kernel), by decide +kernel⟩
theorem isX5_init : xIsI mX5_init 0 := ⟨⟨by decide +kernel, xWd_of (w := Cond.code (xY mX5_init) (xB mX5_init) (xL mX5_init) (xT mX5_init)) 202 (by decide +kernel) (by decide +kernel), xWd_of (w := Cond.initialized (xY mX5_init).cls) 67 (by decide +kernel) (by decide +kernel), by decide +kernel, by decide +kernel⟩, rfl, xWd_of (w := Cond.instanceMethod (xY mX5_init)) 201 (by decide +kernel) (by decide +kernel), rfl, by decide +kernel⟩
theorem isX5_takeFrom : xIsV mX5_takeFrom 1 := ⟨⟨by decide +kernel, xWd_of (w := Cond.code (xY mX5_takeFrom) (xB mX5_takeFrom) (xL mX5_takeFrom) (xT mX5_takeFrom)) 304 (by decide +kernel) (by decide +kernel), xWd_of (w := Cond.initialized (xY mX5_takeFrom).cls) 67 (by decide +kernel) (by decide +kernel), by decide +kernel, by decide +kernel⟩, xWd_of (w := Cond.instanceMethod (xY mX5_takeFrom)) 302 (by decide +kernel) (by decide +kernel), xWd_of (w := Cond.selects (xY mX5_takeFrom).cls (xY mX5_takeFrom) (xY mX5_takeFrom)) 303 (by decide +kernel) (by decide +kernel), by decide +kernel⟩
theorem isX5_hasLetter : xIsV mX5_hasLetter 1 := ⟨⟨by decide +kernel, xWd_of (w := Cond.code (xY mX5_hasLetter) (xB mX5_hasLetter) (xL mX5_hasLetter) (xT mX5_hasLetter)) 331 (by decide +kernel) (by decide +kernel), xWd_of (w := Cond.initialized (xY mX5_hasLetter).cls) 67 (by decide +kernel) (by decide +kernel), by decide +kernel, by decide +kernel⟩, xWd_of (w := Cond.instanceMethod (xY mX5_hasLetter)) 329 (by decide +kernel) (by decide +kernel), xWd_of (w := Cond.selects (xY mX5_hasLetter).cls (xY mX5_hasLetter) (xY mX5_hasLetter)) 330 (by decide +kernel) (by decide +kernel), by decide +kernel⟩
theorem isX5_told : xIsV mX5_told 2 := ⟨⟨by decide +kernel, xWd_of (w := Cond.code (xY mX5_told) (xB mX5_told) (xL mX5_told) (xT mX5_told)) 366 (by decide +kernel) (by decide +kernel), xWd_of (w := Cond.initialized (xY mX5_told).cls) 67 (by decide +kernel) (by decide +kernel), by decide +kernel, by decide +kernel⟩, xWd_of (w := Cond.instanceMethod (xY mX5_told)) 364 (by decide +kernel) (by decide +kernel), xWd_of (w := Cond.selects (xY mX5_told).cls (xY mX5_told) (xY mX5_told)) 365 (by decide +kernel) (by decide +kernel), by decide +kernel⟩
theorem isX5_mark : xIsV mX5_mark 3 := ⟨⟨by decide +kernel, xWd_of (w := Cond.code (xY mX5_mark) (xB mX5_mark) (xL mX5_mark) (xT mX5_mark)) 327 (by decide +kernel) (by decide +kernel), xWd_of (w := Cond.initialized (xY mX5_mark).cls) 67 (by decide +kernel) (by decide +kernel), by decide +kernel, by decide +kernel⟩, xWd_of (w := Cond.instanceMethod (xY mX5_mark)) 325 (by decide +kernel) (by decide +kernel), xWd_of (w := Cond.selects (xY mX5_mark).cls (xY mX5_mark) (xY mX5_mark)) 326 (by decide +kernel) (by decide +kernel), by decide +kernel⟩
theorem isX5_addLetter : xIsV mX5_addLetter 4 := ⟨⟨by decide +kernel, xWd_of (w := Cond.code (xY mX5_addLetter) (xB mX5_addLetter) (xL mX5_addLetter) (xT mX5_addLetter)) 323 (by decide +kernel) (by decide +kernel), xWd_of (w := Cond.initialized (xY mX5_addLetter).cls) 67 (by decide +kernel) (by decide +kernel), by decide +kernel, by decide +kernel⟩, xWd_of (w := Cond.instanceMethod (xY mX5_addLetter)) 321 (by decide +kernel) (by decide +kernel), xWd_of (w := Cond.selects (xY mX5_addLetter).cls (xY mX5_addLetter) (xY mX5_addLetter)) 322 (by decide +kernel) (by decide +kernel), by decide +kernel⟩
theorem isX5_soonest : xIsV mX5_soonest 0 := ⟨⟨by decide +kernel, xWd_of (w := Cond.code (xY mX5_soonest) (xB mX5_soonest) (xL mX5_soonest) (xT mX5_soonest)) 383 (by decide +kernel) (by decide +kernel), xWd_of (w := Cond.initialized (xY mX5_soonest).cls) 67 (by decide +kernel) (by decide +kernel), by decide +kernel, by decide +kernel⟩, xWd_of (w := Cond.instanceMethod (xY mX5_soonest)) 381 (by decide +kernel) (by decide +kernel), xWd_of (w := Cond.selects (xY mX5_soonest).cls (xY mX5_soonest) (xY mX5_soonest)) 382 (by decide +kernel) (by decide +kernel), by decide +kernel⟩
theorem isX5_haveCrossed : xIsV mX5_haveCrossed 2 := ⟨⟨by decide +kernel, xWd_of (w := Cond.code (xY mX5_haveCrossed) (xB mX5_haveCrossed) (xL mX5_haveCrossed) (xT mX5_haveCrossed)) 397 (by decide +kernel) (by decide +kernel), xWd_of (w := Cond.initialized (xY mX5_haveCrossed).cls) 67 (by decide +kernel) (by decide +kernel), by decide +kernel, by decide +kernel⟩, xWd_of (w := Cond.instanceMethod (xY mX5_haveCrossed)) 395 (by decide +kernel) (by decide +kernel), xWd_of (w := Cond.selects (xY mX5_haveCrossed).cls (xY mX5_haveCrossed) (xY mX5_haveCrossed)) 396 (by decide +kernel) (by decide +kernel), by decide +kernel⟩
theorem isX5_enterTurn : xIsV mX5_enterTurn 1 := ⟨⟨by decide +kernel, xWd_of (w := Cond.code (xY mX5_enterTurn) (xB mX5_enterTurn) (xL mX5_enterTurn) (xT mX5_enterTurn)) 393 (by decide +kernel) (by decide +kernel), xWd_of (w := Cond.initialized (xY mX5_enterTurn).cls) 67 (by decide +kernel) (by decide +kernel), by decide +kernel, by decide +kernel⟩, xWd_of (w := Cond.instanceMethod (xY mX5_enterTurn)) 391 (by decide +kernel) (by decide +kernel), xWd_of (w := Cond.selects (xY mX5_enterTurn).cls (xY mX5_enterTurn) (xY mX5_enterTurn)) 392 (by decide +kernel) (by decide +kernel), by decide +kernel⟩
theorem isX5_wasDone : xIsV mX5_wasDone 2 := ⟨⟨by decide +kernel, xWd_of (w := Cond.code (xY mX5_wasDone) (xB mX5_wasDone) (xL mX5_wasDone) (xT mX5_wasDone)) 405 (by decide +kernel) (by decide +kernel), xWd_of (w := Cond.initialized (xY mX5_wasDone).cls) 67 (by decide +kernel) (by decide +kernel), by decide +kernel, by decide +kernel⟩, xWd_of (w := Cond.instanceMethod (xY mX5_wasDone)) 403 (by decide +kernel) (by decide +kernel), xWd_of (w := Cond.selects (xY mX5_wasDone).cls (xY mX5_wasDone) (xY mX5_wasDone)) 404 (by decide +kernel) (by decide +kernel), by decide +kernel⟩
theorem isX5_onEdge : xIsV mX5_onEdge 1 := ⟨⟨by decide +kernel, xWd_of (w := Cond.code (xY mX5_onEdge) (xB mX5_onEdge) (xL mX5_onEdge) (xT mX5_onEdge)) 414 (by decide +kernel) (by decide +kernel), xWd_of (w := Cond.initialized (xY mX5_onEdge).cls) 67 (by decide +kernel) (by decide +kernel), by decide +kernel, by decide +kernel⟩, xWd_of (w := Cond.instanceMethod (xY mX5_onEdge)) 412 (by decide +kernel) (by decide +kernel), xWd_of (w := Cond.selects (xY mX5_onEdge).cls (xY mX5_onEdge) (xY mX5_onEdge)) 413 (by decide +kernel) (by decide +kernel), by decide +kernel⟩
theorem isX5_putOnEdge : xIsV mX5_putOnEdge 2 := ⟨⟨by decide +kernel, xWd_of (w := Cond.code (xY mX5_putOnEdge) (xB mX5_putOnEdge) (xL mX5_putOnEdge) (xT mX5_putOnEdge)) 422 (by decide +kernel) (by decide +kernel), xWd_of (w := Cond.initialized (xY mX5_putOnEdge).cls) 67 (by decide +kernel) (by decide +kernel), by decide +kernel, by decide +kernel⟩, xWd_of (w := Cond.instanceMethod (xY mX5_putOnEdge)) 420 (by decide +kernel) (by decide +kernel), xWd_of (w := Cond.selects (xY mX5_putOnEdge).cls (xY mX5_putOnEdge) (xY mX5_putOnEdge)) 421 (by decide +kernel) (by decide +kernel), by decide +kernel⟩
theorem isX5_takerOf : xIsV mX5_takerOf 1 := ⟨⟨by decide +kernel, xWd_of (w := Cond.code (xY mX5_takerOf) (xB mX5_takerOf) (xL mX5_takerOf) (xT mX5_takerOf)) 430 (by decide +kernel) (by decide +kernel), xWd_of (w := Cond.initialized (xY mX5_takerOf).cls) 67 (by decide +kernel) (by decide +kernel), by decide +kernel, by decide +kernel⟩, xWd_of (w := Cond.instanceMethod (xY mX5_takerOf)) 428 (by decide +kernel) (by decide +kernel), xWd_of (w := Cond.selects (xY mX5_takerOf).cls (xY mX5_takerOf) (xY mX5_takerOf)) 429 (by decide +kernel) (by decide +kernel), by decide +kernel⟩
theorem isX5_ownerOf : xIsV mX5_ownerOf 1 := ⟨⟨by decide +kernel, xWd_of (w := Cond.code (xY mX5_ownerOf) (xB mX5_ownerOf) (xL mX5_ownerOf) (xT mX5_ownerOf)) 583 (by decide +kernel) (by decide +kernel), xWd_of (w := Cond.initialized (xY mX5_ownerOf).cls) 67 (by decide +kernel) (by decide +kernel), by decide +kernel, by decide +kernel⟩, xWd_of (w := Cond.instanceMethod (xY mX5_ownerOf)) 581 (by decide +kernel) (by decide +kernel), xWd_of (w := Cond.selects (xY mX5_ownerOf).cls (xY mX5_ownerOf) (xY mX5_ownerOf)) 582 (by decide +kernel) (by decide +kernel), by decide +kernel⟩
theorem isX5_giveBackFieldsOf : xIsV mX5_giveBackFieldsOf 1 := ⟨⟨by decide +kernel, xWd_of (w := Cond.code (xY mX5_giveBackFieldsOf) (xB mX5_giveBackFieldsOf) (xL mX5_giveBackFieldsOf) (xT mX5_giveBackFieldsOf)) 435 (by decide +kernel) (by decide +kernel), xWd_of (w := Cond.initialized (xY mX5_giveBackFieldsOf).cls) 67 (by decide +kernel) (by decide +kernel), by decide +kernel, by decide +kernel⟩, xWd_of (w := Cond.instanceMethod (xY mX5_giveBackFieldsOf)) 433 (by decide +kernel) (by decide +kernel), xWd_of (w := Cond.selects (xY mX5_giveBackFieldsOf).cls (xY mX5_giveBackFieldsOf) (xY mX5_giveBackFieldsOf)) 434 (by decide +kernel) (by decide +kernel), by decide +kernel⟩
theorem isX5_hasTruce : xIsV mX5_hasTruce 0 := ⟨⟨by decide +kernel, xWd_of (w := Cond.code (xY mX5_hasTruce) (xB mX5_hasTruce) (xL mX5_hasTruce) (xT mX5_hasTruce)) 451 (by decide +kernel) (by decide +kernel), xWd_of (w := Cond.initialized (xY mX5_hasTruce).cls) 67 (by decide +kernel) (by decide +kernel), by decide +kernel, by decide +kernel⟩, xWd_of (w := Cond.instanceMethod (xY mX5_hasTruce)) 449 (by decide +kernel) (by decide +kernel), xWd_of (w := Cond.selects (xY mX5_hasTruce).cls (xY mX5_hasTruce) (xY mX5_hasTruce)) 450 (by decide +kernel) (by decide +kernel), by decide +kernel⟩
theorem isX5_lettersThatAre : xIsV mX5_lettersThatAre 1 := ⟨⟨by decide +kernel, xWd_of (w := Cond.code (xY mX5_lettersThatAre) (xB mX5_lettersThatAre) (xL mX5_lettersThatAre) (xT mX5_lettersThatAre)) 647 (by decide +kernel) (by decide +kernel), xWd_of (w := Cond.initialized (xY mX5_lettersThatAre).cls) 67 (by decide +kernel) (by decide +kernel), by decide +kernel, by decide +kernel⟩, xWd_of (w := Cond.instanceMethod (xY mX5_lettersThatAre)) 645 (by decide +kernel) (by decide +kernel), xWd_of (w := Cond.selects (xY mX5_lettersThatAre).cls (xY mX5_lettersThatAre) (xY mX5_lettersThatAre)) 646 (by decide +kernel) (by decide +kernel), by decide +kernel⟩
theorem isX5_turnsOfTwo : xIsV mX5_turnsOfTwo 0 := ⟨⟨by decide +kernel, xWd_of (w := Cond.code (xY mX5_turnsOfTwo) (xB mX5_turnsOfTwo) (xL mX5_turnsOfTwo) (xT mX5_turnsOfTwo)) 664 (by decide +kernel) (by decide +kernel), xWd_of (w := Cond.initialized (xY mX5_turnsOfTwo).cls) 67 (by decide +kernel) (by decide +kernel), by decide +kernel, by decide +kernel⟩, xWd_of (w := Cond.instanceMethod (xY mX5_turnsOfTwo)) 662 (by decide +kernel) (by decide +kernel), xWd_of (w := Cond.selects (xY mX5_turnsOfTwo).cls (xY mX5_turnsOfTwo) (xY mX5_turnsOfTwo)) 663 (by decide +kernel) (by decide +kernel), by decide +kernel⟩
theorem isX5_fieldsOf : xIsV mX5_fieldsOf 1 := ⟨⟨by decide +kernel, xWd_of (w := Cond.code (xY mX5_fieldsOf) (xB mX5_fieldsOf) (xL mX5_fieldsOf) (xT mX5_fieldsOf)) 651 (by decide +kernel) (by decide +kernel), xWd_of (w := Cond.initialized (xY mX5_fieldsOf).cls) 67 (by decide +kernel) (by decide +kernel), by decide +kernel, by decide +kernel⟩, xWd_of (w := Cond.instanceMethod (xY mX5_fieldsOf)) 649 (by decide +kernel) (by decide +kernel), xWd_of (w := Cond.selects (xY mX5_fieldsOf).cls (xY mX5_fieldsOf) (xY mX5_fieldsOf)) 650 (by decide +kernel) (by decide +kernel), by decide +kernel⟩
theorem isX5_edgesWith : xIsV mX5_edgesWith 1 := ⟨⟨by decide +kernel, xWd_of (w := Cond.code (xY mX5_edgesWith) (xB mX5_edgesWith) (xL mX5_edgesWith) (xT mX5_edgesWith)) 643 (by decide +kernel) (by decide +kernel), xWd_of (w := Cond.initialized (xY mX5_edgesWith).cls) 67 (by decide +kernel) (by decide +kernel), by decide +kernel, by decide +kernel⟩, xWd_of (w := Cond.instanceMethod (xY mX5_edgesWith)) 641 (by decide +kernel) (by decide +kernel), xWd_of (w := Cond.selects (xY mX5_edgesWith).cls (xY mX5_edgesWith) (xY mX5_edgesWith)) 642 (by decide +kernel) (by decide +kernel), by decide +kernel⟩
theorem isX6_init : xIsI mX6_init 0 := ⟨⟨by decide +kernel, xWd_of (w := Cond.code (xY mX6_init) (xB mX6_init) (xL mX6_init) (xT mX6_init)) 74 (by decide +kernel) (by decide +kernel), xWd_of (w := Cond.initialized (xY mX6_init).cls) 60 (by decide +kernel) (by decide +kernel), by decide +kernel, by decide +kernel⟩, rfl, xWd_of (w := Cond.instanceMethod (xY mX6_init)) 73 (by decide +kernel) (by decide +kernel), rfl, by decide +kernel⟩
theorem isX6_writeEdge : xIsV mX6_writeEdge 4 := ⟨⟨by decide +kernel, xWd_of (w := Cond.code (xY mX6_writeEdge) (xB mX6_writeEdge) (xL mX6_writeEdge) (xT mX6_writeEdge)) 300 (by decide +kernel) (by decide +kernel), xWd_of (w := Cond.initialized (xY mX6_writeEdge).cls) 60 (by decide +kernel) (by decide +kernel), by decide +kernel, by decide +kernel⟩, xWd_of (w := Cond.instanceMethod (xY mX6_writeEdge)) 298 (by decide +kernel) (by decide +kernel), xWd_of (w := Cond.selects (xY mX6_writeEdge).cls (xY mX6_writeEdge) (xY mX6_writeEdge)) 299 (by decide +kernel) (by decide +kernel), by decide +kernel⟩
theorem isX6_writeClaim : xIsV mX6_writeClaim 2 := ⟨⟨by decide +kernel, xWd_of (w := Cond.code (xY mX6_writeClaim) (xB mX6_writeClaim) (xL mX6_writeClaim) (xT mX6_writeClaim)) 344 (by decide +kernel) (by decide +kernel), xWd_of (w := Cond.initialized (xY mX6_writeClaim).cls) 60 (by decide +kernel) (by decide +kernel), by decide +kernel, by decide +kernel⟩, xWd_of (w := Cond.instanceMethod (xY mX6_writeClaim)) 342 (by decide +kernel) (by decide +kernel), xWd_of (w := Cond.selects (xY mX6_writeClaim).cls (xY mX6_writeClaim) (xY mX6_writeClaim)) 343 (by decide +kernel) (by decide +kernel), by decide +kernel⟩
theorem isX6_writeTruce : xIsV mX6_writeTruce 2 := ⟨⟨by decide +kernel, xWd_of (w := Cond.code (xY mX6_writeTruce) (xB mX6_writeTruce) (xL mX6_writeTruce) (xT mX6_writeTruce)) 353 (by decide +kernel) (by decide +kernel), xWd_of (w := Cond.initialized (xY mX6_writeTruce).cls) 60 (by decide +kernel) (by decide +kernel), by decide +kernel, by decide +kernel⟩, xWd_of (w := Cond.instanceMethod (xY mX6_writeTruce)) 351 (by decide +kernel) (by decide +kernel), xWd_of (w := Cond.selects (xY mX6_writeTruce).cls (xY mX6_writeTruce) (xY mX6_writeTruce)) 352 (by decide +kernel) (by decide +kernel), by decide +kernel⟩
theorem isX6_callBack : xIsV mX6_callBack 1 := ⟨⟨by decide +kernel, xWd_of (w := Cond.code (xY mX6_callBack) (xB mX6_callBack) (xL mX6_callBack) (xT mX6_callBack)) 361 (by decide +kernel) (by decide +kernel), xWd_of (w := Cond.initialized (xY mX6_callBack).cls) 60 (by decide +kernel) (by decide +kernel), by decide +kernel, by decide +kernel⟩, xWd_of (w := Cond.instanceMethod (xY mX6_callBack)) 359 (by decide +kernel) (by decide +kernel), xWd_of (w := Cond.selects (xY mX6_callBack).cls (xY mX6_callBack) (xY mX6_callBack)) 360 (by decide +kernel) (by decide +kernel), by decide +kernel⟩
theorem isX6_pass : xIsV mX6_pass 1 := ⟨⟨by decide +kernel, xWd_of (w := Cond.code (xY mX6_pass) (xB mX6_pass) (xL mX6_pass) (xT mX6_pass)) 371 (by decide +kernel) (by decide +kernel), xWd_of (w := Cond.initialized (xY mX6_pass).cls) 60 (by decide +kernel) (by decide +kernel), by decide +kernel, by decide +kernel⟩, xWd_of (w := Cond.instanceMethod (xY mX6_pass)) 369 (by decide +kernel) (by decide +kernel), xWd_of (w := Cond.selects (xY mX6_pass).cls (xY mX6_pass) (xY mX6_pass)) 370 (by decide +kernel) (by decide +kernel), by decide +kernel⟩
theorem isX6_set : xIsV mX6_set 2 := ⟨⟨by decide +kernel, xWd_of (w := Cond.code (xY mX6_set) (xB mX6_set) (xL mX6_set) (xT mX6_set)) 488 (by decide +kernel) (by decide +kernel), xWd_of (w := Cond.initialized (xY mX6_set).cls) 60 (by decide +kernel) (by decide +kernel), by decide +kernel, by decide +kernel⟩, xWd_of (w := Cond.instanceMethod (xY mX6_set)) 486 (by decide +kernel) (by decide +kernel), xWd_of (w := Cond.selects (xY mX6_set).cls (xY mX6_set) (xY mX6_set)) 487 (by decide +kernel) (by decide +kernel), by decide +kernel⟩
theorem isX6_type : xIsV mX6_type 1 := ⟨⟨by decide +kernel, xWd_of (w := Cond.code (xY mX6_type) (xB mX6_type) (xL mX6_type) (xT mX6_type)) 492 (by decide +kernel) (by decide +kernel), xWd_of (w := Cond.initialized (xY mX6_type).cls) 60 (by decide +kernel) (by decide +kernel), by decide +kernel, by decide +kernel⟩, xWd_of (w := Cond.instanceMethod (xY mX6_type)) 490 (by decide +kernel) (by decide +kernel), xWd_of (w := Cond.selects (xY mX6_type).cls (xY mX6_type) (xY mX6_type)) 491 (by decide +kernel) (by decide +kernel), by decide +kernel⟩
theorem isX6_clearText : xIsV mX6_clearText 0 := ⟨⟨by decide +kernel, xWd_of (w := Cond.code (xY mX6_clearText) (xB mX6_clearText) (xL mX6_clearText) (xT mX6_clearText)) 500 (by decide +kernel) (by decide +kernel), xWd_of (w := Cond.initialized (xY mX6_clearText).cls) 60 (by decide +kernel) (by decide +kernel), by decide +kernel, by decide +kernel⟩, xWd_of (w := Cond.instanceMethod (xY mX6_clearText)) 498 (by decide +kernel) (by decide +kernel), xWd_of (w := Cond.selects (xY mX6_clearText).cls (xY mX6_clearText) (xY mX6_clearText)) 499 (by decide +kernel) (by decide +kernel), by decide +kernel⟩
theorem isX6_perform : xIsV mX6_perform 0 := ⟨⟨by decide +kernel, xWd_of (w := Cond.code (xY mX6_perform) (xB mX6_perform) (xL mX6_perform) (xT mX6_perform)) 508 (by decide +kernel) (by decide +kernel), xWd_of (w := Cond.initialized (xY mX6_perform).cls) 60 (by decide +kernel) (by decide +kernel), by decide +kernel, by decide +kernel⟩, xWd_of (w := Cond.instanceMethod (xY mX6_perform)) 506 (by decide +kernel) (by decide +kernel), xWd_of (w := Cond.selects (xY mX6_perform).cls (xY mX6_perform) (xY mX6_perform)) 507 (by decide +kernel) (by decide +kernel), by decide +kernel⟩
theorem isX6_stopped : xIsV mX6_stopped 1 := ⟨⟨by decide +kernel, xWd_of (w := Cond.code (xY mX6_stopped) (xB mX6_stopped) (xL mX6_stopped) (xT mX6_stopped)) 553 (by decide +kernel) (by decide +kernel), xWd_of (w := Cond.initialized (xY mX6_stopped).cls) 60 (by decide +kernel) (by decide +kernel), by decide +kernel, by decide +kernel⟩, xWd_of (w := Cond.instanceMethod (xY mX6_stopped)) 551 (by decide +kernel) (by decide +kernel), xWd_of (w := Cond.selects (xY mX6_stopped).cls (xY mX6_stopped) (xY mX6_stopped)) 552 (by decide +kernel) (by decide +kernel), by decide +kernel⟩
theorem isX6_undo : xIsV mX6_undo 0 := ⟨⟨by decide +kernel, xWd_of (w := Cond.code (xY mX6_undo) (xB mX6_undo) (xL mX6_undo) (xT mX6_undo)) 557 (by decide +kernel) (by decide +kernel), xWd_of (w := Cond.initialized (xY mX6_undo).cls) 60 (by decide +kernel) (by decide +kernel), by decide +kernel, by decide +kernel⟩, xWd_of (w := Cond.instanceMethod (xY mX6_undo)) 555 (by decide +kernel) (by decide +kernel), xWd_of (w := Cond.selects (xY mX6_undo).cls (xY mX6_undo) (xY mX6_undo)) 556 (by decide +kernel) (by decide +kernel), by decide +kernel⟩
theorem isX6_keep : xIsV mX6_keep 0 := ⟨⟨by decide +kernel, xWd_of (w := Cond.code (xY mX6_keep) (xB mX6_keep) (xL mX6_keep) (xT mX6_keep)) 565 (by decide +kernel) (by decide +kernel), xWd_of (w := Cond.initialized (xY mX6_keep).cls) 60 (by decide +kernel) (by decide +kernel), by decide +kernel, by decide +kernel⟩, xWd_of (w := Cond.instanceMethod (xY mX6_keep)) 563 (by decide +kernel) (by decide +kernel), xWd_of (w := Cond.selects (xY mX6_keep).cls (xY mX6_keep) (xY mX6_keep)) 564 (by decide +kernel) (by decide +kernel), by decide +kernel⟩
theorem isX6_restore : xIsV mX6_restore 0 := ⟨⟨by decide +kernel, xWd_of (w := Cond.code (xY mX6_restore) (xB mX6_restore) (xL mX6_restore) (xT mX6_restore)) 569 (by decide +kernel) (by decide +kernel), xWd_of (w := Cond.initialized (xY mX6_restore).cls) 60 (by decide +kernel) (by decide +kernel), by decide +kernel, by decide +kernel⟩, xWd_of (w := Cond.instanceMethod (xY mX6_restore)) 567 (by decide +kernel) (by decide +kernel), xWd_of (w := Cond.selects (xY mX6_restore).cls (xY mX6_restore) (xY mX6_restore)) 568 (by decide +kernel) (by decide +kernel), by decide +kernel⟩
theorem isX6_edge : xIsV mX6_edge 2 := ⟨⟨by decide +kernel, xWd_of (w := Cond.code (xY mX6_edge) (xB mX6_edge) (xL mX6_edge) (xT mX6_edge)) 573 (by decide +kernel) (by decide +kernel), xWd_of (w := Cond.initialized (xY mX6_edge).cls) 60 (by decide +kernel) (by decide +kernel), by decide +kernel, by decide +kernel⟩, xWd_of (w := Cond.instanceMethod (xY mX6_edge)) 571 (by decide +kernel) (by decide +kernel), xWd_of (w := Cond.selects (xY mX6_edge).cls (xY mX6_edge) (xY mX6_edge)) 572 (by decide +kernel) (by decide +kernel), by decide +kernel⟩
theorem isX6_field : xIsV mX6_field 2 := ⟨⟨by decide +kernel, xWd_of (w := Cond.code (xY mX6_field) (xB mX6_field) (xL mX6_field) (xT mX6_field)) 578 (by decide +kernel) (by decide +kernel), xWd_of (w := Cond.initialized (xY mX6_field).cls) 60 (by decide +kernel) (by decide +kernel), by decide +kernel, by decide +kernel⟩, xWd_of (w := Cond.instanceMethod (xY mX6_field)) 576 (by decide +kernel) (by decide +kernel), xWd_of (w := Cond.selects (xY mX6_field).cls (xY mX6_field) (xY mX6_field)) 577 (by decide +kernel) (by decide +kernel), by decide +kernel⟩
theorem isX6_joined : xIsV mX6_joined 1 := ⟨⟨by decide +kernel, xWd_of (w := Cond.code (xY mX6_joined) (xB mX6_joined) (xL mX6_joined) (xT mX6_joined)) 598 (by decide +kernel) (by decide +kernel), xWd_of (w := Cond.initialized (xY mX6_joined).cls) 60 (by decide +kernel) (by decide +kernel), by decide +kernel, by decide +kernel⟩, xWd_of (w := Cond.instanceMethod (xY mX6_joined)) 596 (by decide +kernel) (by decide +kernel), xWd_of (w := Cond.selects (xY mX6_joined).cls (xY mX6_joined) (xY mX6_joined)) 597 (by decide +kernel) (by decide +kernel), by decide +kernel⟩
theorem isX6_letter : xIsV mX6_letter 2 := ⟨⟨by decide +kernel, xWd_of (w := Cond.code (xY mX6_letter) (xB mX6_letter) (xL mX6_letter) (xT mX6_letter)) 614 (by decide +kernel) (by decide +kernel), xWd_of (w := Cond.initialized (xY mX6_letter).cls) 60 (by decide +kernel) (by decide +kernel), by decide +kernel, by decide +kernel⟩, xWd_of (w := Cond.instanceMethod (xY mX6_letter)) 612 (by decide +kernel) (by decide +kernel), xWd_of (w := Cond.selects (xY mX6_letter).cls (xY mX6_letter) (xY mX6_letter)) 613 (by decide +kernel) (by decide +kernel), by decide +kernel⟩
theorem isX6_crossed : xIsV mX6_crossed 2 := ⟨⟨by decide +kernel, xWd_of (w := Cond.code (xY mX6_crossed) (xB mX6_crossed) (xL mX6_crossed) (xT mX6_crossed)) 618 (by decide +kernel) (by decide +kernel), xWd_of (w := Cond.initialized (xY mX6_crossed).cls) 60 (by decide +kernel) (by decide +kernel), by decide +kernel, by decide +kernel⟩, xWd_of (w := Cond.instanceMethod (xY mX6_crossed)) 616 (by decide +kernel) (by decide +kernel), xWd_of (w := Cond.selects (xY mX6_crossed).cls (xY mX6_crossed) (xY mX6_crossed)) 617 (by decide +kernel) (by decide +kernel), by decide +kernel⟩
theorem isX6_reasonEdge : xIsV mX6_reasonEdge 3 := ⟨⟨by decide +kernel, xWd_of (w := Cond.code (xY mX6_reasonEdge) (xB mX6_reasonEdge) (xL mX6_reasonEdge) (xT mX6_reasonEdge)) 623 (by decide +kernel) (by decide +kernel), xWd_of (w := Cond.initialized (xY mX6_reasonEdge).cls) 60 (by decide +kernel) (by decide +kernel), by decide +kernel, by decide +kernel⟩, xWd_of (w := Cond.instanceMethod (xY mX6_reasonEdge)) 621 (by decide +kernel) (by decide +kernel), xWd_of (w := Cond.selects (xY mX6_reasonEdge).cls (xY mX6_reasonEdge) (xY mX6_reasonEdge)) 622 (by decide +kernel) (by decide +kernel), by decide +kernel⟩
theorem isX6_reasonClaim : xIsV mX6_reasonClaim 1 := ⟨⟨by decide +kernel, xWd_of (w := Cond.code (xY mX6_reasonClaim) (xB mX6_reasonClaim) (xL mX6_reasonClaim) (xT mX6_reasonClaim)) 629 (by decide +kernel) (by decide +kernel), xWd_of (w := Cond.initialized (xY mX6_reasonClaim).cls) 60 (by decide +kernel) (by decide +kernel), by decide +kernel, by decide +kernel⟩, xWd_of (w := Cond.instanceMethod (xY mX6_reasonClaim)) 627 (by decide +kernel) (by decide +kernel), xWd_of (w := Cond.selects (xY mX6_reasonClaim).cls (xY mX6_reasonClaim) (xY mX6_reasonClaim)) 628 (by decide +kernel) (by decide +kernel), by decide +kernel⟩
theorem isX6_next : xIsV mX6_next 1 := ⟨⟨by decide +kernel, xWd_of (w := Cond.code (xY mX6_next) (xB mX6_next) (xL mX6_next) (xT mX6_next)) 634 (by decide +kernel) (by decide +kernel), xWd_of (w := Cond.initialized (xY mX6_next).cls) 60 (by decide +kernel) (by decide +kernel), by decide +kernel, by decide +kernel⟩, xWd_of (w := Cond.instanceMethod (xY mX6_next)) 632 (by decide +kernel) (by decide +kernel), xWd_of (w := Cond.selects (xY mX6_next).cls (xY mX6_next) (xY mX6_next)) 633 (by decide +kernel) (by decide +kernel), by decide +kernel⟩
theorem isX6_ifAllCome : xIsV mX6_ifAllCome 1 := ⟨⟨by decide +kernel, xWd_of (w := Cond.code (xY mX6_ifAllCome) (xB mX6_ifAllCome) (xL mX6_ifAllCome) (xT mX6_ifAllCome)) 639 (by decide +kernel) (by decide +kernel), xWd_of (w := Cond.initialized (xY mX6_ifAllCome).cls) 60 (by decide +kernel) (by decide +kernel), by decide +kernel, by decide +kernel⟩, xWd_of (w := Cond.instanceMethod (xY mX6_ifAllCome)) 637 (by decide +kernel) (by decide +kernel), xWd_of (w := Cond.selects (xY mX6_ifAllCome).cls (xY mX6_ifAllCome) (xY mX6_ifAllCome)) 638 (by decide +kernel) (by decide +kernel), by decide +kernel⟩
theorem isX6_bestClaim : xIsV mX6_bestClaim 1 := ⟨⟨by decide +kernel, xWd_of (w := Cond.code (xY mX6_bestClaim) (xB mX6_bestClaim) (xL mX6_bestClaim) (xT mX6_bestClaim)) 656 (by decide +kernel) (by decide +kernel), xWd_of (w := Cond.initialized (xY mX6_bestClaim).cls) 60 (by decide +kernel) (by decide +kernel), by decide +kernel, by decide +kernel⟩, xWd_of (w := Cond.instanceMethod (xY mX6_bestClaim)) 654 (by decide +kernel) (by decide +kernel), xWd_of (w := Cond.selects (xY mX6_bestClaim).cls (xY mX6_bestClaim) (xY mX6_bestClaim)) 655 (by decide +kernel) (by decide +kernel), by decide +kernel⟩
theorem isX6_count : xIsV mX6_count 1 := ⟨⟨by decide +kernel, xWd_of (w := Cond.code (xY mX6_count) (xB mX6_count) (xL mX6_count) (xT mX6_count)) 660 (by decide +kernel) (by decide +kernel), xWd_of (w := Cond.initialized (xY mX6_count).cls) 60 (by decide +kernel) (by decide +kernel), by decide +kernel, by decide +kernel⟩, xWd_of (w := Cond.instanceMethod (xY mX6_count)) 658 (by decide +kernel) (by decide +kernel), xWd_of (w := Cond.selects (xY mX6_count).cls (xY mX6_count) (xY mX6_count)) 659 (by decide +kernel) (by decide +kernel), by decide +kernel⟩
theorem isX6_addEdgeLetter : xIsV mX6_addEdgeLetter 4 := ⟨⟨by decide +kernel, xWd_of (w := Cond.code (xY mX6_addEdgeLetter) (xB mX6_addEdgeLetter) (xL mX6_addEdgeLetter) (xT mX6_addEdgeLetter)) 311 (by decide +kernel) (by decide +kernel), xWd_of (w := Cond.initialized (xY mX6_addEdgeLetter).cls) 60 (by decide +kernel) (by decide +kernel), by decide +kernel, by decide +kernel⟩, xWd_of (w := Cond.instanceMethod (xY mX6_addEdgeLetter)) 310 (by decide +kernel) (by decide +kernel), xWd_of (w := Cond.selects (xY mX6_addEdgeLetter).cls (xY mX6_addEdgeLetter) (xY mX6_addEdgeLetter)) 1 (by decide +kernel) (by decide +kernel), by decide +kernel⟩
theorem isX6_addClaim : xIsV mX6_addClaim 2 := ⟨⟨by decide +kernel, xWd_of (w := Cond.code (xY mX6_addClaim) (xB mX6_addClaim) (xL mX6_addClaim) (xT mX6_addClaim)) 348 (by decide +kernel) (by decide +kernel), xWd_of (w := Cond.initialized (xY mX6_addClaim).cls) 60 (by decide +kernel) (by decide +kernel), by decide +kernel, by decide +kernel⟩, xWd_of (w := Cond.instanceMethod (xY mX6_addClaim)) 347 (by decide +kernel) (by decide +kernel), xWd_of (w := Cond.selects (xY mX6_addClaim).cls (xY mX6_addClaim) (xY mX6_addClaim)) 3 (by decide +kernel) (by decide +kernel), by decide +kernel⟩
theorem isX6_addTruce : xIsV mX6_addTruce 2 := ⟨⟨by decide +kernel, xWd_of (w := Cond.code (xY mX6_addTruce) (xB mX6_addTruce) (xL mX6_addTruce) (xT mX6_addTruce)) 357 (by decide +kernel) (by decide +kernel), xWd_of (w := Cond.initialized (xY mX6_addTruce).cls) 60 (by decide +kernel) (by decide +kernel), by decide +kernel, by decide +kernel⟩, xWd_of (w := Cond.instanceMethod (xY mX6_addTruce)) 356 (by decide +kernel) (by decide +kernel), xWd_of (w := Cond.selects (xY mX6_addTruce).cls (xY mX6_addTruce) (xY mX6_addTruce)) 4 (by decide +kernel) (by decide +kernel), by decide +kernel⟩
theorem isX6_addLetterOfGame : xIsV mX6_addLetterOfGame 1 := ⟨⟨by decide +kernel, xWd_of (w := Cond.code (xY mX6_addLetterOfGame) (xB mX6_addLetterOfGame) (xL mX6_addLetterOfGame) (xT mX6_addLetterOfGame)) 549 (by decide +kernel) (by decide +kernel), xWd_of (w := Cond.initialized (xY mX6_addLetterOfGame).cls) 60 (by decide +kernel) (by decide +kernel), by decide +kernel, by decide +kernel⟩, xWd_of (w := Cond.instanceMethod (xY mX6_addLetterOfGame)) 548 (by decide +kernel) (by decide +kernel), xWd_of (w := Cond.selects (xY mX6_addLetterOfGame).cls (xY mX6_addLetterOfGame) (xY mX6_addLetterOfGame)) 19 (by decide +kernel) (by decide +kernel), by decide +kernel⟩
theorem isX6_letDaysPass : xIsV mX6_letDaysPass 1 := ⟨⟨by decide +kernel, xWd_of (w := Cond.code (xY mX6_letDaysPass) (xB mX6_letDaysPass) (xL mX6_letDaysPass) (xT mX6_letDaysPass)) 375 (by decide +kernel) (by decide +kernel), xWd_of (w := Cond.initialized (xY mX6_letDaysPass).cls) 60 (by decide +kernel) (by decide +kernel), by decide +kernel, by decide +kernel⟩, xWd_of (w := Cond.instanceMethod (xY mX6_letDaysPass)) 374 (by decide +kernel) (by decide +kernel), xWd_of (w := Cond.selects (xY mX6_letDaysPass).cls (xY mX6_letDaysPass) (xY mX6_letDaysPass)) 5 (by decide +kernel) (by decide +kernel), by decide +kernel⟩
theorem isX6_recordUnlessError : xIsV mX6_recordUnlessError 1 := ⟨⟨by decide +kernel, xWd_of (w := Cond.code (xY mX6_recordUnlessError) (xB mX6_recordUnlessError) (xL mX6_recordUnlessError) (xT mX6_recordUnlessError)) 335 (by decide +kernel) (by decide +kernel), xWd_of (w := Cond.initialized (xY mX6_recordUnlessError).cls) 60 (by decide +kernel) (by decide +kernel), by decide +kernel, by decide +kernel⟩, xWd_of (w := Cond.instanceMethod (xY mX6_recordUnlessError)) 334 (by decide +kernel) (by decide +kernel), xWd_of (w := Cond.selects (xY mX6_recordUnlessError).cls (xY mX6_recordUnlessError) (xY mX6_recordUnlessError)) 2 (by decide +kernel) (by decide +kernel), by decide +kernel⟩
theorem isX6_edgesWithSomething : xIsV mX6_edgesWithSomething 1 := ⟨⟨by decide +kernel, xWd_of (w := Cond.code (xY mX6_edgesWithSomething) (xB mX6_edgesWithSomething) (xL mX6_edgesWithSomething) (xT mX6_edgesWithSomething)) 594 (by decide +kernel) (by decide +kernel), xWd_of (w := Cond.initialized (xY mX6_edgesWithSomething).cls) 60 (by decide +kernel) (by decide +kernel), by decide +kernel, by decide +kernel⟩, xWd_of (w := Cond.instanceMethod (xY mX6_edgesWithSomething)) 593 (by decide +kernel) (by decide +kernel), xWd_of (w := Cond.selects (xY mX6_edgesWithSomething).cls (xY mX6_edgesWithSomething) (xY mX6_edgesWithSomething)) 20 (by decide +kernel) (by decide +kernel), by decide +kernel⟩
theorem isX6_isPlayer : xIsS mX6_isPlayer 1 := ⟨⟨by decide +kernel, xWd_of (w := Cond.code (xY mX6_isPlayer) (xB mX6_isPlayer) (xL mX6_isPlayer) (xT mX6_isPlayer)) 314 (by decide +kernel) (by decide +kernel), xWd_of (w := Cond.initialized (xY mX6_isPlayer).cls) 60 (by decide +kernel) (by decide +kernel), by decide +kernel, by decide +kernel⟩, xWd_of (w := Cond.static (xY mX6_isPlayer)) 313 (by decide +kernel) (by decide +kernel), by decide +kernel⟩
theorem isX6_isField : xIsS mX6_isField 1 := ⟨⟨by decide +kernel, xWd_of (w := Cond.code (xY mX6_isField) (xB mX6_isField) (xL mX6_isField) (xT mX6_isField)) 96 (by decide +kernel) (by decide +kernel), xWd_of (w := Cond.initialized (xY mX6_isField).cls) 60 (by decide +kernel) (by decide +kernel), by decide +kernel, by decide +kernel⟩, xWd_of (w := Cond.static (xY mX6_isField)) 95 (by decide +kernel) (by decide +kernel), by decide +kernel⟩
theorem isX6_isEdge : xIsS mX6_isEdge 1 := ⟨⟨by decide +kernel, xWd_of (w := Cond.code (xY mX6_isEdge) (xB mX6_isEdge) (xL mX6_isEdge) (xT mX6_isEdge)) 93 (by decide +kernel) (by decide +kernel), xWd_of (w := Cond.initialized (xY mX6_isEdge).cls) 60 (by decide +kernel) (by decide +kernel), by decide +kernel, by decide +kernel⟩, xWd_of (w := Cond.static (xY mX6_isEdge)) 92 (by decide +kernel) (by decide +kernel), by decide +kernel⟩
theorem isX6_fenceOf : xIsS mX6_fenceOf 1 := ⟨⟨by decide +kernel, xWd_of (w := Cond.code (xY mX6_fenceOf) (xB mX6_fenceOf) (xL mX6_fenceOf) (xT mX6_fenceOf)) 418 (by decide +kernel) (by decide +kernel), xWd_of (w := Cond.initialized (xY mX6_fenceOf).cls) 60 (by decide +kernel) (by decide +kernel), by decide +kernel, by decide +kernel⟩, xWd_of (w := Cond.static (xY mX6_fenceOf)) 417 (by decide +kernel) (by decide +kernel), by decide +kernel⟩
theorem isX7_init : xIsI mX7_init 0 := ⟨⟨by decide +kernel, xWd_of (w := Cond.code (xY mX7_init) (xB mX7_init) (xL mX7_init) (xT mX7_init)) 671 (by decide +kernel) (by decide +kernel), xWd_of (w := Cond.initialized (xY mX7_init).cls) 68 (by decide +kernel) (by decide +kernel), by decide +kernel, by decide +kernel⟩, rfl, xWd_of (w := Cond.instanceMethod (xY mX7_init)) 670 (by decide +kernel) (by decide +kernel), rfl, by decide +kernel⟩
theorem isX7_in : xIsS mX7_in 3 := ⟨⟨by decide +kernel, xWd_of (w := Cond.code (xY mX7_in) (xB mX7_in) (xL mX7_in) (xT mX7_in)) 749 (by decide +kernel) (by decide +kernel), xWd_of (w := Cond.initialized (xY mX7_in).cls) 68 (by decide +kernel) (by decide +kernel), by decide +kernel, by decide +kernel⟩, xWd_of (w := Cond.static (xY mX7_in)) 748 (by decide +kernel) (by decide +kernel), by decide +kernel⟩
theorem isX7_isPlayer : xIsS mX7_isPlayer 1 := ⟨⟨by decide +kernel, xWd_of (w := Cond.code (xY mX7_isPlayer) (xB mX7_isPlayer) (xL mX7_isPlayer) (xT mX7_isPlayer)) 746 (by decide +kernel) (by decide +kernel), xWd_of (w := Cond.initialized (xY mX7_isPlayer).cls) 68 (by decide +kernel) (by decide +kernel), by decide +kernel, by decide +kernel⟩, xWd_of (w := Cond.static (xY mX7_isPlayer)) 745 (by decide +kernel) (by decide +kernel), by decide +kernel⟩
theorem isX7_isField : xIsS mX7_isField 1 := ⟨⟨by decide +kernel, xWd_of (w := Cond.code (xY mX7_isField) (xB mX7_isField) (xL mX7_isField) (xT mX7_isField)) 752 (by decide +kernel) (by decide +kernel), xWd_of (w := Cond.initialized (xY mX7_isField).cls) 68 (by decide +kernel) (by decide +kernel), by decide +kernel, by decide +kernel⟩, xWd_of (w := Cond.static (xY mX7_isField)) 751 (by decide +kernel) (by decide +kernel), by decide +kernel⟩
theorem isX7_isLetter : xIsV mX7_isLetter 1 := ⟨⟨by decide +kernel, xWd_of (w := Cond.code (xY mX7_isLetter) (xB mX7_isLetter) (xL mX7_isLetter) (xT mX7_isLetter)) 782 (by decide +kernel) (by decide +kernel), xWd_of (w := Cond.initialized (xY mX7_isLetter).cls) 68 (by decide +kernel) (by decide +kernel), by decide +kernel, by decide +kernel⟩, xWd_of (w := Cond.instanceMethod (xY mX7_isLetter)) 781 (by decide +kernel) (by decide +kernel), xWd_of (w := Cond.selects (xY mX7_isLetter).cls (xY mX7_isLetter) (xY mX7_isLetter)) 27 (by decide +kernel) (by decide +kernel), by decide +kernel⟩
theorem isX7_at : xIsS mX7_at 2 := ⟨⟨by decide +kernel, xWd_of (w := Cond.code (xY mX7_at) (xB mX7_at) (xL mX7_at) (xT mX7_at)) 758 (by decide +kernel) (by decide +kernel), xWd_of (w := Cond.initialized (xY mX7_at).cls) 68 (by decide +kernel) (by decide +kernel), by decide +kernel, by decide +kernel⟩, xWd_of (w := Cond.static (xY mX7_at)) 757 (by decide +kernel) (by decide +kernel), by decide +kernel⟩
theorem isX7_of : xIsV mX7_of 2 := ⟨⟨by decide +kernel, xWd_of (w := Cond.code (xY mX7_of) (xB mX7_of) (xL mX7_of) (xT mX7_of)) 786 (by decide +kernel) (by decide +kernel), xWd_of (w := Cond.initialized (xY mX7_of).cls) 68 (by decide +kernel) (by decide +kernel), by decide +kernel, by decide +kernel⟩, xWd_of (w := Cond.instanceMethod (xY mX7_of)) 785 (by decide +kernel) (by decide +kernel), xWd_of (w := Cond.selects (xY mX7_of).cls (xY mX7_of) (xY mX7_of)) 28 (by decide +kernel) (by decide +kernel), by decide +kernel⟩
theorem isX7_looks : xIsV mX7_looks 0 := ⟨⟨by decide +kernel, xWd_of (w := Cond.code (xY mX7_looks) (xB mX7_looks) (xL mX7_looks) (xT mX7_looks)) 739 (by decide +kernel) (by decide +kernel), xWd_of (w := Cond.initialized (xY mX7_looks).cls) 68 (by decide +kernel) (by decide +kernel), by decide +kernel, by decide +kernel⟩, xWd_of (w := Cond.instanceMethod (xY mX7_looks)) 738 (by decide +kernel) (by decide +kernel), xWd_of (w := Cond.selects (xY mX7_looks).cls (xY mX7_looks) (xY mX7_looks)) 23 (by decide +kernel) (by decide +kernel), by decide +kernel⟩
theorem isX7_records : xIsV mX7_records 0 := ⟨⟨by decide +kernel, xWd_of (w := Cond.code (xY mX7_records) (xB mX7_records) (xL mX7_records) (xT mX7_records)) 766 (by decide +kernel) (by decide +kernel), xWd_of (w := Cond.initialized (xY mX7_records).cls) 68 (by decide +kernel) (by decide +kernel), by decide +kernel, by decide +kernel⟩, xWd_of (w := Cond.instanceMethod (xY mX7_records)) 765 (by decide +kernel) (by decide +kernel), xWd_of (w := Cond.selects (xY mX7_records).cls (xY mX7_records) (xY mX7_records)) 26 (by decide +kernel) (by decide +kernel), by decide +kernel⟩
theorem isX7_putAside : xIsV mX7_putAside 0 := ⟨⟨by decide +kernel, xWd_of (w := Cond.code (xY mX7_putAside) (xB mX7_putAside) (xL mX7_putAside) (xT mX7_putAside)) 966 (by decide +kernel) (by decide +kernel), xWd_of (w := Cond.initialized (xY mX7_putAside).cls) 68 (by decide +kernel) (by decide +kernel), by decide +kernel, by decide +kernel⟩, xWd_of (w := Cond.instanceMethod (xY mX7_putAside)) 965 (by decide +kernel) (by decide +kernel), xWd_of (w := Cond.selects (xY mX7_putAside).cls (xY mX7_putAside) (xY mX7_putAside)) 53 (by decide +kernel) (by decide +kernel), by decide +kernel⟩
theorem isX7_putBack : xIsV mX7_putBack 0 := ⟨⟨by decide +kernel, xWd_of (w := Cond.code (xY mX7_putBack) (xB mX7_putBack) (xL mX7_putBack) (xT mX7_putBack)) 982 (by decide +kernel) (by decide +kernel), xWd_of (w := Cond.initialized (xY mX7_putBack).cls) 68 (by decide +kernel) (by decide +kernel), by decide +kernel, by decide +kernel⟩, xWd_of (w := Cond.instanceMethod (xY mX7_putBack)) 981 (by decide +kernel) (by decide +kernel), xWd_of (w := Cond.selects (xY mX7_putBack).cls (xY mX7_putBack) (xY mX7_putBack)) 57 (by decide +kernel) (by decide +kernel), by decide +kernel⟩
theorem isX7_edgeAt : xIsS mX7_edgeAt 2 := ⟨⟨by decide +kernel, xWd_of (w := Cond.code (xY mX7_edgeAt) (xB mX7_edgeAt) (xL mX7_edgeAt) (xT mX7_edgeAt)) 755 (by decide +kernel) (by decide +kernel), xWd_of (w := Cond.initialized (xY mX7_edgeAt).cls) 68 (by decide +kernel) (by decide +kernel), by decide +kernel, by decide +kernel⟩, xWd_of (w := Cond.static (xY mX7_edgeAt)) 754 (by decide +kernel) (by decide +kernel), by decide +kernel⟩
theorem isX7_oneOf : xIsS mX7_oneOf 1 := ⟨⟨by decide +kernel, xWd_of (w := Cond.code (xY mX7_oneOf) (xB mX7_oneOf) (xL mX7_oneOf) (xT mX7_oneOf)) 845 (by decide +kernel) (by decide +kernel), xWd_of (w := Cond.initialized (xY mX7_oneOf).cls) 68 (by decide +kernel) (by decide +kernel), by decide +kernel, by decide +kernel⟩, xWd_of (w := Cond.static (xY mX7_oneOf)) 844 (by decide +kernel) (by decide +kernel), by decide +kernel⟩
theorem isX7_otherOf : xIsS mX7_otherOf 1 := ⟨⟨by decide +kernel, xWd_of (w := Cond.code (xY mX7_otherOf) (xB mX7_otherOf) (xL mX7_otherOf) (xT mX7_otherOf)) 848 (by decide +kernel) (by decide +kernel), xWd_of (w := Cond.initialized (xY mX7_otherOf).cls) 68 (by decide +kernel) (by decide +kernel), by decide +kernel, by decide +kernel⟩, xWd_of (w := Cond.static (xY mX7_otherOf)) 847 (by decide +kernel) (by decide +kernel), by decide +kernel⟩
theorem isX7_mark : xIsV mX7_mark 1 := ⟨⟨by decide +kernel, xWd_of (w := Cond.code (xY mX7_mark) (xB mX7_mark) (xL mX7_mark) (xT mX7_mark)) 842 (by decide +kernel) (by decide +kernel), xWd_of (w := Cond.initialized (xY mX7_mark).cls) 68 (by decide +kernel) (by decide +kernel), by decide +kernel, by decide +kernel⟩, xWd_of (w := Cond.instanceMethod (xY mX7_mark)) 841 (by decide +kernel) (by decide +kernel), xWd_of (w := Cond.selects (xY mX7_mark).cls (xY mX7_mark) (xY mX7_mark)) 41 (by decide +kernel) (by decide +kernel), by decide +kernel⟩
theorem isX7_freeIn : xIsV mX7_freeIn 1 := ⟨⟨by decide +kernel, xWd_of (w := Cond.code (xY mX7_freeIn) (xB mX7_freeIn) (xL mX7_freeIn) (xT mX7_freeIn)) 918 (by decide +kernel) (by decide +kernel), xWd_of (w := Cond.initialized (xY mX7_freeIn).cls) 68 (by decide +kernel) (by decide +kernel), by decide +kernel, by decide +kernel⟩, xWd_of (w := Cond.instanceMethod (xY mX7_freeIn)) 917 (by decide +kernel) (by decide +kernel), xWd_of (w := Cond.selects (xY mX7_freeIn).cls (xY mX7_freeIn) (xY mX7_freeIn)) 48 (by decide +kernel) (by decide +kernel), by decide +kernel⟩
theorem isX7_lowestIn : xIsV mX7_lowestIn 1 := ⟨⟨by decide +kernel, xWd_of (w := Cond.code (xY mX7_lowestIn) (xB mX7_lowestIn) (xL mX7_lowestIn) (xT mX7_lowestIn)) 922 (by decide +kernel) (by decide +kernel), xWd_of (w := Cond.initialized (xY mX7_lowestIn).cls) 68 (by decide +kernel) (by decide +kernel), by decide +kernel, by decide +kernel⟩, xWd_of (w := Cond.instanceMethod (xY mX7_lowestIn)) 921 (by decide +kernel) (by decide +kernel), xWd_of (w := Cond.selects (xY mX7_lowestIn).cls (xY mX7_lowestIn) (xY mX7_lowestIn)) 49 (by decide +kernel) (by decide +kernel), by decide +kernel⟩
theorem isX7_isTruce : xIsV mX7_isTruce 0 := ⟨⟨by decide +kernel, xWd_of (w := Cond.code (xY mX7_isTruce) (xB mX7_isTruce) (xL mX7_isTruce) (xT mX7_isTruce)) 834 (by decide +kernel) (by decide +kernel), xWd_of (w := Cond.initialized (xY mX7_isTruce).cls) 68 (by decide +kernel) (by decide +kernel), by decide +kernel, by decide +kernel⟩, xWd_of (w := Cond.instanceMethod (xY mX7_isTruce)) 833 (by decide +kernel) (by decide +kernel), xWd_of (w := Cond.selects (xY mX7_isTruce).cls (xY mX7_isTruce) (xY mX7_isTruce)) 39 (by decide +kernel) (by decide +kernel), by decide +kernel⟩
theorem isX7_whyEdge : xIsV mX7_whyEdge 2 := ⟨⟨by decide +kernel, xWd_of (w := Cond.code (xY mX7_whyEdge) (xB mX7_whyEdge) (xL mX7_whyEdge) (xT mX7_whyEdge)) 830 (by decide +kernel) (by decide +kernel), xWd_of (w := Cond.initialized (xY mX7_whyEdge).cls) 68 (by decide +kernel) (by decide +kernel), by decide +kernel, by decide +kernel⟩, xWd_of (w := Cond.instanceMethod (xY mX7_whyEdge)) 829 (by decide +kernel) (by decide +kernel), xWd_of (w := Cond.selects (xY mX7_whyEdge).cls (xY mX7_whyEdge) (xY mX7_whyEdge)) 38 (by decide +kernel) (by decide +kernel), by decide +kernel⟩
theorem isX7_whyClaim : xIsV mX7_whyClaim 1 := ⟨⟨by decide +kernel, xWd_of (w := Cond.code (xY mX7_whyClaim) (xB mX7_whyClaim) (xL mX7_whyClaim) (xT mX7_whyClaim)) 838 (by decide +kernel) (by decide +kernel), xWd_of (w := Cond.initialized (xY mX7_whyClaim).cls) 68 (by decide +kernel) (by decide +kernel), by decide +kernel, by decide +kernel⟩, xWd_of (w := Cond.instanceMethod (xY mX7_whyClaim)) 837 (by decide +kernel) (by decide +kernel), xWd_of (w := Cond.selects (xY mX7_whyClaim).cls (xY mX7_whyClaim) (xY mX7_whyClaim)) 40 (by decide +kernel) (by decide +kernel), by decide +kernel⟩
theorem isX7_isTaken : xIsV mX7_isTaken 1 := ⟨⟨by decide +kernel, xWd_of (w := Cond.code (xY mX7_isTaken) (xB mX7_isTaken) (xL mX7_isTaken) (xT mX7_isTaken)) 818 (by decide +kernel) (by decide +kernel), xWd_of (w := Cond.initialized (xY mX7_isTaken).cls) 68 (by decide +kernel) (by decide +kernel), by decide +kernel, by decide +kernel⟩, xWd_of (w := Cond.instanceMethod (xY mX7_isTaken)) 817 (by decide +kernel) (by decide +kernel), xWd_of (w := Cond.selects (xY mX7_isTaken).cls (xY mX7_isTaken) (xY mX7_isTaken)) 35 (by decide +kernel) (by decide +kernel), by decide +kernel⟩
theorem isX7_forgetsTaken : xIsV mX7_forgetsTaken 0 := ⟨⟨by decide +kernel, xWd_of (w := Cond.code (xY mX7_forgetsTaken) (xB mX7_forgetsTaken) (xL mX7_forgetsTaken) (xT mX7_forgetsTaken)) 822 (by decide +kernel) (by decide +kernel), xWd_of (w := Cond.initialized (xY mX7_forgetsTaken).cls) 68 (by decide +kernel) (by decide +kernel), by decide +kernel, by decide +kernel⟩, xWd_of (w := Cond.instanceMethod (xY mX7_forgetsTaken)) 821 (by decide +kernel) (by decide +kernel), xWd_of (w := Cond.selects (xY mX7_forgetsTaken).cls (xY mX7_forgetsTaken) (xY mX7_forgetsTaken)) 36 (by decide +kernel) (by decide +kernel), by decide +kernel⟩
theorem isX7_isSecond : xIsV mX7_isSecond 1 := ⟨⟨by decide +kernel, xWd_of (w := Cond.code (xY mX7_isSecond) (xB mX7_isSecond) (xL mX7_isSecond) (xT mX7_isSecond)) 806 (by decide +kernel) (by decide +kernel), xWd_of (w := Cond.initialized (xY mX7_isSecond).cls) 68 (by decide +kernel) (by decide +kernel), by decide +kernel, by decide +kernel⟩, xWd_of (w := Cond.instanceMethod (xY mX7_isSecond)) 805 (by decide +kernel) (by decide +kernel), xWd_of (w := Cond.selects (xY mX7_isSecond).cls (xY mX7_isSecond) (xY mX7_isSecond)) 32 (by decide +kernel) (by decide +kernel), by decide +kernel⟩
theorem isX7_edgeOf : xIsV mX7_edgeOf 1 := ⟨⟨by decide +kernel, xWd_of (w := Cond.code (xY mX7_edgeOf) (xB mX7_edgeOf) (xL mX7_edgeOf) (xT mX7_edgeOf)) 814 (by decide +kernel) (by decide +kernel), xWd_of (w := Cond.initialized (xY mX7_edgeOf).cls) 68 (by decide +kernel) (by decide +kernel), by decide +kernel, by decide +kernel⟩, xWd_of (w := Cond.instanceMethod (xY mX7_edgeOf)) 813 (by decide +kernel) (by decide +kernel), xWd_of (w := Cond.selects (xY mX7_edgeOf).cls (xY mX7_edgeOf) (xY mX7_edgeOf)) 34 (by decide +kernel) (by decide +kernel), by decide +kernel⟩
theorem isX7_does : xIsV mX7_does 1 := ⟨⟨by decide +kernel, xWd_of (w := Cond.code (xY mX7_does) (xB mX7_does) (xL mX7_does) (xT mX7_does)) 826 (by decide +kernel) (by decide +kernel), xWd_of (w := Cond.initialized (xY mX7_does).cls) 68 (by decide +kernel) (by decide +kernel), by decide +kernel, by decide +kernel⟩, xWd_of (w := Cond.instanceMethod (xY mX7_does)) 825 (by decide +kernel) (by decide +kernel), xWd_of (w := Cond.selects (xY mX7_does).cls (xY mX7_does) (xY mX7_does)) 37 (by decide +kernel) (by decide +kernel), by decide +kernel⟩
theorem isX7_doesSecond : xIsV mX7_doesSecond 1 := ⟨⟨by decide +kernel, xWd_of (w := Cond.code (xY mX7_doesSecond) (xB mX7_doesSecond) (xL mX7_doesSecond) (xT mX7_doesSecond)) 810 (by decide +kernel) (by decide +kernel), xWd_of (w := Cond.initialized (xY mX7_doesSecond).cls) 68 (by decide +kernel) (by decide +kernel), by decide +kernel, by decide +kernel⟩, xWd_of (w := Cond.instanceMethod (xY mX7_doesSecond)) 809 (by decide +kernel) (by decide +kernel), xWd_of (w := Cond.selects (xY mX7_doesSecond).cls (xY mX7_doesSecond) (xY mX7_doesSecond)) 33 (by decide +kernel) (by decide +kernel), by decide +kernel⟩
theorem isX7_comes : xIsV mX7_comes 1 := ⟨⟨by decide +kernel, xWd_of (w := Cond.code (xY mX7_comes) (xB mX7_comes) (xL mX7_comes) (xT mX7_comes)) 802 (by decide +kernel) (by decide +kernel), xWd_of (w := Cond.initialized (xY mX7_comes).cls) 68 (by decide +kernel) (by decide +kernel), by decide +kernel, by decide +kernel⟩, xWd_of (w := Cond.instanceMethod (xY mX7_comes)) 801 (by decide +kernel) (by decide +kernel), xWd_of (w := Cond.selects (xY mX7_comes).cls (xY mX7_comes) (xY mX7_comes)) 31 (by decide +kernel) (by decide +kernel), by decide +kernel⟩
theorem isX7_day : xIsV mX7_day 0 := ⟨⟨by decide +kernel, xWd_of (w := Cond.code (xY mX7_day) (xB mX7_day) (xL mX7_day) (xT mX7_day)) 798 (by decide +kernel) (by decide +kernel), xWd_of (w := Cond.initialized (xY mX7_day).cls) 68 (by decide +kernel) (by decide +kernel), by decide +kernel, by decide +kernel⟩, xWd_of (w := Cond.instanceMethod (xY mX7_day)) 797 (by decide +kernel) (by decide +kernel), xWd_of (w := Cond.selects (xY mX7_day).cls (xY mX7_day) (xY mX7_day)) 30 (by decide +kernel) (by decide +kernel), by decide +kernel⟩
theorem isX7_passes : xIsV mX7_passes 1 := ⟨⟨by decide +kernel, xWd_of (w := Cond.code (xY mX7_passes) (xB mX7_passes) (xL mX7_passes) (xT mX7_passes)) 794 (by decide +kernel) (by decide +kernel), xWd_of (w := Cond.initialized (xY mX7_passes).cls) 68 (by decide +kernel) (by decide +kernel), by decide +kernel, by decide +kernel⟩, xWd_of (w := Cond.instanceMethod (xY mX7_passes)) 793 (by decide +kernel) (by decide +kernel), xWd_of (w := Cond.selects (xY mX7_passes).cls (xY mX7_passes) (xY mX7_passes)) 29 (by decide +kernel) (by decide +kernel), by decide +kernel⟩
theorem isX7_writes : xIsV mX7_writes 4 := ⟨⟨by decide +kernel, xWd_of (w := Cond.code (xY mX7_writes) (xB mX7_writes) (xL mX7_writes) (xT mX7_writes)) 743 (by decide +kernel) (by decide +kernel), xWd_of (w := Cond.initialized (xY mX7_writes).cls) 68 (by decide +kernel) (by decide +kernel), by decide +kernel, by decide +kernel⟩, xWd_of (w := Cond.instanceMethod (xY mX7_writes)) 742 (by decide +kernel) (by decide +kernel), xWd_of (w := Cond.selects (xY mX7_writes).cls (xY mX7_writes) (xY mX7_writes)) 24 (by decide +kernel) (by decide +kernel), by decide +kernel⟩
theorem isX7_acted : xIsV mX7_acted 1 := ⟨⟨by decide +kernel, xWd_of (w := Cond.code (xY mX7_acted) (xB mX7_acted) (xL mX7_acted) (xT mX7_acted)) 762 (by decide +kernel) (by decide +kernel), xWd_of (w := Cond.initialized (xY mX7_acted).cls) 68 (by decide +kernel) (by decide +kernel), by decide +kernel, by decide +kernel⟩, xWd_of (w := Cond.instanceMethod (xY mX7_acted)) 761 (by decide +kernel) (by decide +kernel), xWd_of (w := Cond.selects (xY mX7_acted).cls (xY mX7_acted) (xY mX7_acted)) 25 (by decide +kernel) (by decide +kernel), by decide +kernel⟩
theorem isX7_writeEdge : xIsV mX7_writeEdge 4 := ⟨⟨by decide +kernel, xWd_of (w := Cond.code (xY mX7_writeEdge) (xB mX7_writeEdge) (xL mX7_writeEdge) (xT mX7_writeEdge)) 735 (by decide +kernel) (by decide +kernel), xWd_of (w := Cond.initialized (xY mX7_writeEdge).cls) 68 (by decide +kernel) (by decide +kernel), by decide +kernel, by decide +kernel⟩, xWd_of (w := Cond.instanceMethod (xY mX7_writeEdge)) 733 (by decide +kernel) (by decide +kernel), xWd_of (w := Cond.selects (xY mX7_writeEdge).cls (xY mX7_writeEdge) (xY mX7_writeEdge)) 734 (by decide +kernel) (by decide +kernel), by decide +kernel⟩
theorem isX7_writeClaim : xIsV mX7_writeClaim 2 := ⟨⟨by decide +kernel, xWd_of (w := Cond.code (xY mX7_writeClaim) (xB mX7_writeClaim) (xL mX7_writeClaim) (xT mX7_writeClaim)) 770 (by decide +kernel) (by decide +kernel), xWd_of (w := Cond.initialized (xY mX7_writeClaim).cls) 68 (by decide +kernel) (by decide +kernel), by decide +kernel, by decide +kernel⟩, xWd_of (w := Cond.instanceMethod (xY mX7_writeClaim)) 768 (by decide +kernel) (by decide +kernel), xWd_of (w := Cond.selects (xY mX7_writeClaim).cls (xY mX7_writeClaim) (xY mX7_writeClaim)) 769 (by decide +kernel) (by decide +kernel), by decide +kernel⟩
theorem isX7_writeTruce : xIsV mX7_writeTruce 2 := ⟨⟨by decide +kernel, xWd_of (w := Cond.code (xY mX7_writeTruce) (xB mX7_writeTruce) (xL mX7_writeTruce) (xT mX7_writeTruce)) 774 (by decide +kernel) (by decide +kernel), xWd_of (w := Cond.initialized (xY mX7_writeTruce).cls) 68 (by decide +kernel) (by decide +kernel), by decide +kernel, by decide +kernel⟩, xWd_of (w := Cond.instanceMethod (xY mX7_writeTruce)) 772 (by decide +kernel) (by decide +kernel), xWd_of (w := Cond.selects (xY mX7_writeTruce).cls (xY mX7_writeTruce) (xY mX7_writeTruce)) 773 (by decide +kernel) (by decide +kernel), by decide +kernel⟩
theorem isX7_callBack : xIsV mX7_callBack 1 := ⟨⟨by decide +kernel, xWd_of (w := Cond.code (xY mX7_callBack) (xB mX7_callBack) (xL mX7_callBack) (xT mX7_callBack)) 778 (by decide +kernel) (by decide +kernel), xWd_of (w := Cond.initialized (xY mX7_callBack).cls) 68 (by decide +kernel) (by decide +kernel), by decide +kernel, by decide +kernel⟩, xWd_of (w := Cond.instanceMethod (xY mX7_callBack)) 776 (by decide +kernel) (by decide +kernel), xWd_of (w := Cond.selects (xY mX7_callBack).cls (xY mX7_callBack) (xY mX7_callBack)) 777 (by decide +kernel) (by decide +kernel), by decide +kernel⟩
theorem isX7_pass : xIsV mX7_pass 1 := ⟨⟨by decide +kernel, xWd_of (w := Cond.code (xY mX7_pass) (xB mX7_pass) (xL mX7_pass) (xT mX7_pass)) 790 (by decide +kernel) (by decide +kernel), xWd_of (w := Cond.initialized (xY mX7_pass).cls) 68 (by decide +kernel) (by decide +kernel), by decide +kernel, by decide +kernel⟩, xWd_of (w := Cond.instanceMethod (xY mX7_pass)) 788 (by decide +kernel) (by decide +kernel), xWd_of (w := Cond.selects (xY mX7_pass).cls (xY mX7_pass) (xY mX7_pass)) 789 (by decide +kernel) (by decide +kernel), by decide +kernel⟩
theorem isX7_set : xIsV mX7_set 2 := ⟨⟨by decide +kernel, xWd_of (w := Cond.code (xY mX7_set) (xB mX7_set) (xL mX7_set) (xT mX7_set)) 852 (by decide +kernel) (by decide +kernel), xWd_of (w := Cond.initialized (xY mX7_set).cls) 68 (by decide +kernel) (by decide +kernel), by decide +kernel, by decide +kernel⟩, xWd_of (w := Cond.instanceMethod (xY mX7_set)) 850 (by decide +kernel) (by decide +kernel), xWd_of (w := Cond.selects (xY mX7_set).cls (xY mX7_set) (xY mX7_set)) 851 (by decide +kernel) (by decide +kernel), by decide +kernel⟩
theorem isX7_type : xIsV mX7_type 1 := ⟨⟨by decide +kernel, xWd_of (w := Cond.code (xY mX7_type) (xB mX7_type) (xL mX7_type) (xT mX7_type)) 856 (by decide +kernel) (by decide +kernel), xWd_of (w := Cond.initialized (xY mX7_type).cls) 68 (by decide +kernel) (by decide +kernel), by decide +kernel, by decide +kernel⟩, xWd_of (w := Cond.instanceMethod (xY mX7_type)) 854 (by decide +kernel) (by decide +kernel), xWd_of (w := Cond.selects (xY mX7_type).cls (xY mX7_type) (xY mX7_type)) 855 (by decide +kernel) (by decide +kernel), by decide +kernel⟩
theorem isX7_clearText : xIsV mX7_clearText 0 := ⟨⟨by decide +kernel, xWd_of (w := Cond.code (xY mX7_clearText) (xB mX7_clearText) (xL mX7_clearText) (xT mX7_clearText)) 860 (by decide +kernel) (by decide +kernel), xWd_of (w := Cond.initialized (xY mX7_clearText).cls) 68 (by decide +kernel) (by decide +kernel), by decide +kernel, by decide +kernel⟩, xWd_of (w := Cond.instanceMethod (xY mX7_clearText)) 858 (by decide +kernel) (by decide +kernel), xWd_of (w := Cond.selects (xY mX7_clearText).cls (xY mX7_clearText) (xY mX7_clearText)) 859 (by decide +kernel) (by decide +kernel), by decide +kernel⟩
theorem isX7_isNext : xIsV mX7_isNext 2 := ⟨⟨by decide +kernel, xWd_of (w := Cond.code (xY mX7_isNext) (xB mX7_isNext) (xL mX7_isNext) (xT mX7_isNext)) 876 (by decide +kernel) (by decide +kernel), xWd_of (w := Cond.initialized (xY mX7_isNext).cls) 68 (by decide +kernel) (by decide +kernel), by decide +kernel, by decide +kernel⟩, xWd_of (w := Cond.instanceMethod (xY mX7_isNext)) 875 (by decide +kernel) (by decide +kernel), xWd_of (w := Cond.selects (xY mX7_isNext).cls (xY mX7_isNext) (xY mX7_isNext)) 44 (by decide +kernel) (by decide +kernel), by decide +kernel⟩
theorem isX7_takes : xIsV mX7_takes 2 := ⟨⟨by decide +kernel, xWd_of (w := Cond.code (xY mX7_takes) (xB mX7_takes) (xL mX7_takes) (xT mX7_takes)) 880 (by decide +kernel) (by decide +kernel), xWd_of (w := Cond.initialized (xY mX7_takes).cls) 68 (by decide +kernel) (by decide +kernel), by decide +kernel, by decide +kernel⟩, xWd_of (w := Cond.instanceMethod (xY mX7_takes)) 879 (by decide +kernel) (by decide +kernel), xWd_of (w := Cond.selects (xY mX7_takes).cls (xY mX7_takes) (xY mX7_takes)) 45 (by decide +kernel) (by decide +kernel), by decide +kernel⟩
theorem isX7_takesNumber : xIsV mX7_takesNumber 2 := ⟨⟨by decide +kernel, xWd_of (w := Cond.code (xY mX7_takesNumber) (xB mX7_takesNumber) (xL mX7_takesNumber) (xT mX7_takesNumber)) 884 (by decide +kernel) (by decide +kernel), xWd_of (w := Cond.initialized (xY mX7_takesNumber).cls) 68 (by decide +kernel) (by decide +kernel), by decide +kernel, by decide +kernel⟩, xWd_of (w := Cond.instanceMethod (xY mX7_takesNumber)) 883 (by decide +kernel) (by decide +kernel), xWd_of (w := Cond.selects (xY mX7_takesNumber).cls (xY mX7_takesNumber) (xY mX7_takesNumber)) 46 (by decide +kernel) (by decide +kernel), by decide +kernel⟩
theorem isX7_takesSign : xIsV mX7_takesSign 2 := ⟨⟨by decide +kernel, xWd_of (w := Cond.code (xY mX7_takesSign) (xB mX7_takesSign) (xL mX7_takesSign) (xT mX7_takesSign)) 889 (by decide +kernel) (by decide +kernel), xWd_of (w := Cond.initialized (xY mX7_takesSign).cls) 68 (by decide +kernel) (by decide +kernel), by decide +kernel, by decide +kernel⟩, xWd_of (w := Cond.instanceMethod (xY mX7_takesSign)) 888 (by decide +kernel) (by decide +kernel), xWd_of (w := Cond.selects (xY mX7_takesSign).cls (xY mX7_takesSign) (xY mX7_takesSign)) 47 (by decide +kernel) (by decide +kernel), by decide +kernel⟩
theorem isX7_readThing : xIsV mX7_readThing 0 := ⟨⟨by decide +kernel, xWd_of (w := Cond.code (xY mX7_readThing) (xB mX7_readThing) (xL mX7_readThing) (xT mX7_readThing)) 872 (by decide +kernel) (by decide +kernel), xWd_of (w := Cond.initialized (xY mX7_readThing).cls) 68 (by decide +kernel) (by decide +kernel), by decide +kernel, by decide +kernel⟩, xWd_of (w := Cond.instanceMethod (xY mX7_readThing)) 871 (by decide +kernel) (by decide +kernel), xWd_of (w := Cond.selects (xY mX7_readThing).cls (xY mX7_readThing) (xY mX7_readThing)) 43 (by decide +kernel) (by decide +kernel), by decide +kernel⟩
theorem isX7_runs : xIsV mX7_runs 1 := ⟨⟨by decide +kernel, xWd_of (w := Cond.code (xY mX7_runs) (xB mX7_runs) (xL mX7_runs) (xT mX7_runs)) 868 (by decide +kernel) (by decide +kernel), xWd_of (w := Cond.initialized (xY mX7_runs).cls) 68 (by decide +kernel) (by decide +kernel), by decide +kernel, by decide +kernel⟩, xWd_of (w := Cond.instanceMethod (xY mX7_runs)) 867 (by decide +kernel) (by decide +kernel), xWd_of (w := Cond.selects (xY mX7_runs).cls (xY mX7_runs) (xY mX7_runs)) 42 (by decide +kernel) (by decide +kernel), by decide +kernel⟩
theorem isX7_perform : xIsV mX7_perform 0 := ⟨⟨by decide +kernel, xWd_of (w := Cond.code (xY mX7_perform) (xB mX7_perform) (xL mX7_perform) (xT mX7_perform)) 864 (by decide +kernel) (by decide +kernel), xWd_of (w := Cond.initialized (xY mX7_perform).cls) 68 (by decide +kernel) (by decide +kernel), by decide +kernel, by decide +kernel⟩, xWd_of (w := Cond.instanceMethod (xY mX7_perform)) 862 (by decide +kernel) (by decide +kernel), xWd_of (w := Cond.selects (xY mX7_perform).cls (xY mX7_perform) (xY mX7_perform)) 863 (by decide +kernel) (by decide +kernel), by decide +kernel⟩
theorem isX7_stopped : xIsV mX7_stopped 1 := ⟨⟨by decide +kernel, xWd_of (w := Cond.code (xY mX7_stopped) (xB mX7_stopped) (xL mX7_stopped) (xT mX7_stopped)) 894 (by decide +kernel) (by decide +kernel), xWd_of (w := Cond.initialized (xY mX7_stopped).cls) 68 (by decide +kernel) (by decide +kernel), by decide +kernel, by decide +kernel⟩, xWd_of (w := Cond.instanceMethod (xY mX7_stopped)) 892 (by decide +kernel) (by decide +kernel), xWd_of (w := Cond.selects (xY mX7_stopped).cls (xY mX7_stopped) (xY mX7_stopped)) 893 (by decide +kernel) (by decide +kernel), by decide +kernel⟩
theorem isX7_undo : xIsV mX7_undo 0 := ⟨⟨by decide +kernel, xWd_of (w := Cond.code (xY mX7_undo) (xB mX7_undo) (xL mX7_undo) (xT mX7_undo)) 898 (by decide +kernel) (by decide +kernel), xWd_of (w := Cond.initialized (xY mX7_undo).cls) 68 (by decide +kernel) (by decide +kernel), by decide +kernel, by decide +kernel⟩, xWd_of (w := Cond.instanceMethod (xY mX7_undo)) 896 (by decide +kernel) (by decide +kernel), xWd_of (w := Cond.selects (xY mX7_undo).cls (xY mX7_undo) (xY mX7_undo)) 897 (by decide +kernel) (by decide +kernel), by decide +kernel⟩
theorem isX7_keep : xIsV mX7_keep 0 := ⟨⟨by decide +kernel, xWd_of (w := Cond.code (xY mX7_keep) (xB mX7_keep) (xL mX7_keep) (xT mX7_keep)) 902 (by decide +kernel) (by decide +kernel), xWd_of (w := Cond.initialized (xY mX7_keep).cls) 68 (by decide +kernel) (by decide +kernel), by decide +kernel, by decide +kernel⟩, xWd_of (w := Cond.instanceMethod (xY mX7_keep)) 900 (by decide +kernel) (by decide +kernel), xWd_of (w := Cond.selects (xY mX7_keep).cls (xY mX7_keep) (xY mX7_keep)) 901 (by decide +kernel) (by decide +kernel), by decide +kernel⟩
theorem isX7_restore : xIsV mX7_restore 0 := ⟨⟨by decide +kernel, xWd_of (w := Cond.code (xY mX7_restore) (xB mX7_restore) (xL mX7_restore) (xT mX7_restore)) 906 (by decide +kernel) (by decide +kernel), xWd_of (w := Cond.initialized (xY mX7_restore).cls) 68 (by decide +kernel) (by decide +kernel), by decide +kernel, by decide +kernel⟩, xWd_of (w := Cond.instanceMethod (xY mX7_restore)) 904 (by decide +kernel) (by decide +kernel), xWd_of (w := Cond.selects (xY mX7_restore).cls (xY mX7_restore) (xY mX7_restore)) 905 (by decide +kernel) (by decide +kernel), by decide +kernel⟩
theorem isX7_edge : xIsV mX7_edge 2 := ⟨⟨by decide +kernel, xWd_of (w := Cond.code (xY mX7_edge) (xB mX7_edge) (xL mX7_edge) (xT mX7_edge)) 910 (by decide +kernel) (by decide +kernel), xWd_of (w := Cond.initialized (xY mX7_edge).cls) 68 (by decide +kernel) (by decide +kernel), by decide +kernel, by decide +kernel⟩, xWd_of (w := Cond.instanceMethod (xY mX7_edge)) 908 (by decide +kernel) (by decide +kernel), xWd_of (w := Cond.selects (xY mX7_edge).cls (xY mX7_edge) (xY mX7_edge)) 909 (by decide +kernel) (by decide +kernel), by decide +kernel⟩
theorem isX7_edgesOf : xIsV mX7_edgesOf 1 := ⟨⟨by decide +kernel, xWd_of (w := Cond.code (xY mX7_edgesOf) (xB mX7_edgesOf) (xL mX7_edgesOf) (xT mX7_edgesOf)) 926 (by decide +kernel) (by decide +kernel), xWd_of (w := Cond.initialized (xY mX7_edgesOf).cls) 68 (by decide +kernel) (by decide +kernel), by decide +kernel, by decide +kernel⟩, xWd_of (w := Cond.instanceMethod (xY mX7_edgesOf)) 925 (by decide +kernel) (by decide +kernel), xWd_of (w := Cond.selects (xY mX7_edgesOf).cls (xY mX7_edgesOf) (xY mX7_edgesOf)) 50 (by decide +kernel) (by decide +kernel), by decide +kernel⟩
theorem isX7_field : xIsV mX7_field 2 := ⟨⟨by decide +kernel, xWd_of (w := Cond.code (xY mX7_field) (xB mX7_field) (xL mX7_field) (xT mX7_field)) 914 (by decide +kernel) (by decide +kernel), xWd_of (w := Cond.initialized (xY mX7_field).cls) 68 (by decide +kernel) (by decide +kernel), by decide +kernel, by decide +kernel⟩, xWd_of (w := Cond.instanceMethod (xY mX7_field)) 912 (by decide +kernel) (by decide +kernel), xWd_of (w := Cond.selects (xY mX7_field).cls (xY mX7_field) (xY mX7_field)) 913 (by decide +kernel) (by decide +kernel), by decide +kernel⟩
theorem isX7_joined : xIsV mX7_joined 1 := ⟨⟨by decide +kernel, xWd_of (w := Cond.code (xY mX7_joined) (xB mX7_joined) (xL mX7_joined) (xT mX7_joined)) 930 (by decide +kernel) (by decide +kernel), xWd_of (w := Cond.initialized (xY mX7_joined).cls) 68 (by decide +kernel) (by decide +kernel), by decide +kernel, by decide +kernel⟩, xWd_of (w := Cond.instanceMethod (xY mX7_joined)) 928 (by decide +kernel) (by decide +kernel), xWd_of (w := Cond.selects (xY mX7_joined).cls (xY mX7_joined) (xY mX7_joined)) 929 (by decide +kernel) (by decide +kernel), by decide +kernel⟩
theorem isX7_letter : xIsV mX7_letter 2 := ⟨⟨by decide +kernel, xWd_of (w := Cond.code (xY mX7_letter) (xB mX7_letter) (xL mX7_letter) (xT mX7_letter)) 934 (by decide +kernel) (by decide +kernel), xWd_of (w := Cond.initialized (xY mX7_letter).cls) 68 (by decide +kernel) (by decide +kernel), by decide +kernel, by decide +kernel⟩, xWd_of (w := Cond.instanceMethod (xY mX7_letter)) 932 (by decide +kernel) (by decide +kernel), xWd_of (w := Cond.selects (xY mX7_letter).cls (xY mX7_letter) (xY mX7_letter)) 933 (by decide +kernel) (by decide +kernel), by decide +kernel⟩
theorem isX7_cross : xIsV mX7_cross 2 := ⟨⟨by decide +kernel, xWd_of (w := Cond.code (xY mX7_cross) (xB mX7_cross) (xL mX7_cross) (xT mX7_cross)) 942 (by decide +kernel) (by decide +kernel), xWd_of (w := Cond.initialized (xY mX7_cross).cls) 68 (by decide +kernel) (by decide +kernel), by decide +kernel, by decide +kernel⟩, xWd_of (w := Cond.instanceMethod (xY mX7_cross)) 941 (by decide +kernel) (by decide +kernel), xWd_of (w := Cond.selects (xY mX7_cross).cls (xY mX7_cross) (xY mX7_cross)) 51 (by decide +kernel) (by decide +kernel), by decide +kernel⟩
theorem isX7_crossed : xIsV mX7_crossed 2 := ⟨⟨by decide +kernel, xWd_of (w := Cond.code (xY mX7_crossed) (xB mX7_crossed) (xL mX7_crossed) (xT mX7_crossed)) 938 (by decide +kernel) (by decide +kernel), xWd_of (w := Cond.initialized (xY mX7_crossed).cls) 68 (by decide +kernel) (by decide +kernel), by decide +kernel, by decide +kernel⟩, xWd_of (w := Cond.instanceMethod (xY mX7_crossed)) 936 (by decide +kernel) (by decide +kernel), xWd_of (w := Cond.selects (xY mX7_crossed).cls (xY mX7_crossed) (xY mX7_crossed)) 937 (by decide +kernel) (by decide +kernel), by decide +kernel⟩
theorem isX7_reasonEdge : xIsV mX7_reasonEdge 3 := ⟨⟨by decide +kernel, xWd_of (w := Cond.code (xY mX7_reasonEdge) (xB mX7_reasonEdge) (xL mX7_reasonEdge) (xT mX7_reasonEdge)) 946 (by decide +kernel) (by decide +kernel), xWd_of (w := Cond.initialized (xY mX7_reasonEdge).cls) 68 (by decide +kernel) (by decide +kernel), by decide +kernel, by decide +kernel⟩, xWd_of (w := Cond.instanceMethod (xY mX7_reasonEdge)) 944 (by decide +kernel) (by decide +kernel), xWd_of (w := Cond.selects (xY mX7_reasonEdge).cls (xY mX7_reasonEdge) (xY mX7_reasonEdge)) 945 (by decide +kernel) (by decide +kernel), by decide +kernel⟩
theorem isX7_reasonClaim : xIsV mX7_reasonClaim 1 := ⟨⟨by decide +kernel, xWd_of (w := Cond.code (xY mX7_reasonClaim) (xB mX7_reasonClaim) (xL mX7_reasonClaim) (xT mX7_reasonClaim)) 950 (by decide +kernel) (by decide +kernel), xWd_of (w := Cond.initialized (xY mX7_reasonClaim).cls) 68 (by decide +kernel) (by decide +kernel), by decide +kernel, by decide +kernel⟩, xWd_of (w := Cond.instanceMethod (xY mX7_reasonClaim)) 948 (by decide +kernel) (by decide +kernel), xWd_of (w := Cond.selects (xY mX7_reasonClaim).cls (xY mX7_reasonClaim) (xY mX7_reasonClaim)) 949 (by decide +kernel) (by decide +kernel), by decide +kernel⟩
theorem isX7_nextLetter : xIsV mX7_nextLetter 0 := ⟨⟨by decide +kernel, xWd_of (w := Cond.code (xY mX7_nextLetter) (xB mX7_nextLetter) (xL mX7_nextLetter) (xT mX7_nextLetter)) 958 (by decide +kernel) (by decide +kernel), xWd_of (w := Cond.initialized (xY mX7_nextLetter).cls) 68 (by decide +kernel) (by decide +kernel), by decide +kernel, by decide +kernel⟩, xWd_of (w := Cond.instanceMethod (xY mX7_nextLetter)) 957 (by decide +kernel) (by decide +kernel), xWd_of (w := Cond.selects (xY mX7_nextLetter).cls (xY mX7_nextLetter) (xY mX7_nextLetter)) 52 (by decide +kernel) (by decide +kernel), by decide +kernel⟩
theorem isX7_next : xIsV mX7_next 1 := ⟨⟨by decide +kernel, xWd_of (w := Cond.code (xY mX7_next) (xB mX7_next) (xL mX7_next) (xT mX7_next)) 954 (by decide +kernel) (by decide +kernel), xWd_of (w := Cond.initialized (xY mX7_next).cls) 68 (by decide +kernel) (by decide +kernel), by decide +kernel, by decide +kernel⟩, xWd_of (w := Cond.instanceMethod (xY mX7_next)) 952 (by decide +kernel) (by decide +kernel), xWd_of (w := Cond.selects (xY mX7_next).cls (xY mX7_next) (xY mX7_next)) 953 (by decide +kernel) (by decide +kernel), by decide +kernel⟩
theorem isX7_lettersThat : xIsV mX7_lettersThat 1 := ⟨⟨by decide +kernel, xWd_of (w := Cond.code (xY mX7_lettersThat) (xB mX7_lettersThat) (xL mX7_lettersThat) (xT mX7_lettersThat)) 978 (by decide +kernel) (by decide +kernel), xWd_of (w := Cond.initialized (xY mX7_lettersThat).cls) 68 (by decide +kernel) (by decide +kernel), by decide +kernel, by decide +kernel⟩, xWd_of (w := Cond.instanceMethod (xY mX7_lettersThat)) 977 (by decide +kernel) (by decide +kernel), xWd_of (w := Cond.selects (xY mX7_lettersThat).cls (xY mX7_lettersThat) (xY mX7_lettersThat)) 56 (by decide +kernel) (by decide +kernel), by decide +kernel⟩
theorem isX7_edgesThat : xIsV mX7_edgesThat 1 := ⟨⟨by decide +kernel, xWd_of (w := Cond.code (xY mX7_edgesThat) (xB mX7_edgesThat) (xL mX7_edgesThat) (xT mX7_edgesThat)) 974 (by decide +kernel) (by decide +kernel), xWd_of (w := Cond.initialized (xY mX7_edgesThat).cls) 68 (by decide +kernel) (by decide +kernel), by decide +kernel, by decide +kernel⟩, xWd_of (w := Cond.instanceMethod (xY mX7_edgesThat)) 973 (by decide +kernel) (by decide +kernel), xWd_of (w := Cond.selects (xY mX7_edgesThat).cls (xY mX7_edgesThat) (xY mX7_edgesThat)) 55 (by decide +kernel) (by decide +kernel), by decide +kernel⟩
theorem isX7_fieldsOf : xIsV mX7_fieldsOf 1 := ⟨⟨by decide +kernel, xWd_of (w := Cond.code (xY mX7_fieldsOf) (xB mX7_fieldsOf) (xL mX7_fieldsOf) (xT mX7_fieldsOf)) 970 (by decide +kernel) (by decide +kernel), xWd_of (w := Cond.initialized (xY mX7_fieldsOf).cls) 68 (by decide +kernel) (by decide +kernel), by decide +kernel, by decide +kernel⟩, xWd_of (w := Cond.instanceMethod (xY mX7_fieldsOf)) 969 (by decide +kernel) (by decide +kernel), xWd_of (w := Cond.selects (xY mX7_fieldsOf).cls (xY mX7_fieldsOf) (xY mX7_fieldsOf)) 54 (by decide +kernel) (by decide +kernel), by decide +kernel⟩
theorem isX7_ifAllCome : xIsV mX7_ifAllCome 1 := ⟨⟨by decide +kernel, xWd_of (w := Cond.code (xY mX7_ifAllCome) (xB mX7_ifAllCome) (xL mX7_ifAllCome) (xT mX7_ifAllCome)) 962 (by decide +kernel) (by decide +kernel), xWd_of (w := Cond.initialized (xY mX7_ifAllCome).cls) 68 (by decide +kernel) (by decide +kernel), by decide +kernel, by decide +kernel⟩, xWd_of (w := Cond.instanceMethod (xY mX7_ifAllCome)) 960 (by decide +kernel) (by decide +kernel), xWd_of (w := Cond.selects (xY mX7_ifAllCome).cls (xY mX7_ifAllCome) (xY mX7_ifAllCome)) 961 (by decide +kernel) (by decide +kernel), by decide +kernel⟩
theorem isX7_bestClaim : xIsV mX7_bestClaim 1 := ⟨⟨by decide +kernel, xWd_of (w := Cond.code (xY mX7_bestClaim) (xB mX7_bestClaim) (xL mX7_bestClaim) (xT mX7_bestClaim)) 986 (by decide +kernel) (by decide +kernel), xWd_of (w := Cond.initialized (xY mX7_bestClaim).cls) 68 (by decide +kernel) (by decide +kernel), by decide +kernel, by decide +kernel⟩, xWd_of (w := Cond.instanceMethod (xY mX7_bestClaim)) 984 (by decide +kernel) (by decide +kernel), xWd_of (w := Cond.selects (xY mX7_bestClaim).cls (xY mX7_bestClaim) (xY mX7_bestClaim)) 985 (by decide +kernel) (by decide +kernel), by decide +kernel⟩
theorem isX7_regions : xIsV mX7_regions 0 := ⟨⟨by decide +kernel, xWd_of (w := Cond.code (xY mX7_regions) (xB mX7_regions) (xL mX7_regions) (xT mX7_regions)) 994 (by decide +kernel) (by decide +kernel), xWd_of (w := Cond.initialized (xY mX7_regions).cls) 68 (by decide +kernel) (by decide +kernel), by decide +kernel, by decide +kernel⟩, xWd_of (w := Cond.instanceMethod (xY mX7_regions)) 993 (by decide +kernel) (by decide +kernel), xWd_of (w := Cond.selects (xY mX7_regions).cls (xY mX7_regions) (xY mX7_regions)) 58 (by decide +kernel) (by decide +kernel), by decide +kernel⟩
theorem isX7_count : xIsV mX7_count 1 := ⟨⟨by decide +kernel, xWd_of (w := Cond.code (xY mX7_count) (xB mX7_count) (xL mX7_count) (xT mX7_count)) 990 (by decide +kernel) (by decide +kernel), xWd_of (w := Cond.initialized (xY mX7_count).cls) 68 (by decide +kernel) (by decide +kernel), by decide +kernel, by decide +kernel⟩, xWd_of (w := Cond.instanceMethod (xY mX7_count)) 988 (by decide +kernel) (by decide +kernel), xWd_of (w := Cond.selects (xY mX7_count).cls (xY mX7_count) (xY mX7_count)) 989 (by decide +kernel) (by decide +kernel), by decide +kernel⟩
theorem isJ7_fill_53178 : xIsS mJ7_fill_53178 2 := ⟨⟨by decide +kernel, xWd_of (w := Cond.code (xY mJ7_fill_53178) (xB mJ7_fill_53178) (xL mJ7_fill_53178) (xT mJ7_fill_53178)) 86 (by decide +kernel) (by decide +kernel), xWd_of (w := Cond.initialized (xY mJ7_fill_53178).cls) 62 (by decide +kernel) (by decide +kernel), by decide +kernel, by decide +kernel⟩, xWd_of (w := Cond.static (xY mJ7_fill_53178)) 85 (by decide +kernel) (by decide +kernel), by decide +kernel⟩
/-! links of the classes: calls, fields, classes, constants -/
theorem lcX0_3 : Cond.methodLink RX0 3 objectInit ∈ xWd := xWd_of (w := Cond.methodLink RX0 3 objectInit) 158 (by decide +kernel) (by decide +kernel)
theorem lfX0_9 : Cond.fieldLink RX0 9 (TX0 0).1 (TX0 0).2.1 (TX0 0).2.2.1 ∈ xWd := xWd_of (w := Cond.fieldLink RX0 9 (TX0 0).1 (TX0 0).2.1 (TX0 0).2.2.1) 159 (by decide +kernel) (by decide +kernel)
theorem lfX0_15 : Cond.fieldLink RX0 15 (TX0 4).1 (TX0 4).2.1 (TX0 4).2.2.1 ∈ xWd := xWd_of (w := Cond.fieldLink RX0 15 (TX0 4).1 (TX0 4).2.1 (TX0 4).2.2.1) 165 (by decide +kernel) (by decide +kernel)
theorem lfX0_19 : Cond.fieldLink RX0 19 (TX0 5).1 (TX0 5).2.1 (TX0 5).2.2.1 ∈ xWd := xWd_of (w := Cond.fieldLink RX0 19 (TX0 5).1 (TX0 5).2.1 (TX0 5).2.2.1) 167 (by decide +kernel) (by decide +kernel)
theorem lfX0_22 : Cond.fieldLink RX0 22 (TX0 6).1 (TX0 6).2.1 (TX0 6).2.2.1 ∈ xWd := xWd_of (w := Cond.fieldLink RX0 22 (TX0 6).1 (TX0 6).2.1 (TX0 6).2.2.1) 169 (by decide +kernel) (by decide +kernel)
theorem lfX0_25 : Cond.fieldLink RX0 25 (TX0 7).1 (TX0 7).2.1 (TX0 7).2.2.1 ∈ xWd := xWd_of (w := Cond.fieldLink RX0 25 (TX0 7).1 (TX0 7).2.1 (TX0 7).2.2.1) 171 (by decide +kernel) (by decide +kernel)
theorem lfX0_28 : Cond.fieldLink RX0 28 (TX0 1).1 (TX0 1).2.1 (TX0 1).2.2.1 ∈ xWd := xWd_of (w := Cond.fieldLink RX0 28 (TX0 1).1 (TX0 1).2.1 (TX0 1).2.2.1) 160 (by decide +kernel) (by decide +kernel)
theorem lfX0_32 : Cond.fieldLink RX0 32 (TX0 2).1 (TX0 2).2.1 (TX0 2).2.2.1 ∈ xWd := xWd_of (w := Cond.fieldLink RX0 32 (TX0 2).1 (TX0 2).2.1 (TX0 2).2.2.1) 162 (by decide +kernel) (by decide +kernel)
theorem lfX0_35 : Cond.fieldLink RX0 35 (TX0 3).1 (TX0 3).2.1 (TX0 3).2.2.1 ∈ xWd := xWd_of (w := Cond.fieldLink RX0 35 (TX0 3).1 (TX0 3).2.1 (TX0 3).2.2.1) 163 (by decide +kernel) (by decide +kernel)
theorem lcX0_38 : Cond.methodLink RX0 38 (xY mX0_readThing) ∈ xWd := xWd_of (w := Cond.methodLink RX0 38 (xY mX0_readThing)) 513 (by decide +kernel) (by decide +kernel)
theorem lcX0_42 : Cond.methodLink RX0 42 (xY mX0_look) ∈ xWd := xWd_of (w := Cond.methodLink RX0 42 (xY mX0_look)) 517 (by decide +kernel) (by decide +kernel)
theorem lcX0_46 : Cond.methodLink RX0 46 (xY mX0_readNumber) ∈ xWd := xWd_of (w := Cond.methodLink RX0 46 (xY mX0_readNumber)) 521 (by decide +kernel) (by decide +kernel)
theorem lcX0_50 : Cond.methodLink RX0 50 (xY mX0_readLetter) ∈ xWd := xWd_of (w := Cond.methodLink RX0 50 (xY mX0_readLetter)) 528 (by decide +kernel) (by decide +kernel)
theorem lcX0_53 : Cond.methodLink RX0 53 (xY mX0_kindOf) ∈ xWd := xWd_of (w := Cond.methodLink RX0 53 (xY mX0_kindOf)) 532 (by decide +kernel) (by decide +kernel)
theorem lcX0_57 : Cond.methodLink RX0 57 (xY mX0_readSide) ∈ xWd := xWd_of (w := Cond.methodLink RX0 57 (xY mX0_readSide)) 535 (by decide +kernel) (by decide +kernel)
theorem lcX0_60 : Cond.methodLink RX0 60 (xY mX0_digitOf) ∈ xWd := xWd_of (w := Cond.methodLink RX0 60 (xY mX0_digitOf)) 525 (by decide +kernel) (by decide +kernel)
theorem lcX0_63 : Cond.methodLink RX0 63 (xY mX0_sideOf) ∈ xWd := xWd_of (w := Cond.methodLink RX0 63 (xY mX0_sideOf)) 539 (by decide +kernel) (by decide +kernel)
theorem lcX1_3 : Cond.methodLink RX1 3 objectInit ∈ xWd := xWd_of (w := Cond.methodLink RX1 3 objectInit) 83 (by decide +kernel) (by decide +kernel)
theorem lfX1_9 : Cond.fieldLink RX1 9 (TX1 0).1 (TX1 0).2.1 (TX1 0).2.2.1 ∈ xWd := xWd_of (w := Cond.fieldLink RX1 9 (TX1 0).1 (TX1 0).2.1 (TX1 0).2.2.1) 97 (by decide +kernel) (by decide +kernel)
theorem lfX1_15 : Cond.fieldLink RX1 15 (TX1 1).1 (TX1 1).2.1 (TX1 1).2.2.1 ∈ xWd := xWd_of (w := Cond.fieldLink RX1 15 (TX1 1).1 (TX1 1).2.1 (TX1 1).2.2.1) 99 (by decide +kernel) (by decide +kernel)
theorem lfX1_18 : Cond.fieldLink RX1 18 (TX1 2).1 (TX1 2).2.1 (TX1 2).2.2.1 ∈ xWd := xWd_of (w := Cond.fieldLink RX1 18 (TX1 2).1 (TX1 2).2.1 (TX1 2).2.2.1) 101 (by decide +kernel) (by decide +kernel)
theorem lfX1_21 : Cond.fieldLink RX1 21 (TX1 3).1 (TX1 3).2.1 (TX1 3).2.2.1 ∈ xWd := xWd_of (w := Cond.fieldLink RX1 21 (TX1 3).1 (TX1 3).2.1 (TX1 3).2.2.1) 103 (by decide +kernel) (by decide +kernel)
theorem lcX1_24 : Cond.methodLink RX1 24 (xY mJ7_fill_53178) ∈ xWd := xWd_of (w := Cond.methodLink RX1 24 (xY mJ7_fill_53178)) 84 (by decide +kernel) (by decide +kernel)
theorem lcX1_30 : Cond.methodLink RX1 30 (xY mX1_layEdge) ∈ xWd := xWd_of (w := Cond.methodLink RX1 30 (xY mX1_layEdge)) 87 (by decide +kernel) (by decide +kernel)
theorem lnX1_34 : Cond.methodLinkNest RX1 34 (xY mX6_isEdge) "FenceDuel" ∈ xNw := xNw_of (w := Cond.methodLinkNest RX1 34 (xY mX6_isEdge) "FenceDuel") 32 (by decide +kernel) rfl
theorem lnX1_38 : Cond.methodLinkNest RX1 38 (xY mX6_isField) "FenceDuel" ∈ xNw := xNw_of (w := Cond.methodLinkNest RX1 38 (xY mX6_isField) "FenceDuel") 35 (by decide +kernel) rfl
theorem lcX2_3 : Cond.methodLink RX2 3 objectInit ∈ xWd := xWd_of (w := Cond.methodLink RX2 3 objectInit) 196 (by decide +kernel) (by decide +kernel)
theorem llX2_9 : Cond.classLink RX2 9 RX5 ∈ xWd := xWd_of (w := Cond.classLink RX2 9 RX5) 197 (by decide +kernel) (by decide +kernel)
theorem lcX2_11 : Cond.methodLink RX2 11 (xY mX5_init) ∈ xWd := xWd_of (w := Cond.methodLink RX2 11 (xY mX5_init)) 200 (by decide +kernel) (by decide +kernel)
theorem lfX2_12 : Cond.fieldLink RX2 12 (TX2 0).1 (TX2 0).2.1 (TX2 0).2.2.1 ∈ xWd := xWd_of (w := Cond.fieldLink RX2 12 (TX2 0).1 (TX2 0).2.1 (TX2 0).2.2.1) 244 (by decide +kernel) (by decide +kernel)
theorem lfX2_18 : Cond.fieldLink RX2 18 (TX2 1).1 (TX2 1).2.1 (TX2 1).2.2.1 ∈ xWd := xWd_of (w := Cond.fieldLink RX2 18 (TX2 1).1 (TX2 1).2.1 (TX2 1).2.2.1) 245 (by decide +kernel) (by decide +kernel)
theorem lcX2_22 : Cond.methodLink RX2 22 (xY mX5_takeFrom) ∈ xWd := xWd_of (w := Cond.methodLink RX2 22 (xY mX5_takeFrom)) 340 (by decide +kernel) (by decide +kernel)
theorem lfX2_26 : Cond.fieldLink RX2 26 (TX2 2).1 (TX2 2).2.1 (TX2 2).2.2.1 ∈ xWd := xWd_of (w := Cond.fieldLink RX2 26 (TX2 2).1 (TX2 2).2.1 (TX2 2).2.2.1) 246 (by decide +kernel) (by decide +kernel)
theorem lcX3_3 : Cond.methodLink RX3 3 objectInit ∈ xWd := xWd_of (w := Cond.methodLink RX3 3 objectInit) 145 (by decide +kernel) (by decide +kernel)
theorem lfX3_9 : Cond.fieldLink RX3 9 (TX3 0).1 (TX3 0).2.1 (TX3 0).2.2.1 ∈ xWd := xWd_of (w := Cond.fieldLink RX3 9 (TX3 0).1 (TX3 0).2.1 (TX3 0).2.2.1) 146 (by decide +kernel) (by decide +kernel)
theorem lfX3_15 : Cond.fieldLink RX3 15 (TX3 1).1 (TX3 1).2.1 (TX3 1).2.2.1 ∈ xWd := xWd_of (w := Cond.fieldLink RX3 15 (TX3 1).1 (TX3 1).2.1 (TX3 1).2.2.1) 147 (by decide +kernel) (by decide +kernel)
theorem lcX3_19 : Cond.methodLink RX3 19 (xY mX5_soonest) ∈ xWd := xWd_of (w := Cond.methodLink RX3 19 (xY mX5_soonest)) 380 (by decide +kernel) (by decide +kernel)
theorem lcX3_25 : Cond.methodLink RX3 25 (xY mX5_told) ∈ xWd := xWd_of (w := Cond.methodLink RX3 25 (xY mX5_told)) 385 (by decide +kernel) (by decide +kernel)
theorem lfX3_29 : Cond.fieldLink RX3 29 (TX5 0).1 (TX5 0).2.1 (TX5 0).2.2.1 ∈ xWd := xWd_of (w := Cond.fieldLink RX3 29 (TX5 0).1 (TX5 0).2.1 (TX5 0).2.2.1) 206 (by decide +kernel) (by decide +kernel)
theorem lcX3_33 : Cond.methodLink RX3 33 (xY mX3_bring) ∈ xWd := xWd_of (w := Cond.methodLink RX3 33 (xY mX3_bring)) 386 (by decide +kernel) (by decide +kernel)
theorem lcX3_37 : Cond.methodLink RX3 37 (xY mX5_enterTurn) ∈ xWd := xWd_of (w := Cond.methodLink RX3 37 (xY mX5_enterTurn)) 390 (by decide +kernel) (by decide +kernel)
theorem lcX3_41 : Cond.methodLink RX3 41 (xY mX3_growsHedge) ∈ xWd := xWd_of (w := Cond.methodLink RX3 41 (xY mX3_growsHedge)) 398 (by decide +kernel) (by decide +kernel)
theorem lcX3_45 : Cond.methodLink RX3 45 (xY mX3_edgeOf) ∈ xWd := xWd_of (w := Cond.methodLink RX3 45 (xY mX3_edgeOf)) 406 (by decide +kernel) (by decide +kernel)
theorem lcX3_49 : Cond.methodLink RX3 49 (xY mX5_putOnEdge) ∈ xWd := xWd_of (w := Cond.methodLink RX3 49 (xY mX5_putOnEdge)) 419 (by decide +kernel) (by decide +kernel)
theorem lcX3_53 : Cond.methodLink RX3 53 (xY mX3_makesVoid) ∈ xWd := xWd_of (w := Cond.methodLink RX3 53 (xY mX3_makesVoid)) 423 (by decide +kernel) (by decide +kernel)
theorem lcX3_56 : Cond.methodLink RX3 56 (xY mX5_giveBackFieldsOf) ∈ xWd := xWd_of (w := Cond.methodLink RX3 56 (xY mX5_giveBackFieldsOf)) 432 (by decide +kernel) (by decide +kernel)
theorem lcX3_60 : Cond.methodLink RX3 60 (xY mX3_reasonAgainst) ∈ xWd := xWd_of (w := Cond.methodLink RX3 60 (xY mX3_reasonAgainst)) 436 (by decide +kernel) (by decide +kernel)
theorem lcX3_63 : Cond.methodLink RX3 63 (xY mX3_carryOut) ∈ xWd := xWd_of (w := Cond.methodLink RX3 63 (xY mX3_carryOut)) 471 (by decide +kernel) (by decide +kernel)
theorem lcX3_66 : Cond.methodLink RX3 66 (xY mX5_mark) ∈ xWd := xWd_of (w := Cond.methodLink RX3 66 (xY mX5_mark)) 484 (by decide +kernel) (by decide +kernel)
theorem lcX3_70 : Cond.methodLink RX3 70 (xY mX5_wasDone) ∈ xWd := xWd_of (w := Cond.methodLink RX3 70 (xY mX5_wasDone)) 402 (by decide +kernel) (by decide +kernel)
theorem lcX3_74 : Cond.methodLink RX3 74 (xY mX5_onEdge) ∈ xWd := xWd_of (w := Cond.methodLink RX3 74 (xY mX5_onEdge)) 411 (by decide +kernel) (by decide +kernel)
theorem lnX3_77 : Cond.methodLinkNest RX3 77 (xY mX6_fenceOf) "FenceDuel" ∈ xNw := xNw_of (w := Cond.methodLinkNest RX3 77 (xY mX6_fenceOf) "FenceDuel") 357 (by decide +kernel) rfl
theorem lcX3_80 : Cond.methodLink RX3 80 (xY mX5_takerOf) ∈ xWd := xWd_of (w := Cond.methodLink RX3 80 (xY mX5_takerOf)) 427 (by decide +kernel) (by decide +kernel)
theorem lcX3_83 : Cond.methodLink RX3 83 (xY mX3_reasonAgainstFence) ∈ xWd := xWd_of (w := Cond.methodLink RX3 83 (xY mX3_reasonAgainstFence)) 440 (by decide +kernel) (by decide +kernel)
theorem lcX3_86 : Cond.methodLink RX3 86 (xY mX3_reasonAgainstGap) ∈ xWd := xWd_of (w := Cond.methodLink RX3 86 (xY mX3_reasonAgainstGap)) 444 (by decide +kernel) (by decide +kernel)
theorem lcX3_89 : Cond.methodLink RX3 89 (xY mX4_survey) ∈ xWd := xWd_of (w := Cond.methodLink RX3 89 (xY mX4_survey)) 452 (by decide +kernel) (by decide +kernel)
theorem lcX3_95 : Cond.methodLink RX3 95 (xY mX3_reasonAgainstClaim) ∈ xWd := xWd_of (w := Cond.methodLink RX3 95 (xY mX3_reasonAgainstClaim)) 463 (by decide +kernel) (by decide +kernel)
theorem lcX3_98 : Cond.methodLink RX3 98 (xY mX5_hasTruce) ∈ xWd := xWd_of (w := Cond.methodLink RX3 98 (xY mX5_hasTruce)) 448 (by decide +kernel) (by decide +kernel)
theorem lcX3_102 : Cond.methodLink RX3 102 (xY mX4_sizeAround) ∈ xWd := xWd_of (w := Cond.methodLink RX3 102 (xY mX4_sizeAround)) 467 (by decide +kernel) (by decide +kernel)
theorem lfX3_105 : Cond.fieldLink RX3 105 (TX5 4).1 (TX5 4).2.1 (TX5 4).2.2.1 ∈ xWd := xWd_of (w := Cond.fieldLink RX3 105 (TX5 4).1 (TX5 4).2.1 (TX5 4).2.2.1) 215 (by decide +kernel) (by decide +kernel)
theorem lcX3_109 : Cond.methodLink RX3 109 (xY mX3_takeRegion) ∈ xWd := xWd_of (w := Cond.methodLink RX3 109 (xY mX3_takeRegion)) 475 (by decide +kernel) (by decide +kernel)
theorem lnX3_112 : Cond.methodLinkNest RX3 112 (xY mX6_isPlayer) "FenceDuel" ∈ xNw := xNw_of (w := Cond.methodLinkNest RX3 112 (xY mX6_isPlayer) "FenceDuel") 424 (by decide +kernel) rfl
theorem lfX3_116 : Cond.fieldLink RX3 116 (TX5 5).1 (TX5 5).2.1 (TX5 5).2.2.1 ∈ xWd := xWd_of (w := Cond.fieldLink RX3 116 (TX5 5).1 (TX5 5).2.1 (TX5 5).2.2.1) 217 (by decide +kernel) (by decide +kernel)
theorem lcX3_119 : Cond.methodLink RX3 119 (xY mX4_lowestAround) ∈ xWd := xWd_of (w := Cond.methodLink RX3 119 (xY mX4_lowestAround)) 479 (by decide +kernel) (by decide +kernel)
theorem lfX3_122 : Cond.fieldLink RX3 122 (TX5 7).1 (TX5 7).2.1 (TX5 7).2.2.1 ∈ xWd := xWd_of (w := Cond.fieldLink RX3 122 (TX5 7).1 (TX5 7).2.1 (TX5 7).2.2.1) 223 (by decide +kernel) (by decide +kernel)
theorem lcX3_125 : Cond.methodLink RX3 125 (xY mX1_edgeNumber) ∈ xWd := xWd_of (w := Cond.methodLink RX3 125 (xY mX1_edgeNumber)) 410 (by decide +kernel) (by decide +kernel)
theorem lcX4_3 : Cond.methodLink RX4 3 objectInit ∈ xWd := xWd_of (w := Cond.methodLink RX4 3 objectInit) 120 (by decide +kernel) (by decide +kernel)
theorem lfX4_9 : Cond.fieldLink RX4 9 (TX4 1).1 (TX4 1).2.1 (TX4 1).2.2.1 ∈ xWd := xWd_of (w := Cond.fieldLink RX4 9 (TX4 1).1 (TX4 1).2.1 (TX4 1).2.2.1) 122 (by decide +kernel) (by decide +kernel)
theorem lfX4_15 : Cond.fieldLink RX4 15 (TX4 2).1 (TX4 2).2.1 (TX4 2).2.2.1 ∈ xWd := xWd_of (w := Cond.fieldLink RX4 15 (TX4 2).1 (TX4 2).2.1 (TX4 2).2.2.1) 123 (by decide +kernel) (by decide +kernel)
theorem lfX4_18 : Cond.fieldLink RX4 18 (TX4 3).1 (TX4 3).2.1 (TX4 3).2.2.1 ∈ xWd := xWd_of (w := Cond.fieldLink RX4 18 (TX4 3).1 (TX4 3).2.1 (TX4 3).2.2.1) 124 (by decide +kernel) (by decide +kernel)
theorem lfX4_21 : Cond.fieldLink RX4 21 (TX4 4).1 (TX4 4).2.1 (TX4 4).2.2.1 ∈ xWd := xWd_of (w := Cond.fieldLink RX4 21 (TX4 4).1 (TX4 4).2.1 (TX4 4).2.2.1) 125 (by decide +kernel) (by decide +kernel)
theorem lfX4_24 : Cond.fieldLink RX4 24 (TX4 5).1 (TX4 5).2.1 (TX4 5).2.2.1 ∈ xWd := xWd_of (w := Cond.fieldLink RX4 24 (TX4 5).1 (TX4 5).2.1 (TX4 5).2.2.1) 126 (by decide +kernel) (by decide +kernel)
theorem lfX4_27 : Cond.fieldLink RX4 27 (TX4 0).1 (TX4 0).2.1 (TX4 0).2.2.1 ∈ xWd := xWd_of (w := Cond.fieldLink RX4 27 (TX4 0).1 (TX4 0).2.1 (TX4 0).2.2.1) 121 (by decide +kernel) (by decide +kernel)
theorem lcX4_31 : Cond.methodLink RX4 31 (xY mJ7_fill_53178) ∈ xWd := xWd_of (w := Cond.methodLink RX4 31 (xY mJ7_fill_53178)) 456 (by decide +kernel) (by decide +kernel)
theorem lcX4_37 : Cond.methodLink RX4 37 (xY mX4_spreadFrom) ∈ xWd := xWd_of (w := Cond.methodLink RX4 37 (xY mX4_spreadFrom)) 457 (by decide +kernel) (by decide +kernel)
theorem lfX4_41 : Cond.fieldLink RX4 41 (TX5 7).1 (TX5 7).2.1 (TX5 7).2.2.1 ∈ xWd := xWd_of (w := Cond.fieldLink RX4 41 (TX5 7).1 (TX5 7).2.1 (TX5 7).2.2.1) 222 (by decide +kernel) (by decide +kernel)
theorem lfX4_46 : Cond.fieldLink RX4 46 (TX1 1).1 (TX1 1).2.1 (TX1 1).2.2.1 ∈ xWd := xWd_of (w := Cond.fieldLink RX4 46 (TX1 1).1 (TX1 1).2.1 (TX1 1).2.2.1) 100 (by decide +kernel) (by decide +kernel)
theorem lfX4_51 : Cond.fieldLink RX4 51 (TX1 0).1 (TX1 0).2.1 (TX1 0).2.2.1 ∈ xWd := xWd_of (w := Cond.fieldLink RX4 51 (TX1 0).1 (TX1 0).2.1 (TX1 0).2.2.1) 98 (by decide +kernel) (by decide +kernel)
theorem lnX4_54 : Cond.methodLinkNest RX4 54 (xY mX6_isEdge) "FenceDuel" ∈ xNw := xNw_of (w := Cond.methodLinkNest RX4 54 (xY mX6_isEdge) "FenceDuel") 402 (by decide +kernel) rfl
theorem lnX4_58 : Cond.methodLinkNest RX4 58 (xY mX6_isField) "FenceDuel" ∈ xNw := xNw_of (w := Cond.methodLinkNest RX4 58 (xY mX6_isField) "FenceDuel") 403 (by decide +kernel) rfl
theorem lfX4_61 : Cond.fieldLink RX4 61 (TX5 6).1 (TX5 6).2.1 (TX5 6).2.2.1 ∈ xWd := xWd_of (w := Cond.fieldLink RX4 61 (TX5 6).1 (TX5 6).2.1 (TX5 6).2.2.1) 220 (by decide +kernel) (by decide +kernel)
theorem lfX4_64 : Cond.fieldLink RX4 64 (TX1 3).1 (TX1 3).2.1 (TX1 3).2.2.1 ∈ xWd := xWd_of (w := Cond.fieldLink RX4 64 (TX1 3).1 (TX1 3).2.1 (TX1 3).2.2.1) 104 (by decide +kernel) (by decide +kernel)
theorem lfX4_67 : Cond.fieldLink RX4 67 (TX1 2).1 (TX1 2).2.1 (TX1 2).2.2.1 ∈ xWd := xWd_of (w := Cond.fieldLink RX4 67 (TX1 2).1 (TX1 2).2.1 (TX1 2).2.2.1) 102 (by decide +kernel) (by decide +kernel)
theorem lcX4_70 : Cond.methodLink RX4 70 (xY mX4_relabel) ∈ xWd := xWd_of (w := Cond.methodLink RX4 70 (xY mX4_relabel)) 603 (by decide +kernel) (by decide +kernel)
theorem lcX4_74 : Cond.methodLink RX4 74 (xY mX4_countLabel) ∈ xWd := xWd_of (w := Cond.methodLink RX4 74 (xY mX4_countLabel)) 607 (by decide +kernel) (by decide +kernel)
theorem lcX5_3 : Cond.methodLink RX5 3 objectInit ∈ xWd := xWd_of (w := Cond.methodLink RX5 3 objectInit) 203 (by decide +kernel) (by decide +kernel)
theorem lfX5_9 : Cond.fieldLink RX5 9 (TX5 3).1 (TX5 3).2.1 (TX5 3).2.2.1 ∈ xWd := xWd_of (w := Cond.fieldLink RX5 9 (TX5 3).1 (TX5 3).2.1 (TX5 3).2.2.1) 212 (by decide +kernel) (by decide +kernel)
theorem lfX5_15 : Cond.fieldLink RX5 15 (TX5 4).1 (TX5 4).2.1 (TX5 4).2.2.1 ∈ xWd := xWd_of (w := Cond.fieldLink RX5 15 (TX5 4).1 (TX5 4).2.1 (TX5 4).2.2.1) 213 (by decide +kernel) (by decide +kernel)
theorem lfX5_19 : Cond.fieldLink RX5 19 (TX5 5).1 (TX5 5).2.1 (TX5 5).2.2.1 ∈ xWd := xWd_of (w := Cond.fieldLink RX5 19 (TX5 5).1 (TX5 5).2.1 (TX5 5).2.2.1) 216 (by decide +kernel) (by decide +kernel)
theorem lfX5_22 : Cond.fieldLink RX5 22 (TX5 6).1 (TX5 6).2.1 (TX5 6).2.2.1 ∈ xWd := xWd_of (w := Cond.fieldLink RX5 22 (TX5 6).1 (TX5 6).2.1 (TX5 6).2.2.1) 219 (by decide +kernel) (by decide +kernel)
theorem lfX5_25 : Cond.fieldLink RX5 25 (TX5 7).1 (TX5 7).2.1 (TX5 7).2.2.1 ∈ xWd := xWd_of (w := Cond.fieldLink RX5 25 (TX5 7).1 (TX5 7).2.1 (TX5 7).2.2.1) 221 (by decide +kernel) (by decide +kernel)
theorem lfX5_28 : Cond.fieldLink RX5 28 (TX5 8).1 (TX5 8).2.1 (TX5 8).2.2.1 ∈ xWd := xWd_of (w := Cond.fieldLink RX5 28 (TX5 8).1 (TX5 8).2.1 (TX5 8).2.2.1) 224 (by decide +kernel) (by decide +kernel)
theorem lcX5_31 : Cond.methodLink RX5 31 (xY mJ7_fill_53178) ∈ xWd := xWd_of (w := Cond.methodLink RX5 31 (xY mJ7_fill_53178)) 204 (by decide +kernel) (by decide +kernel)
theorem lfX5_37 : Cond.fieldLink RX5 37 (TX5 0).1 (TX5 0).2.1 (TX5 0).2.2.1 ∈ xWd := xWd_of (w := Cond.fieldLink RX5 37 (TX5 0).1 (TX5 0).2.1 (TX5 0).2.2.1) 205 (by decide +kernel) (by decide +kernel)
theorem lfX5_40 : Cond.fieldLink RX5 40 (TX5 1).1 (TX5 1).2.1 (TX5 1).2.2.1 ∈ xWd := xWd_of (w := Cond.fieldLink RX5 40 (TX5 1).1 (TX5 1).2.1 (TX5 1).2.2.1) 208 (by decide +kernel) (by decide +kernel)
theorem lfX5_43 : Cond.fieldLink RX5 43 (TX5 2).1 (TX5 2).2.1 (TX5 2).2.2.1 ∈ xWd := xWd_of (w := Cond.fieldLink RX5 43 (TX5 2).1 (TX5 2).2.1 (TX5 2).2.2.1) 210 (by decide +kernel) (by decide +kernel)
theorem lcX5_46 : Cond.methodLink RX5 46 arraycopyName ∈ xWd := xWd_of (w := Cond.methodLink RX5 46 arraycopyName) 305 (by decide +kernel) (by decide +kernel)
theorem lcX5_52 : Cond.methodLink RX5 52 (xY mX5_hasLetter) ∈ xWd := xWd_of (w := Cond.methodLink RX5 52 (xY mX5_hasLetter)) 328 (by decide +kernel) (by decide +kernel)
theorem lcX5_56 : Cond.methodLink RX5 56 (xY mX5_mark) ∈ xWd := xWd_of (w := Cond.methodLink RX5 56 (xY mX5_mark)) 324 (by decide +kernel) (by decide +kernel)
theorem lcX5_60 : Cond.methodLink RX5 60 (xY mX5_told) ∈ xWd := xWd_of (w := Cond.methodLink RX5 60 (xY mX5_told)) 384 (by decide +kernel) (by decide +kernel)
theorem lcX5_64 : Cond.methodLink RX5 64 (xY mX5_haveCrossed) ∈ xWd := xWd_of (w := Cond.methodLink RX5 64 (xY mX5_haveCrossed)) 394 (by decide +kernel) (by decide +kernel)
theorem lnX5_68 : Cond.methodLinkNest RX5 68 (xY mX6_isEdge) "FenceDuel" ∈ xNw := xNw_of (w := Cond.methodLinkNest RX5 68 (xY mX6_isEdge) "FenceDuel") 356 (by decide +kernel) rfl
theorem lnX5_71 : Cond.methodLinkNest RX5 71 (xY mX6_isField) "FenceDuel" ∈ xNw := xNw_of (w := Cond.methodLinkNest RX5 71 (xY mX6_isField) "FenceDuel") 372 (by decide +kernel) rfl
theorem lcX5_74 : Cond.methodLink RX5 74 (xY mX5_takerOf) ∈ xWd := xWd_of (w := Cond.methodLink RX5 74 (xY mX5_takerOf)) 584 (by decide +kernel) (by decide +kernel)
theorem lcX5_78 : Cond.methodLink RX5 78 (xY mX5_ownerOf) ∈ xWd := xWd_of (w := Cond.methodLink RX5 78 (xY mX5_ownerOf)) 652 (by decide +kernel) (by decide +kernel)
theorem lcX6_1 : Cond.methodLink RX6 1 objectInit ∈ xWd := xWd_of (w := Cond.methodLink RX6 1 objectInit) 75 (by decide +kernel) (by decide +kernel)
theorem llX6_7 : Cond.classLink RX6 7 RX1 ∈ xWd := xWd_of (w := Cond.classLink RX6 7 RX1) 78 (by decide +kernel) (by decide +kernel)
theorem lcX6_9 : Cond.methodLink RX6 9 (xY mX1_init) ∈ xWd := xWd_of (w := Cond.methodLink RX6 9 (xY mX1_init)) 80 (by decide +kernel) (by decide +kernel)
theorem lfX6_10 : Cond.fieldLink RX6 10 (TX6 0).1 (TX6 0).2.1 (TX6 0).2.2.1 ∈ xWd := xWd_of (w := Cond.fieldLink RX6 10 (TX6 0).1 (TX6 0).2.1 (TX6 0).2.2.1) 257 (by decide +kernel) (by decide +kernel)
theorem llX6_16 : Cond.classLink RX6 16 RX4 ∈ xWd := xWd_of (w := Cond.classLink RX6 16 RX4) 115 (by decide +kernel) (by decide +kernel)
theorem lcX6_18 : Cond.methodLink RX6 18 (xY mX4_init) ∈ xWd := xWd_of (w := Cond.methodLink RX6 18 (xY mX4_init)) 117 (by decide +kernel) (by decide +kernel)
theorem lfX6_21 : Cond.fieldLink RX6 21 (TX6 1).1 (TX6 1).2.1 (TX6 1).2.2.1 ∈ xWd := xWd_of (w := Cond.fieldLink RX6 21 (TX6 1).1 (TX6 1).2.1 (TX6 1).2.2.1) 258 (by decide +kernel) (by decide +kernel)
theorem llX6_25 : Cond.classLink RX6 25 RX3 ∈ xWd := xWd_of (w := Cond.classLink RX6 25 RX3) 140 (by decide +kernel) (by decide +kernel)
theorem lcX6_27 : Cond.methodLink RX6 27 (xY mX3_init) ∈ xWd := xWd_of (w := Cond.methodLink RX6 27 (xY mX3_init)) 142 (by decide +kernel) (by decide +kernel)
theorem lfX6_30 : Cond.fieldLink RX6 30 (TX6 2).1 (TX6 2).2.1 (TX6 2).2.2.1 ∈ xWd := xWd_of (w := Cond.fieldLink RX6 30 (TX6 2).1 (TX6 2).2.1 (TX6 2).2.2.1) 259 (by decide +kernel) (by decide +kernel)
theorem llX6_34 : Cond.classLink RX6 34 RX0 ∈ xWd := xWd_of (w := Cond.classLink RX6 34 RX0) 153 (by decide +kernel) (by decide +kernel)
theorem lnX6_36 : Cond.methodLinkNest RX6 36 (xY mX0_init) "FenceDuel" ∈ xNw := xNw_of (w := Cond.methodLinkNest RX6 36 (xY mX0_init) "FenceDuel") 96 (by decide +kernel) rfl
theorem lfX6_37 : Cond.fieldLink RX6 37 (TX6 3).1 (TX6 3).2.1 (TX6 3).2.2.1 ∈ xWd := xWd_of (w := Cond.fieldLink RX6 37 (TX6 3).1 (TX6 3).2.1 (TX6 3).2.2.1) 260 (by decide +kernel) (by decide +kernel)
theorem llX6_41 : Cond.classLink RX6 41 RX2 ∈ xWd := xWd_of (w := Cond.classLink RX6 41 RX2) 191 (by decide +kernel) (by decide +kernel)
theorem lnX6_43 : Cond.methodLinkNest RX6 43 (xY mX2_init) "FenceDuel" ∈ xNw := xNw_of (w := Cond.methodLinkNest RX6 43 (xY mX2_init) "FenceDuel") 134 (by decide +kernel) rfl
theorem lfX6_44 : Cond.fieldLink RX6 44 (TX6 4).1 (TX6 4).2.1 (TX6 4).2.2.1 ∈ xWd := xWd_of (w := Cond.fieldLink RX6 44 (TX6 4).1 (TX6 4).2.1 (TX6 4).2.2.1) 261 (by decide +kernel) (by decide +kernel)
theorem llX6_48 : Cond.classLink RX6 48 RX5 ∈ xWd := xWd_of (w := Cond.classLink RX6 48 RX5) 255 (by decide +kernel) (by decide +kernel)
theorem lcX6_50 : Cond.methodLink RX6 50 (xY mX5_init) ∈ xWd := xWd_of (w := Cond.methodLink RX6 50 (xY mX5_init)) 256 (by decide +kernel) (by decide +kernel)
theorem lfX6_51 : Cond.fieldLink RX6 51 (TX6 5).1 (TX6 5).2.1 (TX6 5).2.2.1 ∈ xWd := xWd_of (w := Cond.fieldLink RX6 51 (TX6 5).1 (TX6 5).2.1 (TX6 5).2.2.1) 262 (by decide +kernel) (by decide +kernel)
theorem lfX6_55 : Cond.fieldLink RX6 55 (TX6 6).1 (TX6 6).2.1 (TX6 6).2.2.1 ∈ xWd := xWd_of (w := Cond.fieldLink RX6 55 (TX6 6).1 (TX6 6).2.1 (TX6 6).2.2.1) 263 (by decide +kernel) (by decide +kernel)
theorem lfX6_58 : Cond.fieldLink RX6 58 (TX6 7).1 (TX6 7).2.1 (TX6 7).2.2.1 ∈ xWd := xWd_of (w := Cond.fieldLink RX6 58 (TX6 7).1 (TX6 7).2.1 (TX6 7).2.2.1) 264 (by decide +kernel) (by decide +kernel)
theorem lfX6_61 : Cond.fieldLink RX6 61 (TX6 8).1 (TX6 8).2.1 (TX6 8).2.2.1 ∈ xWd := xWd_of (w := Cond.fieldLink RX6 61 (TX6 8).1 (TX6 8).2.1 (TX6 8).2.2.1) 265 (by decide +kernel) (by decide +kernel)
theorem lcX6_64 : Cond.methodLink RX6 64 (xY mX5_takeFrom) ∈ xWd := xWd_of (w := Cond.methodLink RX6 64 (xY mX5_takeFrom)) 301 (by decide +kernel) (by decide +kernel)
theorem lcX6_68 : Cond.methodLink RX6 68 (xY mX6_addEdgeLetter) ∈ xWd := xWd_of (w := Cond.methodLink RX6 68 (xY mX6_addEdgeLetter)) 308 (by decide +kernel) (by decide +kernel)
theorem lcX6_72 : Cond.methodLink RX6 72 (xY mX6_recordUnlessError) ∈ xWd := xWd_of (w := Cond.methodLink RX6 72 (xY mX6_recordUnlessError)) 332 (by decide +kernel) (by decide +kernel)
theorem lcX6_76 : Cond.methodLink RX6 76 (xY mX6_addClaim) ∈ xWd := xWd_of (w := Cond.methodLink RX6 76 (xY mX6_addClaim)) 345 (by decide +kernel) (by decide +kernel)
theorem lcX6_80 : Cond.methodLink RX6 80 (xY mX6_addTruce) ∈ xWd := xWd_of (w := Cond.methodLink RX6 80 (xY mX6_addTruce)) 354 (by decide +kernel) (by decide +kernel)
theorem lcX6_83 : Cond.methodLink RX6 83 (xY mX5_hasLetter) ∈ xWd := xWd_of (w := Cond.methodLink RX6 83 (xY mX5_hasLetter)) 362 (by decide +kernel) (by decide +kernel)
theorem lcX6_87 : Cond.methodLink RX6 87 (xY mX5_told) ∈ xWd := xWd_of (w := Cond.methodLink RX6 87 (xY mX5_told)) 363 (by decide +kernel) (by decide +kernel)
theorem lcX6_90 : Cond.methodLink RX6 90 (xY mX2_add) ∈ xWd := xWd_of (w := Cond.methodLink RX6 90 (xY mX2_add)) 336 (by decide +kernel) (by decide +kernel)
theorem lcX6_93 : Cond.methodLink RX6 93 (xY mX5_mark) ∈ xWd := xWd_of (w := Cond.methodLink RX6 93 (xY mX5_mark)) 367 (by decide +kernel) (by decide +kernel)
theorem lfX6_97 : Cond.fieldLink RX6 97 (TX5 0).1 (TX5 0).2.1 (TX5 0).2.2.1 ∈ xWd := xWd_of (w := Cond.fieldLink RX6 97 (TX5 0).1 (TX5 0).2.1 (TX5 0).2.2.1) 207 (by decide +kernel) (by decide +kernel)
theorem lcX6_101 : Cond.methodLink RX6 101 (xY mX6_letDaysPass) ∈ xWd := xWd_of (w := Cond.methodLink RX6 101 (xY mX6_letDaysPass)) 372 (by decide +kernel) (by decide +kernel)
theorem lfX6_104 : Cond.fieldLink RX6 104 (TX5 4).1 (TX5 4).2.1 (TX5 4).2.2.1 ∈ xWd := xWd_of (w := Cond.fieldLink RX6 104 (TX5 4).1 (TX5 4).2.1 (TX5 4).2.2.1) 214 (by decide +kernel) (by decide +kernel)
theorem lcX6_108 : Cond.methodLink RX6 108 (xY mX0_append) ∈ xWd := xWd_of (w := Cond.methodLink RX6 108 (xY mX0_append)) 493 (by decide +kernel) (by decide +kernel)
theorem lcX6_112 : Cond.methodLink RX6 112 (xY mX0_empty) ∈ xWd := xWd_of (w := Cond.methodLink RX6 112 (xY mX0_empty)) 501 (by decide +kernel) (by decide +kernel)
theorem lcX6_116 : Cond.methodLink RX6 116 (xY mX0_findFault) ∈ xWd := xWd_of (w := Cond.methodLink RX6 116 (xY mX0_findFault)) 509 (by decide +kernel) (by decide +kernel)
theorem lfX6_119 : Cond.fieldLink RX6 119 (TX0 3).1 (TX0 3).2.1 (TX0 3).2.2.1 ∈ xWd := xWd_of (w := Cond.fieldLink RX6 119 (TX0 3).1 (TX0 3).2.1 (TX0 3).2.2.1) 164 (by decide +kernel) (by decide +kernel)
theorem lfX6_122 : Cond.fieldLink RX6 122 (TX0 4).1 (TX0 4).2.1 (TX0 4).2.2.1 ∈ xWd := xWd_of (w := Cond.fieldLink RX6 122 (TX0 4).1 (TX0 4).2.1 (TX0 4).2.2.1) 166 (by decide +kernel) (by decide +kernel)
theorem lcX6_125 : Cond.methodLink RX6 125 (xY mX0_part) ∈ xWd := xWd_of (w := Cond.methodLink RX6 125 (xY mX0_part)) 542 (by decide +kernel) (by decide +kernel)
theorem lfX6_129 : Cond.fieldLink RX6 129 (TX0 6).1 (TX0 6).2.1 (TX0 6).2.2.1 ∈ xWd := xWd_of (w := Cond.fieldLink RX6 129 (TX0 6).1 (TX0 6).2.1 (TX0 6).2.2.1) 170 (by decide +kernel) (by decide +kernel)
theorem lcX6_132 : Cond.methodLink RX6 132 (xY mX6_addLetterOfGame) ∈ xWd := xWd_of (w := Cond.methodLink RX6 132 (xY mX6_addLetterOfGame)) 546 (by decide +kernel) (by decide +kernel)
theorem lfX6_135 : Cond.fieldLink RX6 135 (TX6 10).1 (TX6 10).2.1 (TX6 10).2.2.1 ∈ xWd := xWd_of (w := Cond.fieldLink RX6 135 (TX6 10).1 (TX6 10).2.1 (TX6 10).2.2.1) 267 (by decide +kernel) (by decide +kernel)
theorem lfX6_139 : Cond.fieldLink RX6 139 (TX6 11).1 (TX6 11).2.1 (TX6 11).2.2.1 ∈ xWd := xWd_of (w := Cond.fieldLink RX6 139 (TX6 11).1 (TX6 11).2.1 (TX6 11).2.2.1) 268 (by decide +kernel) (by decide +kernel)
theorem lfX6_142 : Cond.fieldLink RX6 142 (TX6 12).1 (TX6 12).2.1 (TX6 12).2.2.1 ∈ xWd := xWd_of (w := Cond.fieldLink RX6 142 (TX6 12).1 (TX6 12).2.1 (TX6 12).2.2.1) 269 (by decide +kernel) (by decide +kernel)
theorem lcX6_145 : Cond.methodLink RX6 145 (xY mX2_takeBack) ∈ xWd := xWd_of (w := Cond.methodLink RX6 145 (xY mX2_takeBack)) 558 (by decide +kernel) (by decide +kernel)
theorem lfX6_149 : Cond.fieldLink RX6 149 (TX6 9).1 (TX6 9).2.1 (TX6 9).2.2.1 ∈ xWd := xWd_of (w := Cond.fieldLink RX6 149 (TX6 9).1 (TX6 9).2.1 (TX6 9).2.2.1) 266 (by decide +kernel) (by decide +kernel)
theorem lcX6_152 : Cond.methodLink RX6 152 (xY mX1_edgeNumber) ∈ xWd := xWd_of (w := Cond.methodLink RX6 152 (xY mX1_edgeNumber)) 315 (by decide +kernel) (by decide +kernel)
theorem lcX6_155 : Cond.methodLink RX6 155 (xY mX6_isEdge) ∈ xWd := xWd_of (w := Cond.methodLink RX6 155 (xY mX6_isEdge)) 319 (by decide +kernel) (by decide +kernel)
theorem lcX6_158 : Cond.methodLink RX6 158 (xY mX5_onEdge) ∈ xWd := xWd_of (w := Cond.methodLink RX6 158 (xY mX5_onEdge)) 574 (by decide +kernel) (by decide +kernel)
theorem lcX6_161 : Cond.methodLink RX6 161 (xY mX6_isField) ∈ xWd := xWd_of (w := Cond.methodLink RX6 161 (xY mX6_isField)) 349 (by decide +kernel) (by decide +kernel)
theorem lcX6_164 : Cond.methodLink RX6 164 (xY mX4_survey) ∈ xWd := xWd_of (w := Cond.methodLink RX6 164 (xY mX4_survey)) 579 (by decide +kernel) (by decide +kernel)
theorem lcX6_167 : Cond.methodLink RX6 167 (xY mX5_ownerOf) ∈ xWd := xWd_of (w := Cond.methodLink RX6 167 (xY mX5_ownerOf)) 580 (by decide +kernel) (by decide +kernel)
theorem lcX6_170 : Cond.methodLink RX6 170 (xY mX4_sizeAround) ∈ xWd := xWd_of (w := Cond.methodLink RX6 170 (xY mX4_sizeAround)) 585 (by decide +kernel) (by decide +kernel)
theorem lcX6_173 : Cond.methodLink RX6 173 (xY mX4_freeAround) ∈ xWd := xWd_of (w := Cond.methodLink RX6 173 (xY mX4_freeAround)) 586 (by decide +kernel) (by decide +kernel)
theorem lcX6_176 : Cond.methodLink RX6 176 (xY mX4_lowestAround) ∈ xWd := xWd_of (w := Cond.methodLink RX6 176 (xY mX4_lowestAround)) 590 (by decide +kernel) (by decide +kernel)
theorem lcX6_179 : Cond.methodLink RX6 179 (xY mX6_edgesWithSomething) ∈ xWd := xWd_of (w := Cond.methodLink RX6 179 (xY mX6_edgesWithSomething)) 591 (by decide +kernel) (by decide +kernel)
theorem lcX6_182 : Cond.methodLink RX6 182 (xY mX4_sizeByJoining) ∈ xWd := xWd_of (w := Cond.methodLink RX6 182 (xY mX4_sizeByJoining)) 599 (by decide +kernel) (by decide +kernel)
theorem lcX6_186 : Cond.methodLink RX6 186 (xY mX5_haveCrossed) ∈ xWd := xWd_of (w := Cond.methodLink RX6 186 (xY mX5_haveCrossed)) 619 (by decide +kernel) (by decide +kernel)
theorem lcX6_190 : Cond.methodLink RX6 190 (xY mX3_reasonAgainstGap) ∈ xWd := xWd_of (w := Cond.methodLink RX6 190 (xY mX3_reasonAgainstGap)) 624 (by decide +kernel) (by decide +kernel)
theorem lcX6_193 : Cond.methodLink RX6 193 (xY mX3_reasonAgainstFence) ∈ xWd := xWd_of (w := Cond.methodLink RX6 193 (xY mX3_reasonAgainstFence)) 625 (by decide +kernel) (by decide +kernel)
theorem lcX6_196 : Cond.methodLink RX6 196 (xY mX3_reasonAgainstClaim) ∈ xWd := xWd_of (w := Cond.methodLink RX6 196 (xY mX3_reasonAgainstClaim)) 630 (by decide +kernel) (by decide +kernel)
theorem lcX6_199 : Cond.methodLink RX6 199 (xY mX5_soonest) ∈ xWd := xWd_of (w := Cond.methodLink RX6 199 (xY mX5_soonest)) 635 (by decide +kernel) (by decide +kernel)
theorem lcX6_202 : Cond.methodLink RX6 202 (xY mX3_deliver) ∈ xWd := xWd_of (w := Cond.methodLink RX6 202 (xY mX3_deliver)) 376 (by decide +kernel) (by decide +kernel)
theorem lcX6_205 : Cond.methodLink RX6 205 (xY mX5_edgesWith) ∈ xWd := xWd_of (w := Cond.methodLink RX6 205 (xY mX5_edgesWith)) 640 (by decide +kernel) (by decide +kernel)
theorem lcX6_208 : Cond.methodLink RX6 208 (xY mX5_lettersThatAre) ∈ xWd := xWd_of (w := Cond.methodLink RX6 208 (xY mX5_lettersThatAre)) 644 (by decide +kernel) (by decide +kernel)
theorem lcX6_211 : Cond.methodLink RX6 211 (xY mX5_fieldsOf) ∈ xWd := xWd_of (w := Cond.methodLink RX6 211 (xY mX5_fieldsOf)) 648 (by decide +kernel) (by decide +kernel)
theorem lfX6_214 : Cond.fieldLink RX6 214 (TX5 1).1 (TX5 1).2.1 (TX5 1).2.2.1 ∈ xWd := xWd_of (w := Cond.fieldLink RX6 214 (TX5 1).1 (TX5 1).2.1 (TX5 1).2.2.1) 209 (by decide +kernel) (by decide +kernel)
theorem lfX6_217 : Cond.fieldLink RX6 217 (TX5 2).1 (TX5 2).2.1 (TX5 2).2.2.1 ∈ xWd := xWd_of (w := Cond.fieldLink RX6 217 (TX5 2).1 (TX5 2).2.1 (TX5 2).2.2.1) 211 (by decide +kernel) (by decide +kernel)
theorem lcX6_220 : Cond.methodLink RX6 220 (xY mX5_turnsOfTwo) ∈ xWd := xWd_of (w := Cond.methodLink RX6 220 (xY mX5_turnsOfTwo)) 661 (by decide +kernel) (by decide +kernel)
theorem lcX6_223 : Cond.methodLink RX6 223 (xY mX6_fenceOf) ∈ xWd := xWd_of (w := Cond.methodLink RX6 223 (xY mX6_fenceOf)) 665 (by decide +kernel) (by decide +kernel)
theorem lcX6_226 : Cond.methodLink RX6 226 (xY mX5_hasTruce) ∈ xWd := xWd_of (w := Cond.methodLink RX6 226 (xY mX5_hasTruce)) 666 (by decide +kernel) (by decide +kernel)
theorem lfX6_230 : Cond.fieldLink RX6 230 (TX5 5).1 (TX5 5).2.1 (TX5 5).2.2.1 ∈ xWd := xWd_of (w := Cond.fieldLink RX6 230 (TX5 5).1 (TX5 5).2.1 (TX5 5).2.2.1) 218 (by decide +kernel) (by decide +kernel)
theorem lfX6_233 : Cond.fieldLink RX6 233 (TX2 2).1 (TX2 2).2.1 (TX2 2).2.2.1 ∈ xWd := xWd_of (w := Cond.fieldLink RX6 233 (TX2 2).1 (TX2 2).2.1 (TX2 2).2.2.1) 247 (by decide +kernel) (by decide +kernel)
theorem lfX6_236 : Cond.fieldLink RX6 236 (TX0 1).1 (TX0 1).2.1 (TX0 1).2.2.1 ∈ xWd := xWd_of (w := Cond.fieldLink RX6 236 (TX0 1).1 (TX0 1).2.1 (TX0 1).2.2.1) 161 (by decide +kernel) (by decide +kernel)
theorem lcX6_239 : Cond.methodLink RX6 239 (xY mX6_isPlayer) ∈ xWd := xWd_of (w := Cond.methodLink RX6 239 (xY mX6_isPlayer)) 312 (by decide +kernel) (by decide +kernel)
theorem lcX6_242 : Cond.methodLink RX6 242 (xY mX5_addLetter) ∈ xWd := xWd_of (w := Cond.methodLink RX6 242 (xY mX5_addLetter)) 320 (by decide +kernel) (by decide +kernel)
theorem lfX6_245 : Cond.fieldLink RX6 245 (TX0 5).1 (TX0 5).2.1 (TX0 5).2.2.1 ∈ xWd := xWd_of (w := Cond.fieldLink RX6 245 (TX0 5).1 (TX0 5).2.1 (TX0 5).2.2.1) 168 (by decide +kernel) (by decide +kernel)
theorem lfX6_248 : Cond.fieldLink RX6 248 (TX0 7).1 (TX0 7).2.1 (TX0 7).2.2.1 ∈ xWd := xWd_of (w := Cond.fieldLink RX6 248 (TX0 7).1 (TX0 7).2.1 (TX0 7).2.2.1) 172 (by decide +kernel) (by decide +kernel)
theorem lcX7_1 : Cond.methodLink RX7 1 objectInit ∈ xWd := xWd_of (w := Cond.methodLink RX7 1 objectInit) 672 (by decide +kernel) (by decide +kernel)
theorem lfX7_7 : Cond.fieldLink RX7 7 (TX7 0).1 (TX7 0).2.1 (TX7 0).2.2.1 ∈ xWd := xWd_of (w := Cond.fieldLink RX7 7 (TX7 0).1 (TX7 0).2.1 (TX7 0).2.2.1) 673 (by decide +kernel) (by decide +kernel)
theorem lfX7_13 : Cond.fieldLink RX7 13 (TX7 1).1 (TX7 1).2.1 (TX7 1).2.2.1 ∈ xWd := xWd_of (w := Cond.fieldLink RX7 13 (TX7 1).1 (TX7 1).2.1 (TX7 1).2.2.1) 674 (by decide +kernel) (by decide +kernel)
theorem lfX7_16 : Cond.fieldLink RX7 16 (TX7 2).1 (TX7 2).2.1 (TX7 2).2.2.1 ∈ xWd := xWd_of (w := Cond.fieldLink RX7 16 (TX7 2).1 (TX7 2).2.1 (TX7 2).2.2.1) 675 (by decide +kernel) (by decide +kernel)
theorem lfX7_19 : Cond.fieldLink RX7 19 (TX7 3).1 (TX7 3).2.1 (TX7 3).2.2.1 ∈ xWd := xWd_of (w := Cond.fieldLink RX7 19 (TX7 3).1 (TX7 3).2.1 (TX7 3).2.2.1) 676 (by decide +kernel) (by decide +kernel)
theorem lfX7_22 : Cond.fieldLink RX7 22 (TX7 5).1 (TX7 5).2.1 (TX7 5).2.2.1 ∈ xWd := xWd_of (w := Cond.fieldLink RX7 22 (TX7 5).1 (TX7 5).2.1 (TX7 5).2.2.1) 678 (by decide +kernel) (by decide +kernel)
theorem lfX7_25 : Cond.fieldLink RX7 25 (TX7 7).1 (TX7 7).2.1 (TX7 7).2.2.1 ∈ xWd := xWd_of (w := Cond.fieldLink RX7 25 (TX7 7).1 (TX7 7).2.1 (TX7 7).2.2.1) 680 (by decide +kernel) (by decide +kernel)
theorem lfX7_28 : Cond.fieldLink RX7 28 (TX7 9).1 (TX7 9).2.1 (TX7 9).2.2.1 ∈ xWd := xWd_of (w := Cond.fieldLink RX7 28 (TX7 9).1 (TX7 9).2.1 (TX7 9).2.2.1) 682 (by decide +kernel) (by decide +kernel)
theorem lfX7_32 : Cond.fieldLink RX7 32 (TX7 10).1 (TX7 10).2.1 (TX7 10).2.2.1 ∈ xWd := xWd_of (w := Cond.fieldLink RX7 32 (TX7 10).1 (TX7 10).2.1 (TX7 10).2.2.1) 683 (by decide +kernel) (by decide +kernel)
theorem lfX7_35 : Cond.fieldLink RX7 35 (TX7 11).1 (TX7 11).2.1 (TX7 11).2.2.1 ∈ xWd := xWd_of (w := Cond.fieldLink RX7 35 (TX7 11).1 (TX7 11).2.1 (TX7 11).2.2.1) 684 (by decide +kernel) (by decide +kernel)
theorem lcX7_39 : Cond.methodLink RX7 39 (xY mX7_in) ∈ xWd := xWd_of (w := Cond.methodLink RX7 39 (xY mX7_in)) 747 (by decide +kernel) (by decide +kernel)
theorem lcX7_43 : Cond.methodLink RX7 43 (xY mX7_at) ∈ xWd := xWd_of (w := Cond.methodLink RX7 43 (xY mX7_at)) 756 (by decide +kernel) (by decide +kernel)
theorem lfX7_47 : Cond.fieldLink RX7 47 (TX7 6).1 (TX7 6).2.1 (TX7 6).2.2.1 ∈ xWd := xWd_of (w := Cond.fieldLink RX7 47 (TX7 6).1 (TX7 6).2.1 (TX7 6).2.2.1) 679 (by decide +kernel) (by decide +kernel)
theorem lcX7_50 : Cond.methodLink RX7 50 (xY mX7_isField) ∈ xWd := xWd_of (w := Cond.methodLink RX7 50 (xY mX7_isField)) 750 (by decide +kernel) (by decide +kernel)
theorem lcX7_54 : Cond.methodLink RX7 54 (xY mX7_oneOf) ∈ xWd := xWd_of (w := Cond.methodLink RX7 54 (xY mX7_oneOf)) 843 (by decide +kernel) (by decide +kernel)
theorem lcX7_58 : Cond.methodLink RX7 58 (xY mX7_otherOf) ∈ xWd := xWd_of (w := Cond.methodLink RX7 58 (xY mX7_otherOf)) 846 (by decide +kernel) (by decide +kernel)
theorem lcX7_61 : Cond.methodLink RX7 61 (xY mX7_mark) ∈ xWd := xWd_of (w := Cond.methodLink RX7 61 (xY mX7_mark)) 839 (by decide +kernel) (by decide +kernel)
theorem lcX7_64 : Cond.methodLink RX7 64 (xY mX7_isTruce) ∈ xWd := xWd_of (w := Cond.methodLink RX7 64 (xY mX7_isTruce)) 831 (by decide +kernel) (by decide +kernel)
theorem lcX7_68 : Cond.methodLink RX7 68 (xY mX7_of) ∈ xWd := xWd_of (w := Cond.methodLink RX7 68 (xY mX7_of)) 783 (by decide +kernel) (by decide +kernel)
theorem lcX7_71 : Cond.methodLink RX7 71 (xY mX7_edgeAt) ∈ xWd := xWd_of (w := Cond.methodLink RX7 71 (xY mX7_edgeAt)) 753 (by decide +kernel) (by decide +kernel)
theorem lcX7_74 : Cond.methodLink RX7 74 (xY mX7_edgeOf) ∈ xWd := xWd_of (w := Cond.methodLink RX7 74 (xY mX7_edgeOf)) 811 (by decide +kernel) (by decide +kernel)
theorem lcX7_77 : Cond.methodLink RX7 77 (xY mX7_whyEdge) ∈ xWd := xWd_of (w := Cond.methodLink RX7 77 (xY mX7_whyEdge)) 827 (by decide +kernel) (by decide +kernel)
theorem lcX7_81 : Cond.methodLink RX7 81 (xY mX7_whyClaim) ∈ xWd := xWd_of (w := Cond.methodLink RX7 81 (xY mX7_whyClaim)) 835 (by decide +kernel) (by decide +kernel)
theorem lcX7_84 : Cond.methodLink RX7 84 (xY mX7_isTaken) ∈ xWd := xWd_of (w := Cond.methodLink RX7 84 (xY mX7_isTaken)) 815 (by decide +kernel) (by decide +kernel)
theorem lcX7_87 : Cond.methodLink RX7 87 (xY mX7_isSecond) ∈ xWd := xWd_of (w := Cond.methodLink RX7 87 (xY mX7_isSecond)) 803 (by decide +kernel) (by decide +kernel)
theorem lcX7_90 : Cond.methodLink RX7 90 (xY mX7_doesSecond) ∈ xWd := xWd_of (w := Cond.methodLink RX7 90 (xY mX7_doesSecond)) 807 (by decide +kernel) (by decide +kernel)
theorem lcX7_93 : Cond.methodLink RX7 93 (xY mX7_forgetsTaken) ∈ xWd := xWd_of (w := Cond.methodLink RX7 93 (xY mX7_forgetsTaken)) 819 (by decide +kernel) (by decide +kernel)
theorem lcX7_96 : Cond.methodLink RX7 96 (xY mX7_does) ∈ xWd := xWd_of (w := Cond.methodLink RX7 96 (xY mX7_does)) 823 (by decide +kernel) (by decide +kernel)
theorem lcX7_99 : Cond.methodLink RX7 99 (xY mX7_comes) ∈ xWd := xWd_of (w := Cond.methodLink RX7 99 (xY mX7_comes)) 799 (by decide +kernel) (by decide +kernel)
theorem lcX7_103 : Cond.methodLink RX7 103 (xY mX7_day) ∈ xWd := xWd_of (w := Cond.methodLink RX7 103 (xY mX7_day)) 795 (by decide +kernel) (by decide +kernel)
theorem lcX7_107 : Cond.methodLink RX7 107 (xY mX7_isPlayer) ∈ xWd := xWd_of (w := Cond.methodLink RX7 107 (xY mX7_isPlayer)) 744 (by decide +kernel) (by decide +kernel)
theorem lcX7_110 : Cond.methodLink RX7 110 (xY mX7_records) ∈ xWd := xWd_of (w := Cond.methodLink RX7 110 (xY mX7_records)) 763 (by decide +kernel) (by decide +kernel)
theorem lcX7_113 : Cond.methodLink RX7 113 (xY mX7_looks) ∈ xWd := xWd_of (w := Cond.methodLink RX7 113 (xY mX7_looks)) 736 (by decide +kernel) (by decide +kernel)
theorem lcX7_116 : Cond.methodLink RX7 116 (xY mX7_writes) ∈ xWd := xWd_of (w := Cond.methodLink RX7 116 (xY mX7_writes)) 740 (by decide +kernel) (by decide +kernel)
theorem lcX7_120 : Cond.methodLink RX7 120 (xY mX7_acted) ∈ xWd := xWd_of (w := Cond.methodLink RX7 120 (xY mX7_acted)) 759 (by decide +kernel) (by decide +kernel)
theorem lcX7_123 : Cond.methodLink RX7 123 (xY mX7_isLetter) ∈ xWd := xWd_of (w := Cond.methodLink RX7 123 (xY mX7_isLetter)) 779 (by decide +kernel) (by decide +kernel)
theorem lcX7_126 : Cond.methodLink RX7 126 (xY mX7_passes) ∈ xWd := xWd_of (w := Cond.methodLink RX7 126 (xY mX7_passes)) 791 (by decide +kernel) (by decide +kernel)
theorem lfX7_129 : Cond.fieldLink RX7 129 (TX7 8).1 (TX7 8).2.1 (TX7 8).2.2.1 ∈ xWd := xWd_of (w := Cond.fieldLink RX7 129 (TX7 8).1 (TX7 8).2.1 (TX7 8).2.2.1) 681 (by decide +kernel) (by decide +kernel)
theorem lfX7_132 : Cond.fieldLink RX7 132 (TX7 13).1 (TX7 13).2.1 (TX7 13).2.2.1 ∈ xWd := xWd_of (w := Cond.fieldLink RX7 132 (TX7 13).1 (TX7 13).2.1 (TX7 13).2.2.1) 686 (by decide +kernel) (by decide +kernel)
theorem lfX7_136 : Cond.fieldLink RX7 136 (TX7 12).1 (TX7 12).2.1 (TX7 12).2.2.1 ∈ xWd := xWd_of (w := Cond.fieldLink RX7 136 (TX7 12).1 (TX7 12).2.1 (TX7 12).2.2.1) 685 (by decide +kernel) (by decide +kernel)
theorem lcX7_139 : Cond.methodLink RX7 139 (xY mX7_takes) ∈ xWd := xWd_of (w := Cond.methodLink RX7 139 (xY mX7_takes)) 877 (by decide +kernel) (by decide +kernel)
theorem lcX7_142 : Cond.methodLink RX7 142 (xY mX7_isNext) ∈ xWd := xWd_of (w := Cond.methodLink RX7 142 (xY mX7_isNext)) 873 (by decide +kernel) (by decide +kernel)
theorem lfX7_146 : Cond.fieldLink RX7 146 (TX7 14).1 (TX7 14).2.1 (TX7 14).2.2.1 ∈ xWd := xWd_of (w := Cond.fieldLink RX7 146 (TX7 14).1 (TX7 14).2.1 (TX7 14).2.2.1) 687 (by decide +kernel) (by decide +kernel)
theorem lcX7_149 : Cond.methodLink RX7 149 (xY mX7_takesNumber) ∈ xWd := xWd_of (w := Cond.methodLink RX7 149 (xY mX7_takesNumber)) 881 (by decide +kernel) (by decide +kernel)
theorem lfX7_152 : Cond.fieldLink RX7 152 (TX7 17).1 (TX7 17).2.1 (TX7 17).2.2.1 ∈ xWd := xWd_of (w := Cond.fieldLink RX7 152 (TX7 17).1 (TX7 17).2.1 (TX7 17).2.2.1) 690 (by decide +kernel) (by decide +kernel)
theorem ldX7_155 : Cond.constant RX7 155 (1952671590 : Int32) ∈ xWd := xWd_of (w := Cond.constant RX7 155 (1952671590 : Int32)) 885 (by decide +kernel) (by decide +kernel)
theorem lcX7_156 : Cond.methodLink RX7 156 (xY mX7_takesSign) ∈ xWd := xWd_of (w := Cond.methodLink RX7 156 (xY mX7_takesSign)) 886 (by decide +kernel) (by decide +kernel)
theorem lfX7_159 : Cond.fieldLink RX7 159 (TX7 15).1 (TX7 15).2.1 (TX7 15).2.2.1 ∈ xWd := xWd_of (w := Cond.fieldLink RX7 159 (TX7 15).1 (TX7 15).2.1 (TX7 15).2.2.1) 688 (by decide +kernel) (by decide +kernel)
theorem lfX7_162 : Cond.fieldLink RX7 162 (TX7 16).1 (TX7 16).2.1 (TX7 16).2.2.1 ∈ xWd := xWd_of (w := Cond.fieldLink RX7 162 (TX7 16).1 (TX7 16).2.1 (TX7 16).2.2.1) 689 (by decide +kernel) (by decide +kernel)
theorem ldX7_165 : Cond.constant RX7 165 (2004051310 : Int32) ∈ xWd := xWd_of (w := Cond.constant RX7 165 (2004051310 : Int32)) 890 (by decide +kernel) (by decide +kernel)
theorem lfX7_166 : Cond.fieldLink RX7 166 (TX7 18).1 (TX7 18).2.1 (TX7 18).2.2.1 ∈ xWd := xWd_of (w := Cond.fieldLink RX7 166 (TX7 18).1 (TX7 18).2.1 (TX7 18).2.2.1) 691 (by decide +kernel) (by decide +kernel)
theorem lcX7_169 : Cond.methodLink RX7 169 (xY mX7_readThing) ∈ xWd := xWd_of (w := Cond.methodLink RX7 169 (xY mX7_readThing)) 869 (by decide +kernel) (by decide +kernel)
theorem lcX7_172 : Cond.methodLink RX7 172 (xY mX7_runs) ∈ xWd := xWd_of (w := Cond.methodLink RX7 172 (xY mX7_runs)) 865 (by decide +kernel) (by decide +kernel)
theorem lfX7_176 : Cond.fieldLink RX7 176 (TX7 4).1 (TX7 4).2.1 (TX7 4).2.2.1 ∈ xWd := xWd_of (w := Cond.fieldLink RX7 176 (TX7 4).1 (TX7 4).2.1 (TX7 4).2.2.1) 677 (by decide +kernel) (by decide +kernel)
theorem lcX7_179 : Cond.methodLink RX7 179 (xY mX7_freeIn) ∈ xWd := xWd_of (w := Cond.methodLink RX7 179 (xY mX7_freeIn)) 915 (by decide +kernel) (by decide +kernel)
theorem lcX7_182 : Cond.methodLink RX7 182 (xY mX7_lowestIn) ∈ xWd := xWd_of (w := Cond.methodLink RX7 182 (xY mX7_lowestIn)) 919 (by decide +kernel) (by decide +kernel)
theorem lcX7_185 : Cond.methodLink RX7 185 (xY mX7_edgesOf) ∈ xWd := xWd_of (w := Cond.methodLink RX7 185 (xY mX7_edgesOf)) 923 (by decide +kernel) (by decide +kernel)
theorem lcX7_188 : Cond.methodLink RX7 188 (xY mX7_cross) ∈ xWd := xWd_of (w := Cond.methodLink RX7 188 (xY mX7_cross)) 939 (by decide +kernel) (by decide +kernel)
theorem lcX7_191 : Cond.methodLink RX7 191 (xY mX7_nextLetter) ∈ xWd := xWd_of (w := Cond.methodLink RX7 191 (xY mX7_nextLetter)) 955 (by decide +kernel) (by decide +kernel)
theorem lcX7_194 : Cond.methodLink RX7 194 (xY mX7_putAside) ∈ xWd := xWd_of (w := Cond.methodLink RX7 194 (xY mX7_putAside)) 963 (by decide +kernel) (by decide +kernel)
theorem lcX7_197 : Cond.methodLink RX7 197 (xY mX7_fieldsOf) ∈ xWd := xWd_of (w := Cond.methodLink RX7 197 (xY mX7_fieldsOf)) 967 (by decide +kernel) (by decide +kernel)
theorem lcX7_200 : Cond.methodLink RX7 200 (xY mX7_edgesThat) ∈ xWd := xWd_of (w := Cond.methodLink RX7 200 (xY mX7_edgesThat)) 971 (by decide +kernel) (by decide +kernel)
theorem lcX7_203 : Cond.methodLink RX7 203 (xY mX7_lettersThat) ∈ xWd := xWd_of (w := Cond.methodLink RX7 203 (xY mX7_lettersThat)) 975 (by decide +kernel) (by decide +kernel)
theorem lcX7_206 : Cond.methodLink RX7 206 (xY mX7_putBack) ∈ xWd := xWd_of (w := Cond.methodLink RX7 206 (xY mX7_putBack)) 979 (by decide +kernel) (by decide +kernel)
theorem lcX7_209 : Cond.methodLink RX7 209 (xY mX7_regions) ∈ xWd := xWd_of (w := Cond.methodLink RX7 209 (xY mX7_regions)) 991 (by decide +kernel) (by decide +kernel)
theorem llL_7 : Cond.classLink RL 7 RX6 ∈ xWd := xWd_of (w := Cond.classLink RL 7 RX6) 70 (by decide +kernel) (by decide +kernel)
theorem lcL_9 : Cond.methodLink RL 9 (xY mX6_init) ∈ xWd := xWd_of (w := Cond.methodLink RL 9 (xY mX6_init)) 72 (by decide +kernel) (by decide +kernel)
theorem llL_10 : Cond.classLink RL 10 RX7 ∈ xWd := xWd_of (w := Cond.classLink RL 10 RX7) 667 (by decide +kernel) (by decide +kernel)
theorem lcL_12 : Cond.methodLink RL 12 (xY mX7_init) ∈ xWd := xWd_of (w := Cond.methodLink RL 12 (xY mX7_init)) 669 (by decide +kernel) (by decide +kernel)
theorem lcL_13 : Cond.methodLink RL 13 (xY mX6_writeEdge) ∈ xWd := xWd_of (w := Cond.methodLink RL 13 (xY mX6_writeEdge)) 297 (by decide +kernel) (by decide +kernel)
theorem lcL_17 : Cond.methodLink RL 17 (xY mX7_writeEdge) ∈ xWd := xWd_of (w := Cond.methodLink RL 17 (xY mX7_writeEdge)) 732 (by decide +kernel) (by decide +kernel)
theorem lcL_18 : Cond.methodLink RL 18 (xY mX6_writeClaim) ∈ xWd := xWd_of (w := Cond.methodLink RL 18 (xY mX6_writeClaim)) 341 (by decide +kernel) (by decide +kernel)
theorem lcL_22 : Cond.methodLink RL 22 (xY mX7_writeClaim) ∈ xWd := xWd_of (w := Cond.methodLink RL 22 (xY mX7_writeClaim)) 767 (by decide +kernel) (by decide +kernel)
theorem lcL_23 : Cond.methodLink RL 23 (xY mX6_writeTruce) ∈ xWd := xWd_of (w := Cond.methodLink RL 23 (xY mX6_writeTruce)) 350 (by decide +kernel) (by decide +kernel)
theorem lcL_26 : Cond.methodLink RL 26 (xY mX7_writeTruce) ∈ xWd := xWd_of (w := Cond.methodLink RL 26 (xY mX7_writeTruce)) 771 (by decide +kernel) (by decide +kernel)
theorem lcL_27 : Cond.methodLink RL 27 (xY mX6_callBack) ∈ xWd := xWd_of (w := Cond.methodLink RL 27 (xY mX6_callBack)) 358 (by decide +kernel) (by decide +kernel)
theorem lcL_31 : Cond.methodLink RL 31 (xY mX7_callBack) ∈ xWd := xWd_of (w := Cond.methodLink RL 31 (xY mX7_callBack)) 775 (by decide +kernel) (by decide +kernel)
theorem lcL_32 : Cond.methodLink RL 32 (xY mX6_pass) ∈ xWd := xWd_of (w := Cond.methodLink RL 32 (xY mX6_pass)) 368 (by decide +kernel) (by decide +kernel)
theorem lcL_35 : Cond.methodLink RL 35 (xY mX7_pass) ∈ xWd := xWd_of (w := Cond.methodLink RL 35 (xY mX7_pass)) 787 (by decide +kernel) (by decide +kernel)
theorem lcL_36 : Cond.methodLink RL 36 (xY mX6_set) ∈ xWd := xWd_of (w := Cond.methodLink RL 36 (xY mX6_set)) 485 (by decide +kernel) (by decide +kernel)
theorem lcL_39 : Cond.methodLink RL 39 (xY mX7_set) ∈ xWd := xWd_of (w := Cond.methodLink RL 39 (xY mX7_set)) 849 (by decide +kernel) (by decide +kernel)
theorem lcL_40 : Cond.methodLink RL 40 (xY mX6_type) ∈ xWd := xWd_of (w := Cond.methodLink RL 40 (xY mX6_type)) 489 (by decide +kernel) (by decide +kernel)
theorem lcL_44 : Cond.methodLink RL 44 (xY mX7_type) ∈ xWd := xWd_of (w := Cond.methodLink RL 44 (xY mX7_type)) 853 (by decide +kernel) (by decide +kernel)
theorem lcL_45 : Cond.methodLink RL 45 (xY mX6_clearText) ∈ xWd := xWd_of (w := Cond.methodLink RL 45 (xY mX6_clearText)) 497 (by decide +kernel) (by decide +kernel)
theorem lcL_49 : Cond.methodLink RL 49 (xY mX7_clearText) ∈ xWd := xWd_of (w := Cond.methodLink RL 49 (xY mX7_clearText)) 857 (by decide +kernel) (by decide +kernel)
theorem lcL_50 : Cond.methodLink RL 50 (xY mX6_perform) ∈ xWd := xWd_of (w := Cond.methodLink RL 50 (xY mX6_perform)) 505 (by decide +kernel) (by decide +kernel)
theorem lcL_53 : Cond.methodLink RL 53 (xY mX7_perform) ∈ xWd := xWd_of (w := Cond.methodLink RL 53 (xY mX7_perform)) 861 (by decide +kernel) (by decide +kernel)
theorem lcL_54 : Cond.methodLink RL 54 (xY mX6_stopped) ∈ xWd := xWd_of (w := Cond.methodLink RL 54 (xY mX6_stopped)) 550 (by decide +kernel) (by decide +kernel)
theorem lcL_57 : Cond.methodLink RL 57 (xY mX7_stopped) ∈ xWd := xWd_of (w := Cond.methodLink RL 57 (xY mX7_stopped)) 891 (by decide +kernel) (by decide +kernel)
theorem lcL_58 : Cond.methodLink RL 58 (xY mX6_undo) ∈ xWd := xWd_of (w := Cond.methodLink RL 58 (xY mX6_undo)) 554 (by decide +kernel) (by decide +kernel)
theorem lcL_61 : Cond.methodLink RL 61 (xY mX7_undo) ∈ xWd := xWd_of (w := Cond.methodLink RL 61 (xY mX7_undo)) 895 (by decide +kernel) (by decide +kernel)
theorem lcL_62 : Cond.methodLink RL 62 (xY mX6_keep) ∈ xWd := xWd_of (w := Cond.methodLink RL 62 (xY mX6_keep)) 562 (by decide +kernel) (by decide +kernel)
theorem lcL_65 : Cond.methodLink RL 65 (xY mX7_keep) ∈ xWd := xWd_of (w := Cond.methodLink RL 65 (xY mX7_keep)) 899 (by decide +kernel) (by decide +kernel)
theorem lcL_66 : Cond.methodLink RL 66 (xY mX6_restore) ∈ xWd := xWd_of (w := Cond.methodLink RL 66 (xY mX6_restore)) 566 (by decide +kernel) (by decide +kernel)
theorem lcL_69 : Cond.methodLink RL 69 (xY mX7_restore) ∈ xWd := xWd_of (w := Cond.methodLink RL 69 (xY mX7_restore)) 903 (by decide +kernel) (by decide +kernel)
theorem lcL_70 : Cond.methodLink RL 70 (xY mX6_edge) ∈ xWd := xWd_of (w := Cond.methodLink RL 70 (xY mX6_edge)) 570 (by decide +kernel) (by decide +kernel)
theorem lcL_73 : Cond.methodLink RL 73 (xY mX7_edge) ∈ xWd := xWd_of (w := Cond.methodLink RL 73 (xY mX7_edge)) 907 (by decide +kernel) (by decide +kernel)
theorem lcL_74 : Cond.methodLink RL 74 (xY mX6_field) ∈ xWd := xWd_of (w := Cond.methodLink RL 74 (xY mX6_field)) 575 (by decide +kernel) (by decide +kernel)
theorem lcL_77 : Cond.methodLink RL 77 (xY mX7_field) ∈ xWd := xWd_of (w := Cond.methodLink RL 77 (xY mX7_field)) 911 (by decide +kernel) (by decide +kernel)
theorem lcL_78 : Cond.methodLink RL 78 (xY mX6_joined) ∈ xWd := xWd_of (w := Cond.methodLink RL 78 (xY mX6_joined)) 595 (by decide +kernel) (by decide +kernel)
theorem lcL_81 : Cond.methodLink RL 81 (xY mX7_joined) ∈ xWd := xWd_of (w := Cond.methodLink RL 81 (xY mX7_joined)) 927 (by decide +kernel) (by decide +kernel)
theorem lcL_82 : Cond.methodLink RL 82 (xY mX6_letter) ∈ xWd := xWd_of (w := Cond.methodLink RL 82 (xY mX6_letter)) 611 (by decide +kernel) (by decide +kernel)
theorem lcL_85 : Cond.methodLink RL 85 (xY mX7_letter) ∈ xWd := xWd_of (w := Cond.methodLink RL 85 (xY mX7_letter)) 931 (by decide +kernel) (by decide +kernel)
theorem lcL_86 : Cond.methodLink RL 86 (xY mX6_crossed) ∈ xWd := xWd_of (w := Cond.methodLink RL 86 (xY mX6_crossed)) 615 (by decide +kernel) (by decide +kernel)
theorem lcL_89 : Cond.methodLink RL 89 (xY mX7_crossed) ∈ xWd := xWd_of (w := Cond.methodLink RL 89 (xY mX7_crossed)) 935 (by decide +kernel) (by decide +kernel)
theorem lcL_90 : Cond.methodLink RL 90 (xY mX6_reasonEdge) ∈ xWd := xWd_of (w := Cond.methodLink RL 90 (xY mX6_reasonEdge)) 620 (by decide +kernel) (by decide +kernel)
theorem lcL_94 : Cond.methodLink RL 94 (xY mX7_reasonEdge) ∈ xWd := xWd_of (w := Cond.methodLink RL 94 (xY mX7_reasonEdge)) 943 (by decide +kernel) (by decide +kernel)
theorem lcL_95 : Cond.methodLink RL 95 (xY mX6_reasonClaim) ∈ xWd := xWd_of (w := Cond.methodLink RL 95 (xY mX6_reasonClaim)) 626 (by decide +kernel) (by decide +kernel)
theorem lcL_98 : Cond.methodLink RL 98 (xY mX7_reasonClaim) ∈ xWd := xWd_of (w := Cond.methodLink RL 98 (xY mX7_reasonClaim)) 947 (by decide +kernel) (by decide +kernel)
theorem lcL_99 : Cond.methodLink RL 99 (xY mX6_next) ∈ xWd := xWd_of (w := Cond.methodLink RL 99 (xY mX6_next)) 631 (by decide +kernel) (by decide +kernel)
theorem lcL_102 : Cond.methodLink RL 102 (xY mX7_next) ∈ xWd := xWd_of (w := Cond.methodLink RL 102 (xY mX7_next)) 951 (by decide +kernel) (by decide +kernel)
theorem lcL_103 : Cond.methodLink RL 103 (xY mX6_ifAllCome) ∈ xWd := xWd_of (w := Cond.methodLink RL 103 (xY mX6_ifAllCome)) 636 (by decide +kernel) (by decide +kernel)
theorem lcL_106 : Cond.methodLink RL 106 (xY mX7_ifAllCome) ∈ xWd := xWd_of (w := Cond.methodLink RL 106 (xY mX7_ifAllCome)) 959 (by decide +kernel) (by decide +kernel)
theorem lcL_107 : Cond.methodLink RL 107 (xY mX6_bestClaim) ∈ xWd := xWd_of (w := Cond.methodLink RL 107 (xY mX6_bestClaim)) 653 (by decide +kernel) (by decide +kernel)
theorem lcL_110 : Cond.methodLink RL 110 (xY mX7_bestClaim) ∈ xWd := xWd_of (w := Cond.methodLink RL 110 (xY mX7_bestClaim)) 983 (by decide +kernel) (by decide +kernel)
theorem lcL_111 : Cond.methodLink RL 111 (xY mX6_count) ∈ xWd := xWd_of (w := Cond.methodLink RL 111 (xY mX6_count)) 657 (by decide +kernel) (by decide +kernel)
theorem lcL_114 : Cond.methodLink RL 114 (xY mX7_count) ∈ xWd := xWd_of (w := Cond.methodLink RL 114 (xY mX7_count)) 987 (by decide +kernel) (by decide +kernel)
theorem wi0 : Cond.instantiable RX0 8 ∈ xWd := xWd_of (w := Cond.instantiable RX0 8) 154 (by decide +kernel) (by decide +kernel)
theorem wn0 : Cond.initialized RX0 ∈ xWd := xWd_of (w := Cond.initialized RX0) 65 (by decide +kernel) (by decide +kernel)
theorem wi1 : Cond.instantiable RX1 4 ∈ xWd := xWd_of (w := Cond.instantiable RX1 4) 79 (by decide +kernel) (by decide +kernel)
theorem wn1 : Cond.initialized RX1 ∈ xWd := xWd_of (w := Cond.initialized RX1) 61 (by decide +kernel) (by decide +kernel)
theorem wi2 : Cond.instantiable RX2 3 ∈ xWd := xWd_of (w := Cond.instantiable RX2 3) 192 (by decide +kernel) (by decide +kernel)
theorem wn2 : Cond.initialized RX2 ∈ xWd := xWd_of (w := Cond.initialized RX2) 66 (by decide +kernel) (by decide +kernel)
theorem wi3 : Cond.instantiable RX3 2 ∈ xWd := xWd_of (w := Cond.instantiable RX3 2) 141 (by decide +kernel) (by decide +kernel)
theorem wn3 : Cond.initialized RX3 ∈ xWd := xWd_of (w := Cond.initialized RX3) 64 (by decide +kernel) (by decide +kernel)
theorem wi4 : Cond.instantiable RX4 6 ∈ xWd := xWd_of (w := Cond.instantiable RX4 6) 116 (by decide +kernel) (by decide +kernel)
theorem wn4 : Cond.initialized RX4 ∈ xWd := xWd_of (w := Cond.initialized RX4) 63 (by decide +kernel) (by decide +kernel)
theorem wi5 : Cond.instantiable RX5 9 ∈ xWd := xWd_of (w := Cond.instantiable RX5 9) 199 (by decide +kernel) (by decide +kernel)
theorem wn5 : Cond.initialized RX5 ∈ xWd := xWd_of (w := Cond.initialized RX5) 67 (by decide +kernel) (by decide +kernel)
theorem wi6 : Cond.instantiable RX6 13 ∈ xWd := xWd_of (w := Cond.instantiable RX6 13) 71 (by decide +kernel) (by decide +kernel)
theorem wn6 : Cond.initialized RX6 ∈ xWd := xWd_of (w := Cond.initialized RX6) 60 (by decide +kernel) (by decide +kernel)
theorem wi7 : Cond.instantiable RX7 19 ∈ xWd := xWd_of (w := Cond.instantiable RX7 19) 668 (by decide +kernel) (by decide +kernel)
theorem wn7 : Cond.initialized RX7 ∈ xWd := xWd_of (w := Cond.initialized RX7) 68 (by decide +kernel) (by decide +kernel)
/-! the world once both objects are made -/
abbrev xKd : Type := Nat ⊕ (FieldType × Nat)
def SH : List xKd := [.inl 6, .inl 1, .inr (.int, 192), .inr (.int, 192), .inr (.int, 82), .inr (.int, 82), .inl 4, .inr (.int, 48), .inr (.int, 48), .inr (.int, 48), .inr (.int, 48), .inr (.int, 48), .inl 3, .inl 0, .inr (.char, 60), .inr (.int, 60), .inr (.int, 60), .inr (.int, 60), .inr (.int, 60), .inl 2, .inr (.object "FenceDuel$State", 4), .inl 5, .inr (.int, 2), .inr (.int, 2), .inr (.int, 82), .inr (.int, 48), .inr (.int, 600), .inl 5, .inr (.int, 2), .inr (.int, 2), .inr (.int, 82), .inr (.int, 48), .inr (.int, 600), .inl 5, .inr (.int, 2), .inr (.int, 2), .inr (.int, 82), .inr (.int, 48), .inr (.int, 600), .inl 5, .inr (.int, 2), .inr (.int, 2), .inr (.int, 82), .inr (.int, 48), .inr (.int, 600), .inl 5, .inr (.int, 2), .inr (.int, 2), .inr (.int, 82), .inr (.int, 48), .inr (.int, 600), .inl 5, .inr (.int, 2), .inr (.int, 2), .inr (.int, 82), .inr (.int, 48), .inr (.int, 600), .inl 5, .inr (.int, 2), .inr (.int, 2), .inr (.int, 82), .inr (.int, 48), .inr (.int, 600), .inl 5, .inr (.int, 2), .inr (.int, 2), .inr (.int, 82), .inr (.int, 48), .inr (.int, 600), .inl 7, .inr (.int, 742), .inr (.int, 742), .inr (.int, 742), .inr (.int, 742), .inr (.int, 2968), .inr (.int, 60), .inr (.boolean, 48)]
def FF00 : xF := fun _ _ => none
def FF01 : xF := xup FF00 1 0 (some 2)
def FF02 : xF := xup FF01 1 1 (some 3)
def FF03 : xF := xup FF02 1 2 (some 4)
def FF04 : xF := xup FF03 1 3 (some 5)
def FF05 : xF := xup FF04 0 0 (some 1)
def FF06 : xF := xup FF05 6 1 (some 7)
def FF07 : xF := xup FF06 6 2 (some 8)
def FF08 : xF := xup FF07 6 3 (some 9)
def FF09 : xF := xup FF08 6 4 (some 10)
def FF10 : xF := xup FF09 6 5 (some 11)
def FF11 : xF := xup FF10 6 0 (some 1)
def FF12 : xF := xup FF11 0 1 (some 6)
def FF13 : xF := xup FF12 12 0 (some 1)
def FF14 : xF := xup FF13 12 1 (some 6)
def FF15 : xF := xup FF14 0 2 (some 12)
def FF16 : xF := xup FF15 13 0 (some 14)
def FF17 : xF := xup FF16 13 4 (some 15)
def FF18 : xF := xup FF17 13 5 (some 16)
def FF19 : xF := xup FF18 13 6 (some 17)
def FF20 : xF := xup FF19 13 7 (some 18)
def FF21 : xF := xup FF20 0 3 (some 13)
def FF22 : xF := xup FF21 21 4 (some 22)
def FF23 : xF := xup FF22 21 5 (some 23)
def FF24 : xF := xup FF23 21 6 (some 24)
def FF25 : xF := xup FF24 21 7 (some 25)
def FF26 : xF := xup FF25 21 8 (some 26)
def FF27 : xF := xup FF26 20 0 (some 21)
def FF28 : xF := xup FF27 27 4 (some 28)
def FF29 : xF := xup FF28 27 5 (some 29)
def FF30 : xF := xup FF29 27 6 (some 30)
def FF31 : xF := xup FF30 27 7 (some 31)
def FF32 : xF := xup FF31 27 8 (some 32)
def FF33 : xF := xup FF32 20 1 (some 27)
def FF34 : xF := xup FF33 33 4 (some 34)
def FF35 : xF := xup FF34 33 5 (some 35)
def FF36 : xF := xup FF35 33 6 (some 36)
def FF37 : xF := xup FF36 33 7 (some 37)
def FF38 : xF := xup FF37 33 8 (some 38)
def FF39 : xF := xup FF38 20 2 (some 33)
def FF40 : xF := xup FF39 39 4 (some 40)
def FF41 : xF := xup FF40 39 5 (some 41)
def FF42 : xF := xup FF41 39 6 (some 42)
def FF43 : xF := xup FF42 39 7 (some 43)
def FF44 : xF := xup FF43 39 8 (some 44)
def FF45 : xF := xup FF44 20 3 (some 39)
def FF46 : xF := xup FF45 19 0 (some 20)
def FF47 : xF := xup FF46 0 4 (some 19)
def FF48 : xF := xup FF47 45 4 (some 46)
def FF49 : xF := xup FF48 45 5 (some 47)
def FF50 : xF := xup FF49 45 6 (some 48)
def FF51 : xF := xup FF50 45 7 (some 49)
def FF52 : xF := xup FF51 45 8 (some 50)
def FF53 : xF := xup FF52 0 5 (some 45)
def FF54 : xF := xup FF53 51 4 (some 52)
def FF55 : xF := xup FF54 51 5 (some 53)
def FF56 : xF := xup FF55 51 6 (some 54)
def FF57 : xF := xup FF56 51 7 (some 55)
def FF58 : xF := xup FF57 51 8 (some 56)
def FF59 : xF := xup FF58 0 6 (some 51)
def FF60 : xF := xup FF59 57 4 (some 58)
def FF61 : xF := xup FF60 57 5 (some 59)
def FF62 : xF := xup FF61 57 6 (some 60)
def FF63 : xF := xup FF62 57 7 (some 61)
def FF64 : xF := xup FF63 57 8 (some 62)
def FF65 : xF := xup FF64 0 7 (some 57)
def FF66 : xF := xup FF65 63 4 (some 64)
def FF67 : xF := xup FF66 63 5 (some 65)
def FF68 : xF := xup FF67 63 6 (some 66)
def FF69 : xF := xup FF68 63 7 (some 67)
def FF70 : xF := xup FF69 63 8 (some 68)
def FF71 : xF := xup FF70 0 8 (some 63)
def FF72 : xF := xup FF71 69 0 (some 70)
def FF73 : xF := xup FF72 69 1 (some 71)
def FF74 : xF := xup FF73 69 2 (some 72)
def FF75 : xF := xup FF74 69 3 (some 73)
def FF76 : xF := xup FF75 69 5 (some 74)
def FF77 : xF := xup FF76 69 7 (some 75)
def FF78 : xF := xup FF77 69 11 (some 76)
abbrev FF : xF := FF78
theorem sh_0 : SH[0]? = some (.inl 6) := rfl
theorem sh_1 : SH[1]? = some (.inl 1) := rfl
theorem sh_2 : SH[2]? = some (.inr (.int, 192)) := rfl
theorem sh_3 : SH[3]? = some (.inr (.int, 192)) := rfl
theorem sh_4 : SH[4]? = some (.inr (.int, 82)) := rfl
theorem sh_5 : SH[5]? = some (.inr (.int, 82)) := rfl
theorem sh_6 : SH[6]? = some (.inl 4) := rfl
theorem sh_7 : SH[7]? = some (.inr (.int, 48)) := rfl
theorem sh_8 : SH[8]? = some (.inr (.int, 48)) := rfl
theorem sh_9 : SH[9]? = some (.inr (.int, 48)) := rfl
theorem sh_10 : SH[10]? = some (.inr (.int, 48)) := rfl
theorem sh_11 : SH[11]? = some (.inr (.int, 48)) := rfl
theorem sh_12 : SH[12]? = some (.inl 3) := rfl
theorem sh_13 : SH[13]? = some (.inl 0) := rfl
theorem sh_14 : SH[14]? = some (.inr (.char, 60)) := rfl
theorem sh_15 : SH[15]? = some (.inr (.int, 60)) := rfl
theorem sh_16 : SH[16]? = some (.inr (.int, 60)) := rfl
theorem sh_17 : SH[17]? = some (.inr (.int, 60)) := rfl
theorem sh_18 : SH[18]? = some (.inr (.int, 60)) := rfl
theorem sh_19 : SH[19]? = some (.inl 2) := rfl
theorem sh_20 : SH[20]? = some (.inr (.object "FenceDuel$State", 4)) := rfl
theorem sh_21 : SH[21]? = some (.inl 5) := rfl
theorem sh_22 : SH[22]? = some (.inr (.int, 2)) := rfl
theorem sh_23 : SH[23]? = some (.inr (.int, 2)) := rfl
theorem sh_24 : SH[24]? = some (.inr (.int, 82)) := rfl
theorem sh_25 : SH[25]? = some (.inr (.int, 48)) := rfl
theorem sh_26 : SH[26]? = some (.inr (.int, 600)) := rfl
theorem sh_27 : SH[27]? = some (.inl 5) := rfl
theorem sh_28 : SH[28]? = some (.inr (.int, 2)) := rfl
theorem sh_29 : SH[29]? = some (.inr (.int, 2)) := rfl
theorem sh_30 : SH[30]? = some (.inr (.int, 82)) := rfl
theorem sh_31 : SH[31]? = some (.inr (.int, 48)) := rfl
theorem sh_32 : SH[32]? = some (.inr (.int, 600)) := rfl
theorem sh_33 : SH[33]? = some (.inl 5) := rfl
theorem sh_34 : SH[34]? = some (.inr (.int, 2)) := rfl
theorem sh_35 : SH[35]? = some (.inr (.int, 2)) := rfl
theorem sh_36 : SH[36]? = some (.inr (.int, 82)) := rfl
theorem sh_37 : SH[37]? = some (.inr (.int, 48)) := rfl
theorem sh_38 : SH[38]? = some (.inr (.int, 600)) := rfl
theorem sh_39 : SH[39]? = some (.inl 5) := rfl
theorem sh_40 : SH[40]? = some (.inr (.int, 2)) := rfl
theorem sh_41 : SH[41]? = some (.inr (.int, 2)) := rfl
theorem sh_42 : SH[42]? = some (.inr (.int, 82)) := rfl
theorem sh_43 : SH[43]? = some (.inr (.int, 48)) := rfl
theorem sh_44 : SH[44]? = some (.inr (.int, 600)) := rfl
theorem sh_45 : SH[45]? = some (.inl 5) := rfl
theorem sh_46 : SH[46]? = some (.inr (.int, 2)) := rfl
theorem sh_47 : SH[47]? = some (.inr (.int, 2)) := rfl
theorem sh_48 : SH[48]? = some (.inr (.int, 82)) := rfl
theorem sh_49 : SH[49]? = some (.inr (.int, 48)) := rfl
theorem sh_50 : SH[50]? = some (.inr (.int, 600)) := rfl
theorem sh_51 : SH[51]? = some (.inl 5) := rfl
theorem sh_52 : SH[52]? = some (.inr (.int, 2)) := rfl
theorem sh_53 : SH[53]? = some (.inr (.int, 2)) := rfl
theorem sh_54 : SH[54]? = some (.inr (.int, 82)) := rfl
theorem sh_55 : SH[55]? = some (.inr (.int, 48)) := rfl
theorem sh_56 : SH[56]? = some (.inr (.int, 600)) := rfl
theorem sh_57 : SH[57]? = some (.inl 5) := rfl
theorem sh_58 : SH[58]? = some (.inr (.int, 2)) := rfl
theorem sh_59 : SH[59]? = some (.inr (.int, 2)) := rfl
theorem sh_60 : SH[60]? = some (.inr (.int, 82)) := rfl
theorem sh_61 : SH[61]? = some (.inr (.int, 48)) := rfl
theorem sh_62 : SH[62]? = some (.inr (.int, 600)) := rfl
theorem sh_63 : SH[63]? = some (.inl 5) := rfl
theorem sh_64 : SH[64]? = some (.inr (.int, 2)) := rfl
theorem sh_65 : SH[65]? = some (.inr (.int, 2)) := rfl
theorem sh_66 : SH[66]? = some (.inr (.int, 82)) := rfl
theorem sh_67 : SH[67]? = some (.inr (.int, 48)) := rfl
theorem sh_68 : SH[68]? = some (.inr (.int, 600)) := rfl
theorem sh_69 : SH[69]? = some (.inl 7) := rfl
theorem sh_70 : SH[70]? = some (.inr (.int, 742)) := rfl
theorem sh_71 : SH[71]? = some (.inr (.int, 742)) := rfl
theorem sh_72 : SH[72]? = some (.inr (.int, 742)) := rfl
theorem sh_73 : SH[73]? = some (.inr (.int, 742)) := rfl
theorem sh_74 : SH[74]? = some (.inr (.int, 2968)) := rfl
theorem sh_75 : SH[75]? = some (.inr (.int, 60)) := rfl
theorem sh_76 : SH[76]? = some (.inr (.boolean, 48)) := rfl
theorem ff_1_0 : FF 1 0 = some 2 := by decide +kernel
theorem ff_1_1 : FF 1 1 = some 3 := by decide +kernel
theorem ff_1_2 : FF 1 2 = some 4 := by decide +kernel
theorem ff_1_3 : FF 1 3 = some 5 := by decide +kernel
theorem ff_0_0 : FF 0 0 = some 1 := by decide +kernel
theorem ff_6_1 : FF 6 1 = some 7 := by decide +kernel
theorem ff_6_2 : FF 6 2 = some 8 := by decide +kernel
theorem ff_6_3 : FF 6 3 = some 9 := by decide +kernel
theorem ff_6_4 : FF 6 4 = some 10 := by decide +kernel
theorem ff_6_5 : FF 6 5 = some 11 := by decide +kernel
theorem ff_6_0 : FF 6 0 = some 1 := by decide +kernel
theorem ff_0_1 : FF 0 1 = some 6 := by decide +kernel
theorem ff_12_0 : FF 12 0 = some 1 := by decide +kernel
theorem ff_12_1 : FF 12 1 = some 6 := by decide +kernel
theorem ff_0_2 : FF 0 2 = some 12 := by decide +kernel
theorem ff_13_0 : FF 13 0 = some 14 := by decide +kernel
theorem ff_13_4 : FF 13 4 = some 15 := by decide +kernel
theorem ff_13_5 : FF 13 5 = some 16 := by decide +kernel
theorem ff_13_6 : FF 13 6 = some 17 := by decide +kernel
theorem ff_13_7 : FF 13 7 = some 18 := by decide +kernel
theorem ff_0_3 : FF 0 3 = some 13 := by decide +kernel
theorem ff_21_4 : FF 21 4 = some 22 := by decide +kernel
theorem ff_21_5 : FF 21 5 = some 23 := by decide +kernel
theorem ff_21_6 : FF 21 6 = some 24 := by decide +kernel
theorem ff_21_7 : FF 21 7 = some 25 := by decide +kernel
theorem ff_21_8 : FF 21 8 = some 26 := by decide +kernel
theorem ff_20_0 : FF 20 0 = some 21 := by decide +kernel
theorem ff_27_4 : FF 27 4 = some 28 := by decide +kernel
theorem ff_27_5 : FF 27 5 = some 29 := by decide +kernel
theorem ff_27_6 : FF 27 6 = some 30 := by decide +kernel
theorem ff_27_7 : FF 27 7 = some 31 := by decide +kernel
theorem ff_27_8 : FF 27 8 = some 32 := by decide +kernel
theorem ff_20_1 : FF 20 1 = some 27 := by decide +kernel
theorem ff_33_4 : FF 33 4 = some 34 := by decide +kernel
theorem ff_33_5 : FF 33 5 = some 35 := by decide +kernel
theorem ff_33_6 : FF 33 6 = some 36 := by decide +kernel
theorem ff_33_7 : FF 33 7 = some 37 := by decide +kernel
theorem ff_33_8 : FF 33 8 = some 38 := by decide +kernel
theorem ff_20_2 : FF 20 2 = some 33 := by decide +kernel
theorem ff_39_4 : FF 39 4 = some 40 := by decide +kernel
theorem ff_39_5 : FF 39 5 = some 41 := by decide +kernel
theorem ff_39_6 : FF 39 6 = some 42 := by decide +kernel
theorem ff_39_7 : FF 39 7 = some 43 := by decide +kernel
theorem ff_39_8 : FF 39 8 = some 44 := by decide +kernel
theorem ff_20_3 : FF 20 3 = some 39 := by decide +kernel
theorem ff_19_0 : FF 19 0 = some 20 := by decide +kernel
theorem ff_0_4 : FF 0 4 = some 19 := by decide +kernel
theorem ff_45_4 : FF 45 4 = some 46 := by decide +kernel
theorem ff_45_5 : FF 45 5 = some 47 := by decide +kernel
theorem ff_45_6 : FF 45 6 = some 48 := by decide +kernel
theorem ff_45_7 : FF 45 7 = some 49 := by decide +kernel
theorem ff_45_8 : FF 45 8 = some 50 := by decide +kernel
theorem ff_0_5 : FF 0 5 = some 45 := by decide +kernel
theorem ff_51_4 : FF 51 4 = some 52 := by decide +kernel
theorem ff_51_5 : FF 51 5 = some 53 := by decide +kernel
theorem ff_51_6 : FF 51 6 = some 54 := by decide +kernel
theorem ff_51_7 : FF 51 7 = some 55 := by decide +kernel
theorem ff_51_8 : FF 51 8 = some 56 := by decide +kernel
theorem ff_0_6 : FF 0 6 = some 51 := by decide +kernel
theorem ff_57_4 : FF 57 4 = some 58 := by decide +kernel
theorem ff_57_5 : FF 57 5 = some 59 := by decide +kernel
theorem ff_57_6 : FF 57 6 = some 60 := by decide +kernel
theorem ff_57_7 : FF 57 7 = some 61 := by decide +kernel
theorem ff_57_8 : FF 57 8 = some 62 := by decide +kernel
theorem ff_0_7 : FF 0 7 = some 57 := by decide +kernel
theorem ff_63_4 : FF 63 4 = some 64 := by decide +kernel
theorem ff_63_5 : FF 63 5 = some 65 := by decide +kernel
theorem ff_63_6 : FF 63 6 = some 66 := by decide +kernel
theorem ff_63_7 : FF 63 7 = some 67 := by decide +kernel
theorem ff_63_8 : FF 63 8 = some 68 := by decide +kernel
theorem ff_0_8 : FF 0 8 = some 63 := by decide +kernel
theorem ff_69_0 : FF 69 0 = some 70 := by decide +kernel
theorem ff_69_1 : FF 69 1 = some 71 := by decide +kernel
theorem ff_69_2 : FF 69 2 = some 72 := by decide +kernel
theorem ff_69_3 : FF 69 3 = some 73 := by decide +kernel
theorem ff_69_5 : FF 69 5 = some 74 := by decide +kernel
theorem ff_69_7 : FF 69 7 = some 75 := by decide +kernel
theorem ff_69_11 : FF 69 11 = some 76 := by decide +kernel
/-- b is a state: its five arrays lie behind it -/
def xSt (b : Nat) : Prop := SH[b]? = some (.inl 5) ∧ SH[b + 1]? = some (.inr (.int, 2)) ∧ SH[b + 2]? = some (.inr (.int, 2)) ∧ SH[b + 3]? = some (.inr (.int, 82)) ∧ SH[b + 4]? = some (.inr (.int, 48)) ∧ SH[b + 5]? = some (.inr (.int, 600)) ∧ FF b 4 = some (b + 1) ∧ FF b 5 = some (b + 2) ∧ FF b 6 = some (b + 3) ∧ FF b 7 = some (b + 4) ∧ FF b 8 = some (b + 5)
theorem xst_21 : xSt 21 := by unfold xSt; decide +kernel
theorem xst_27 : xSt 27 := by unfold xSt; decide +kernel
theorem xst_33 : xSt 33 := by unfold xSt; decide +kernel
theorem xst_39 : xSt 39 := by unfold xSt; decide +kernel
theorem xst_45 : xSt 45 := by unfold xSt; decide +kernel
theorem xst_51 : xSt 51 := by unfold xSt; decide +kernel
theorem xst_57 : xSt 57 := by unfold xSt; decide +kernel
theorem xst_63 : xSt 63 := by unfold xSt; decide +kernel
theorem xSt.s0 {b : Nat} (h : xSt b) : SH[b]? = some (.inl 5) := h.1
theorem xSt.s1 {b : Nat} (h : xSt b) : SH[b + 1]? = some (.inr (.int, 2)) := h.2.1
theorem xSt.s2 {b : Nat} (h : xSt b) : SH[b + 2]? = some (.inr (.int, 2)) := h.2.2.1
theorem xSt.s3 {b : Nat} (h : xSt b) : SH[b + 3]? = some (.inr (.int, 82)) := h.2.2.2.1
theorem xSt.s4 {b : Nat} (h : xSt b) : SH[b + 4]? = some (.inr (.int, 48)) := h.2.2.2.2.1
theorem xSt.s5 {b : Nat} (h : xSt b) : SH[b + 5]? = some (.inr (.int, 600)) := h.2.2.2.2.2.1
theorem xSt.f4 {b : Nat} (h : xSt b) : FF b 4 = some (b + 1) := h.2.2.2.2.2.2.1
theorem xSt.f5 {b : Nat} (h : xSt b) : FF b 5 = some (b + 2) := h.2.2.2.2.2.2.2.1
theorem xSt.f6 {b : Nat} (h : xSt b) : FF b 6 = some (b + 3) := h.2.2.2.2.2.2.2.2.1
theorem xSt.f7 {b : Nat} (h : xSt b) : FF b 7 = some (b + 4) := h.2.2.2.2.2.2.2.2.2.1
theorem xSt.f8 {b : Nat} (h : xSt b) : FF b 8 = some (b + 5) := h.2.2.2.2.2.2.2.2.2.2
/-- a is one of the game's rows -/
def xGr (a : Nat) : Prop := SH[a]? = some (.inr (.int, 60))
theorem xgr_15 : xGr 15 := rfl
theorem xgr_16 : xGr 16 := rfl
theorem xgr_17 : xGr 17 := rfl
theorem xgr_18 : xGr 18 := rfl
/-- the history's states -/
theorem xHs {j : Nat} (h : j < 4) : FF 20 j = some (21 + 6 * j) ∧ xSt (21 + 6 * j) := by
  match j, h with
  | 0, _ => exact ⟨ff_20_0, xst_21⟩
  | 1, _ => exact ⟨ff_20_1, xst_27⟩
  | 2, _ => exact ⟨ff_20_2, xst_33⟩
  | 3, _ => exact ⟨ff_20_3, xst_39⟩
/-! numbers -/
theorem ki_m1 : Int32.ofInt ((-1)) = ((-1) : Int32) := by decide +kernel
theorem ki_0 : Int32.ofInt (0) = (0 : Int32) := by decide +kernel
theorem ki_1 : Int32.ofInt (1) = (1 : Int32) := by decide +kernel
theorem ki_2 : Int32.ofInt (2) = (2 : Int32) := by decide +kernel
theorem ki_3 : Int32.ofInt (3) = (3 : Int32) := by decide +kernel
theorem ki_4 : Int32.ofInt (4) = (4 : Int32) := by decide +kernel
theorem ki_5 : Int32.ofInt (5) = (5 : Int32) := by decide +kernel
theorem kb_m100 : (Int8.ofInt ((-100))).toInt32 = ((-100) : Int32) := by decide +kernel
theorem kb_m5 : (Int8.ofInt ((-5))).toInt32 = ((-5) : Int32) := by decide +kernel
theorem kb_m4 : (Int8.ofInt ((-4))).toInt32 = ((-4) : Int32) := by decide +kernel
theorem kb_m3 : (Int8.ofInt ((-3))).toInt32 = ((-3) : Int32) := by decide +kernel
theorem kb_m2 : (Int8.ofInt ((-2))).toInt32 = ((-2) : Int32) := by decide +kernel
theorem kb_6 : (Int8.ofInt (6)).toInt32 = (6 : Int32) := by decide +kernel
theorem kb_7 : (Int8.ofInt (7)).toInt32 = (7 : Int32) := by decide +kernel
theorem kb_8 : (Int8.ofInt (8)).toInt32 = (8 : Int32) := by decide +kernel
theorem kb_9 : (Int8.ofInt (9)).toInt32 = (9 : Int32) := by decide +kernel
theorem kb_10 : (Int8.ofInt (10)).toInt32 = (10 : Int32) := by decide +kernel
theorem kb_11 : (Int8.ofInt (11)).toInt32 = (11 : Int32) := by decide +kernel
theorem kb_12 : (Int8.ofInt (12)).toInt32 = (12 : Int32) := by decide +kernel
theorem kb_14 : (Int8.ofInt (14)).toInt32 = (14 : Int32) := by decide +kernel
theorem kb_16 : (Int8.ofInt (16)).toInt32 = (16 : Int32) := by decide +kernel
theorem kb_24 : (Int8.ofInt (24)).toInt32 = (24 : Int32) := by decide +kernel
theorem kb_31 : (Int8.ofInt (31)).toInt32 = (31 : Int32) := by decide +kernel
theorem kb_42 : (Int8.ofInt (42)).toInt32 = (42 : Int32) := by decide +kernel
theorem kb_46 : (Int8.ofInt (46)).toInt32 = (46 : Int32) := by decide +kernel
theorem kb_47 : (Int8.ofInt (47)).toInt32 = (47 : Int32) := by decide +kernel
theorem kb_48 : (Int8.ofInt (48)).toInt32 = (48 : Int32) := by decide +kernel
theorem kb_49 : (Int8.ofInt (49)).toInt32 = (49 : Int32) := by decide +kernel
theorem kb_57 : (Int8.ofInt (57)).toInt32 = (57 : Int32) := by decide +kernel
theorem kb_59 : (Int8.ofInt (59)).toInt32 = (59 : Int32) := by decide +kernel
theorem kb_60 : (Int8.ofInt (60)).toInt32 = (60 : Int32) := by decide +kernel
theorem kb_82 : (Int8.ofInt (82)).toInt32 = (82 : Int32) := by decide +kernel
theorem kb_94 : (Int8.ofInt (94)).toInt32 = (94 : Int32) := by decide +kernel
theorem kb_99 : (Int8.ofInt (99)).toInt32 = (99 : Int32) := by decide +kernel
theorem ks_142 : (Int16.ofInt (142)).toInt32 = (142 : Int32) := by decide +kernel
theorem ks_192 : (Int16.ofInt (192)).toInt32 = (192 : Int32) := by decide +kernel
theorem ks_255 : (Int16.ofInt (255)).toInt32 = (255 : Int32) := by decide +kernel
theorem ks_600 : (Int16.ofInt (600)).toInt32 = (600 : Int32) := by decide +kernel
theorem ks_742 : (Int16.ofInt (742)).toInt32 = (742 : Int32) := by decide +kernel
theorem ks_2226 : (Int16.ofInt (2226)).toInt32 = (2226 : Int32) := by decide +kernel
theorem ks_2968 : (Int16.ofInt (2968)).toInt32 = (2968 : Int32) := by decide +kernel
theorem ks_9999 : (Int16.ofInt (9999)).toInt32 = (9999 : Int32) := by decide +kernel
theorem ks_10008 : (Int16.ofInt (10008)).toInt32 = (10008 : Int32) := by decide +kernel
theorem kn_0 : (0 : Int32).toNatClampNeg = 0 := by decide +kernel
theorem kn_1 : (1 : Int32).toNatClampNeg = 1 := by decide +kernel
theorem kn_2 : (2 : Int32).toNatClampNeg = 2 := by decide +kernel
theorem kn_3 : (3 : Int32).toNatClampNeg = 3 := by decide +kernel
theorem kn_4 : (4 : Int32).toNatClampNeg = 4 := by decide +kernel
theorem kn_5 : (5 : Int32).toNatClampNeg = 5 := by decide +kernel
theorem kn_6 : (6 : Int32).toNatClampNeg = 6 := by decide +kernel
theorem kn_7 : (7 : Int32).toNatClampNeg = 7 := by decide +kernel
theorem kn_8 : (8 : Int32).toNatClampNeg = 8 := by decide +kernel
theorem kn_9 : (9 : Int32).toNatClampNeg = 9 := by decide +kernel
theorem kn_10 : (10 : Int32).toNatClampNeg = 10 := by decide +kernel
theorem kn_11 : (11 : Int32).toNatClampNeg = 11 := by decide +kernel
theorem kn_12 : (12 : Int32).toNatClampNeg = 12 := by decide +kernel
theorem kn_14 : (14 : Int32).toNatClampNeg = 14 := by decide +kernel
theorem kn_16 : (16 : Int32).toNatClampNeg = 16 := by decide +kernel
theorem kn_24 : (24 : Int32).toNatClampNeg = 24 := by decide +kernel
theorem kn_31 : (31 : Int32).toNatClampNeg = 31 := by decide +kernel
theorem kn_42 : (42 : Int32).toNatClampNeg = 42 := by decide +kernel
theorem kn_46 : (46 : Int32).toNatClampNeg = 46 := by decide +kernel
theorem kn_47 : (47 : Int32).toNatClampNeg = 47 := by decide +kernel
theorem kn_48 : (48 : Int32).toNatClampNeg = 48 := by decide +kernel
theorem kn_49 : (49 : Int32).toNatClampNeg = 49 := by decide +kernel
theorem kn_57 : (57 : Int32).toNatClampNeg = 57 := by decide +kernel
theorem kn_59 : (59 : Int32).toNatClampNeg = 59 := by decide +kernel
theorem kn_60 : (60 : Int32).toNatClampNeg = 60 := by decide +kernel
theorem kn_82 : (82 : Int32).toNatClampNeg = 82 := by decide +kernel
theorem kn_94 : (94 : Int32).toNatClampNeg = 94 := by decide +kernel
theorem kn_99 : (99 : Int32).toNatClampNeg = 99 := by decide +kernel
theorem kn_142 : (142 : Int32).toNatClampNeg = 142 := by decide +kernel
theorem kn_192 : (192 : Int32).toNatClampNeg = 192 := by decide +kernel
theorem kn_255 : (255 : Int32).toNatClampNeg = 255 := by decide +kernel
theorem kn_600 : (600 : Int32).toNatClampNeg = 600 := by decide +kernel
theorem kn_742 : (742 : Int32).toNatClampNeg = 742 := by decide +kernel
theorem kn_2226 : (2226 : Int32).toNatClampNeg = 2226 := by decide +kernel
theorem kn_2968 : (2968 : Int32).toNatClampNeg = 2968 := by decide +kernel
theorem kn_9999 : (9999 : Int32).toNatClampNeg = 9999 := by decide +kernel
theorem kn_10008 : (10008 : Int32).toNatClampNeg = 10008 := by decide +kernel
end
section
abbrev xto (M : xM) (r : Int32 × xI) : Option Int32 × xS := ((xT M).map (fun _ => r.1), (SH, FF, r.2))
/-- from pc the method comes to its end with o's answer and ints (0 where it returns nothing) -/
abbrev Ey (X : Option (Nat × (Nat → Int32))) (M : xM) (pc : Nat) (ls : List (Option xV)) (st : List xV) (I : xI) (o : Option (Int32 × xI)) : Prop := Ex X M pc ls st (SH, FF, I) (o.map (xto M))
def xb (o : Option (Int32 × xI)) (k : Int32 → xI → Option (Int32 × xI)) : Option (Int32 × xI) := o.bind (fun r => k r.1 r.2)
theorem xb_some (r : Int32) (I : xI) (k : Int32 → xI → Option (Int32 × xI)) : xb (some (r, I)) k = k r I := rfl
theorem xb_none (k : Int32 → xI → Option (Int32 × xI)) : xb none k = none := rfl
/-- fuel of loops -/
def xZ : Nat := 4000
section EY
variable {X : Option (Nat × (Nat → Int32))} {M : xM} {pc : Nat} {ls ls' : List (Option xV)} {st : List xV} {I : xI} {o : Option (Int32 × xI)}
theorem Ey.nil : Ey X M pc ls st I none := Ex.nil
theorem Ey.ite {c : Prop} [inst : Decidable c] {o1 o2 : Option (Int32 × xI)} (h1 : c → Ey X M pc ls st I o1) (h2 : ¬ c → Ey X M pc ls st I o2) : Ey X M pc ls st I (@_root_.ite _ c inst o1 o2) := by
  by_cases h : c
  · rw [if_pos h]; exact h1 h
  · rw [if_neg h]; exact h2 h
theorem Ey.guard {c : Prop} [inst : Decidable c] (h1 : c → Ey X M pc ls st I o) : Ey X M pc ls st I (@_root_.ite _ c inst o none) := Ey.ite h1 (fun _ => Ey.nil)
theorem Ey.ireturn {x : Int32} {ty : FieldType} (hd : decode (xB M) pc = .ok (.ireturn, 1)) (hT : xT M = some ty) (hn : narrow ty (.int x) = .int x) : Ey X M pc ls [.inl x] I (some (x, I)) := by
  have h := Ex.ireturn (X := X) (M := M) (ls := ls) (σ := (SH, FF, I)) hd hT hn
  show Ex X M pc ls [.inl x] (SH, FF, I) (some (xto M (x, I)))
  unfold xto
  rw [hT]
  exact h
theorem Ey.ret (hd : decode (xB M) pc = .ok (.return_, 1)) (hT : xT M = none) : Ey X M pc ls [] I (some (0, I)) := by
  have h := Ex.ret (X := X) (M := M) (ls := ls) (σ := (SH, FF, I)) hd hT
  show Ex X M pc ls [] (SH, FF, I) (some (xto M (0, I)))
  unfold xto
  rw [hT]
  exact h

theorem Ey.if_eq {x : Int32} {off : Int} {tgt : Nat} (hd : decode (xB M) pc = .ok (.ifCond .eq off, 3)) (ht : (pc : Int) + off = (tgt : Int)) {o1 o2 : Option (Int32 × xI)} (kt : x = 0 → Ey X M tgt ls st I o1) (kf : ¬ (x = 0) → Ey X M (pc + 3) ls st I o2) : Ey X M pc ls (.inl x :: st) I (if x = 0 then o1 else o2) := by
  unfold Ey
  rw [apply_ite (Option.map (xto M))]
  exact Ex.if_eq hd ht kt kf
theorem Ey.icmp_eq {x y : Int32} {off : Int} {tgt : Nat} (hd : decode (xB M) pc = .ok (.if_icmp .eq off, 3)) (ht : (pc : Int) + off = (tgt : Int)) {o1 o2 : Option (Int32 × xI)} (kt : x = y → Ey X M tgt ls st I o1) (kf : ¬ (x = y) → Ey X M (pc + 3) ls st I o2) : Ey X M pc ls (.inl y :: .inl x :: st) I (if x = y then o1 else o2) := by
  unfold Ey
  rw [apply_ite (Option.map (xto M))]
  exact Ex.icmp_eq hd ht kt kf
theorem Ey.if_ne {x : Int32} {off : Int} {tgt : Nat} (hd : decode (xB M) pc = .ok (.ifCond .ne off, 3)) (ht : (pc : Int) + off = (tgt : Int)) {o1 o2 : Option (Int32 × xI)} (kt : x ≠ 0 → Ey X M tgt ls st I o1) (kf : ¬ (x ≠ 0) → Ey X M (pc + 3) ls st I o2) : Ey X M pc ls (.inl x :: st) I (if x ≠ 0 then o1 else o2) := by
  unfold Ey
  rw [apply_ite (Option.map (xto M))]
  exact Ex.if_ne hd ht kt kf
theorem Ey.icmp_ne {x y : Int32} {off : Int} {tgt : Nat} (hd : decode (xB M) pc = .ok (.if_icmp .ne off, 3)) (ht : (pc : Int) + off = (tgt : Int)) {o1 o2 : Option (Int32 × xI)} (kt : x ≠ y → Ey X M tgt ls st I o1) (kf : ¬ (x ≠ y) → Ey X M (pc + 3) ls st I o2) : Ey X M pc ls (.inl y :: .inl x :: st) I (if x ≠ y then o1 else o2) := by
  unfold Ey
  rw [apply_ite (Option.map (xto M))]
  exact Ex.icmp_ne hd ht kt kf
theorem Ey.if_lt {x : Int32} {off : Int} {tgt : Nat} (hd : decode (xB M) pc = .ok (.ifCond .lt off, 3)) (ht : (pc : Int) + off = (tgt : Int)) {o1 o2 : Option (Int32 × xI)} (kt : x < 0 → Ey X M tgt ls st I o1) (kf : ¬ (x < 0) → Ey X M (pc + 3) ls st I o2) : Ey X M pc ls (.inl x :: st) I (if x < 0 then o1 else o2) := by
  unfold Ey
  rw [apply_ite (Option.map (xto M))]
  exact Ex.if_lt hd ht kt kf
theorem Ey.icmp_lt {x y : Int32} {off : Int} {tgt : Nat} (hd : decode (xB M) pc = .ok (.if_icmp .lt off, 3)) (ht : (pc : Int) + off = (tgt : Int)) {o1 o2 : Option (Int32 × xI)} (kt : x < y → Ey X M tgt ls st I o1) (kf : ¬ (x < y) → Ey X M (pc + 3) ls st I o2) : Ey X M pc ls (.inl y :: .inl x :: st) I (if x < y then o1 else o2) := by
  unfold Ey
  rw [apply_ite (Option.map (xto M))]
  exact Ex.icmp_lt hd ht kt kf
theorem Ey.if_ge {x : Int32} {off : Int} {tgt : Nat} (hd : decode (xB M) pc = .ok (.ifCond .ge off, 3)) (ht : (pc : Int) + off = (tgt : Int)) {o1 o2 : Option (Int32 × xI)} (kt : x ≥ 0 → Ey X M tgt ls st I o1) (kf : ¬ (x ≥ 0) → Ey X M (pc + 3) ls st I o2) : Ey X M pc ls (.inl x :: st) I (if x ≥ 0 then o1 else o2) := by
  unfold Ey
  rw [apply_ite (Option.map (xto M))]
  exact Ex.if_ge hd ht kt kf
theorem Ey.icmp_ge {x y : Int32} {off : Int} {tgt : Nat} (hd : decode (xB M) pc = .ok (.if_icmp .ge off, 3)) (ht : (pc : Int) + off = (tgt : Int)) {o1 o2 : Option (Int32 × xI)} (kt : x ≥ y → Ey X M tgt ls st I o1) (kf : ¬ (x ≥ y) → Ey X M (pc + 3) ls st I o2) : Ey X M pc ls (.inl y :: .inl x :: st) I (if x ≥ y then o1 else o2) := by
  unfold Ey
  rw [apply_ite (Option.map (xto M))]
  exact Ex.icmp_ge hd ht kt kf
theorem Ey.if_gt {x : Int32} {off : Int} {tgt : Nat} (hd : decode (xB M) pc = .ok (.ifCond .gt off, 3)) (ht : (pc : Int) + off = (tgt : Int)) {o1 o2 : Option (Int32 × xI)} (kt : x > 0 → Ey X M tgt ls st I o1) (kf : ¬ (x > 0) → Ey X M (pc + 3) ls st I o2) : Ey X M pc ls (.inl x :: st) I (if x > 0 then o1 else o2) := by
  unfold Ey
  rw [apply_ite (Option.map (xto M))]
  exact Ex.if_gt hd ht kt kf
theorem Ey.icmp_gt {x y : Int32} {off : Int} {tgt : Nat} (hd : decode (xB M) pc = .ok (.if_icmp .gt off, 3)) (ht : (pc : Int) + off = (tgt : Int)) {o1 o2 : Option (Int32 × xI)} (kt : x > y → Ey X M tgt ls st I o1) (kf : ¬ (x > y) → Ey X M (pc + 3) ls st I o2) : Ey X M pc ls (.inl y :: .inl x :: st) I (if x > y then o1 else o2) := by
  unfold Ey
  rw [apply_ite (Option.map (xto M))]
  exact Ex.icmp_gt hd ht kt kf
theorem Ey.if_le {x : Int32} {off : Int} {tgt : Nat} (hd : decode (xB M) pc = .ok (.ifCond .le off, 3)) (ht : (pc : Int) + off = (tgt : Int)) {o1 o2 : Option (Int32 × xI)} (kt : x ≤ 0 → Ey X M tgt ls st I o1) (kf : ¬ (x ≤ 0) → Ey X M (pc + 3) ls st I o2) : Ey X M pc ls (.inl x :: st) I (if x ≤ 0 then o1 else o2) := by
  unfold Ey
  rw [apply_ite (Option.map (xto M))]
  exact Ex.if_le hd ht kt kf
theorem Ey.icmp_le {x y : Int32} {off : Int} {tgt : Nat} (hd : decode (xB M) pc = .ok (.if_icmp .le off, 3)) (ht : (pc : Int) + off = (tgt : Int)) {o1 o2 : Option (Int32 × xI)} (kt : x ≤ y → Ey X M tgt ls st I o1) (kf : ¬ (x ≤ y) → Ey X M (pc + 3) ls st I o2) : Ey X M pc ls (.inl y :: .inl x :: st) I (if x ≤ y then o1 else o2) := by
  unfold Ey
  rw [apply_ite (Option.map (xto M))]
  exact Ex.icmp_le hd ht kt kf
theorem Ey.istore_n {k0 : Fin 4} {i : Nat} {x : Int32} (hd : decode (xB M) pc = .ok (.istore_n k0, 1)) (hi : (k0 : Nat) = i) (hn : i < xL M) (hs : ls.set i (some (.inl x)) = ls') (k : Ey X M (pc + 1) ls' st I o) : Ey X M pc ls (.inl x :: st) I o := Ex.istore_n hd hi hn (hs ▸ k)
theorem Ey.istore {i : Nat} {x : Int32} (hd : decode (xB M) pc = .ok (.istore i, 2)) (hn : i < xL M) (hs : ls.set i (some (.inl x)) = ls') (k : Ey X M (pc + 2) ls' st I o) : Ey X M pc ls (.inl x :: st) I o := Ex.istore hd hn (hs ▸ k)
theorem Ey.astore_n {k0 : Fin 4} {i r : Nat} (hd : decode (xB M) pc = .ok (.astore_n k0, 1)) (hi : (k0 : Nat) = i) (hn : i < xL M) (hs : ls.set i (some (.inr (some r))) = ls') (k : Ey X M (pc + 1) ls' st I o) : Ey X M pc ls (.inr (some r) :: st) I o := Ex.astore_n hd hi hn (hs ▸ k)
theorem Ey.astore {i r : Nat} (hd : decode (xB M) pc = .ok (.astore i, 2)) (hn : i < xL M) (hs : ls.set i (some (.inr (some r))) = ls') (k : Ey X M (pc + 2) ls' st I o) : Ey X M pc ls (.inr (some r) :: st) I o := Ex.astore hd hn (hs ▸ k)
theorem Ey.iinc {i : Nat} {n : Int} {x y : Int32} (hd : decode (xB M) pc = .ok (.iinc i n, 3)) (hg : ls[i]? = some (some (.inl x))) (hv : Int32.ofInt n = y) (hn : i < xL M) (hs : ls.set i (some (.inl (x + y))) = ls') (k : Ey X M (pc + 3) ls' st I o) : Ey X M pc ls st I o := Ex.iinc hd hg hv hn (hs ▸ k)
theorem Ey.iaload {k n j : Nat} {i : Int32} (hd : decode (xB M) pc = .ok (.iaload, 1)) (hk : SH[k]? = some (.inr (.int, n))) (hj : i.toNatClampNeg = j) (hi : xin i n) (kk : Ey X M (pc + 1) ls (.inl (I k j) :: st) I o) : Ey X M pc ls (.inl i :: .inr (some k) :: st) I o := by
  subst hj
  exact Ex.iaload hd hk hi kk
theorem Ey.caload {k n j : Nat} {i : Int32} (hd : decode (xB M) pc = .ok (.caload, 1)) (hk : SH[k]? = some (.inr (.char, n))) (hj : i.toNatClampNeg = j) (hi : xin i n) (kk : Ey X M (pc + 1) ls (.inl (I k j) :: st) I o) : Ey X M pc ls (.inl i :: .inr (some k) :: st) I o := by
  subst hj
  exact Ex.caload hd hk hi kk
theorem Ey.baload {k n j : Nat} {i : Int32} (hd : decode (xB M) pc = .ok (.baload, 1)) (hk : SH[k]? = some (.inr (.boolean, n))) (hj : i.toNatClampNeg = j) (hi : xin i n) (kk : Ey X M (pc + 1) ls (.inl (I k j) :: st) I o) : Ey X M pc ls (.inl i :: .inr (some k) :: st) I o := by
  subst hj
  exact Ex.baload hd hk hi kk
theorem Ey.iastore {k n j : Nat} {i x : Int32} (hd : decode (xB M) pc = .ok (.iastore, 1)) (hk : SH[k]? = some (.inr (.int, n))) (hj : i.toNatClampNeg = j) (hi : xin i n) (kk : Ey X M (pc + 1) ls st (xup I k j x) o) : Ey X M pc ls (.inl x :: .inl i :: .inr (some k) :: st) I o := by
  subst hj
  exact Ex.iastore hd hk hi kk
theorem Ey.castore {k n j : Nat} {i x : Int32} (hd : decode (xB M) pc = .ok (.castore, 1)) (hk : SH[k]? = some (.inr (.char, n))) (hj : i.toNatClampNeg = j) (hi : xin i n) (kk : Ey X M (pc + 1) ls st (xup I k j (vp_nar .char x)) o) : Ey X M pc ls (.inl x :: .inl i :: .inr (some k) :: st) I o := by
  subst hj
  exact Ex.castore hd hk hi kk
theorem Ey.bastore {k n j : Nat} {i x : Int32} (hd : decode (xB M) pc = .ok (.bastore, 1)) (hk : SH[k]? = some (.inr (.boolean, n))) (hj : i.toNatClampNeg = j) (hi : xin i n) (kk : Ey X M (pc + 1) ls st (xup I k j (vp_nar .boolean x)) o) : Ey X M pc ls (.inl x :: .inl i :: .inr (some k) :: st) I o := by
  subst hj
  exact Ex.bastore hd hk hi kk
theorem Ey.acopy {idx a a0 n N : Nat} {n' : Int32} (hd : decode (xB M) pc = .ok (.invokestatic idx, 3)) (hl1 : Cond.methodLink (xY M).cls idx arraycopyName ∈ xWd) (ha0 : SH[a0]? = some (.inr (.int, N))) (ha : SH[a]? = some (.inr (.int, N))) (q3 : ¬ n' < 0) (hn : n'.toNatClampNeg = n) (q4 : n ≤ N) (hf : 1 ≤ xFr M) (hlw : st.length + 18 ≤ xLo M)
    (kk : Ey X M (pc + 3) ls st (xcp I a a0 0 0 n) o) : Ey X M pc ls (.inl n' :: .inl 0 :: .inr (some a) :: .inl 0 :: .inr (some a0) :: st) I o := by
  subst hn
  exact Ex.acopy hd hl1 wd_ac1 wd_ac2 wd_ac3 ha0 ha (by decide) (by decide) q3 (by show 0 + _ ≤ _; omega) (by show 0 + _ ≤ _; omega) hf hlw kk
theorem Ey.conv {M' : xM} {f : Option (Int32 × xI)} {K : Int32 → xI → Option (Int32 × xI)} (hT : xT M' ≠ none) : (xb f K).map (xto M) = (f.map (xto M')).bind (fun r => ((r.1.map (fun x => K x r.2.2.2)).bind id).map (xto M)) := by
  cases f with
  | none => rfl
  | some r =>
    cases h : xT M' with
    | none => exact absurd h hT
    | some ty => simp [xb, xto, h]
theorem Ey.convV {M' : xM} {f : Option (Int32 × xI)} {K : Int32 → xI → Option (Int32 × xI)} (hT : xT M' = none) (h0 : ∀ r I', f = some (r, I') → r = 0) : (xb f K).map (xto M) = (f.map (xto M')).bind (fun r => (K 0 r.2.2.2).map (xto M)) := by
  cases f with
  | none => rfl
  | some r =>
    obtain ⟨r1, I1⟩ := r
    have := h0 r1 I1 rfl
    subst this
    simp [xb, xto]
theorem Ey.callVi {M' : xM} {idx n : Nat} {as rest st0 : List xV} {f : Option (Int32 × xI)} {K : Int32 → xI → Option (Int32 × xI)} {ty : FieldType} (hT : xT M' = some ty) (hd : decode (xB M) pc = .ok (.invokevirtual idx, 3)) (hM : xIsV M' n) (hl1 : Cond.methodLink (xY M).cls idx (xY M') ∈ xWd) {k ci N : Nat} {T : u_T} (hk : SH[k]? = some (.inl ci)) (hci : vwCl[ci]? = some ((xY M').cls, T, N)) (hn : as.length = n) (hroom : xFr M' + 1 ≤ xFr M ∧ 8 + (xL M' + 11) + xLo M' ≤ xLo M) (hst : st0 = as.reverse ++ .inr (some k) :: rest) (hr8 : rest.length ≤ 8) (hargs : as.length + 1 ≤ xL M')
    (h1 : Ey none M' 0 (xEnt (.inr (some k) :: as) (xL M')) [] I f) (h2 : ∀ r I', Ey X M (pc + 3) ls (.inl r :: rest) I' (K r I')) : Ey X M pc ls st0 I (xb f K) := by
  subst hn
  unfold Ey
  rw [Ey.conv (M' := M') (by rw [hT]; exact fun h => by cases h)]
  refine Ex.callV (K := fun v σ => ((v.map (fun x => K x σ.2.2)).bind id).map (xto M)) hd hM.1 hl1 hM.2.1 hM.2.2.1 hM.2.2.2 hroom hk hci hst hr8 hargs (Or.inl ?_) h1 ?_
  · intro v σ1 h
    cases f with
    | none => cases h
    | some r => cases h; rfl
  · intro v σ1 h
    cases f with
    | none => cases h
    | some r =>
      obtain ⟨r1, I1⟩ := r
      have h : some (xto M' (r1, I1)) = some (v, σ1) := h
      unfold xto at h
      rw [hT] at h
      cases h
      exact h2 r1 I1
theorem Ey.callVv {M' : xM} {idx n : Nat} {as rest st0 : List xV} {f : Option (Int32 × xI)} {K : xI → Option (Int32 × xI)} (hT : xT M' = none) (hd : decode (xB M) pc = .ok (.invokevirtual idx, 3)) (hM : xIsV M' n) (hl1 : Cond.methodLink (xY M).cls idx (xY M') ∈ xWd) {k ci N : Nat} {T : u_T} (hk : SH[k]? = some (.inl ci)) (hci : vwCl[ci]? = some ((xY M').cls, T, N)) (hn : as.length = n) (hroom : xFr M' + 1 ≤ xFr M ∧ 8 + (xL M' + 11) + xLo M' ≤ xLo M) (hst : st0 = as.reverse ++ .inr (some k) :: rest) (hr8 : rest.length ≤ 8) (hargs : as.length + 1 ≤ xL M')
    (h1 : Ey none M' 0 (xEnt (.inr (some k) :: as) (xL M')) [] I f) (h2 : ∀ I', Ey X M (pc + 3) ls rest I' (K I')) : Ey X M pc ls st0 I (xb f (fun _ I' => K I')) := by
  subst hn
  unfold Ey
  have e : (xb f (fun _ I' => K I')).map (xto M) = (f.map (xto M')).bind (fun r => (K r.2.2.2).map (xto M)) := by cases f <;> rfl
  rw [e]
  refine Ex.callV (K := fun _ σ => (K σ.2.2).map (xto M)) hd hM.1 hl1 hM.2.1 hM.2.2.1 hM.2.2.2 hroom hk hci hst hr8 hargs (Or.inl ?_) h1 ?_
  · intro v σ1 h
    cases f with
    | none => cases h
    | some r => cases h; rfl
  · intro v σ1 h
    cases f with
    | none => cases h
    | some r =>
      obtain ⟨r1, I1⟩ := r
      have h : some (xto M' (r1, I1)) = some (v, σ1) := h
      unfold xto at h
      rw [hT] at h
      cases h
      exact h2 I1
theorem Ey.callSi {M' : xM} {idx n : Nat} {as rest st0 : List xV} {f : Option (Int32 × xI)} {K : Int32 → xI → Option (Int32 × xI)} {ty : FieldType} (hT : xT M' = some ty) (hd : decode (xB M) pc = .ok (.invokestatic idx, 3)) (hM : xIsS M' n) (hl1 : Cond.methodLink (xY M).cls idx (xY M') ∈ xWd) (hn : as.length = n) (hroom : xFr M' + 1 ≤ xFr M ∧ 8 + (xL M' + 11) + xLo M' ≤ xLo M) (hst : st0 = as.reverse ++ rest) (hr8 : rest.length ≤ 8) (hargs : as.length ≤ xL M')
    (h1 : Ey none M' 0 (xEnt (as) (xL M')) [] I f) (h2 : ∀ r I', Ey X M (pc + 3) ls (.inl r :: rest) I' (K r I')) : Ey X M pc ls st0 I (xb f K) := by
  subst hn
  unfold Ey
  rw [Ey.conv (M' := M') (by rw [hT]; exact fun h => by cases h)]
  refine Ex.callS (K := fun v σ => ((v.map (fun x => K x σ.2.2)).bind id).map (xto M)) hd hM.1 hl1 hM.2.1 hM.2.2 hroom hst hr8 hargs (Or.inl ?_) h1 ?_
  · intro v σ1 h
    cases f with
    | none => cases h
    | some r => cases h; rfl
  · intro v σ1 h
    cases f with
    | none => cases h
    | some r =>
      obtain ⟨r1, I1⟩ := r
      have h : some (xto M' (r1, I1)) = some (v, σ1) := h
      unfold xto at h
      rw [hT] at h
      cases h
      exact h2 r1 I1
theorem Ey.callSv {M' : xM} {idx n : Nat} {as rest st0 : List xV} {f : Option (Int32 × xI)} {K : xI → Option (Int32 × xI)} (hT : xT M' = none) (hd : decode (xB M) pc = .ok (.invokestatic idx, 3)) (hM : xIsS M' n) (hl1 : Cond.methodLink (xY M).cls idx (xY M') ∈ xWd) (hn : as.length = n) (hroom : xFr M' + 1 ≤ xFr M ∧ 8 + (xL M' + 11) + xLo M' ≤ xLo M) (hst : st0 = as.reverse ++ rest) (hr8 : rest.length ≤ 8) (hargs : as.length ≤ xL M')
    (h1 : Ey none M' 0 (xEnt (as) (xL M')) [] I f) (h2 : ∀ I', Ey X M (pc + 3) ls rest I' (K I')) : Ey X M pc ls st0 I (xb f (fun _ I' => K I')) := by
  subst hn
  unfold Ey
  have e : (xb f (fun _ I' => K I')).map (xto M) = (f.map (xto M')).bind (fun r => (K r.2.2.2).map (xto M)) := by cases f <;> rfl
  rw [e]
  refine Ex.callS (K := fun _ σ => (K σ.2.2).map (xto M)) hd hM.1 hl1 hM.2.1 hM.2.2 hroom hst hr8 hargs (Or.inl ?_) h1 ?_
  · intro v σ1 h
    cases f with
    | none => cases h
    | some r => cases h; rfl
  · intro v σ1 h
    cases f with
    | none => cases h
    | some r =>
      obtain ⟨r1, I1⟩ := r
      have h : some (xto M' (r1, I1)) = some (v, σ1) := h
      unfold xto at h
      rw [hT] at h
      cases h
      exact h2 I1
theorem Ey.callSNi {M' : xM} {idx n : Nat} {as rest st0 : List xV} {f : Option (Int32 × xI)} {K : Int32 → xI → Option (Int32 × xI)} {ty : FieldType} (hT : xT M' = some ty) {host : String} (hd : decode (xB M) pc = .ok (.invokestatic idx, 3)) (hM : xIsS M' n) (hl1 : Cond.methodLinkNest (xY M).cls idx (xY M') host ∈ xNw) (hn : as.length = n) (hroom : xFr M' + 1 ≤ xFr M ∧ 8 + (xL M' + 11) + xLo M' ≤ xLo M) (hst : st0 = as.reverse ++ rest) (hr8 : rest.length ≤ 8) (hargs : as.length ≤ xL M')
    (h1 : Ey none M' 0 (xEnt (as) (xL M')) [] I f) (h2 : ∀ r I', Ey X M (pc + 3) ls (.inl r :: rest) I' (K r I')) : Ey X M pc ls st0 I (xb f K) := by
  subst hn
  unfold Ey
  rw [Ey.conv (M' := M') (by rw [hT]; exact fun h => by cases h)]
  refine Ex.callSN (K := fun v σ => ((v.map (fun x => K x σ.2.2)).bind id).map (xto M)) hd hM.1 hl1 hM.2.1 hM.2.2 hroom hst hr8 hargs (Or.inl ?_) h1 ?_
  · intro v σ1 h
    cases f with
    | none => cases h
    | some r => cases h; rfl
  · intro v σ1 h
    cases f with
    | none => cases h
    | some r =>
      obtain ⟨r1, I1⟩ := r
      have h : some (xto M' (r1, I1)) = some (v, σ1) := h
      unfold xto at h
      rw [hT] at h
      cases h
      exact h2 r1 I1
theorem Ey.callSNv {M' : xM} {idx n : Nat} {as rest st0 : List xV} {f : Option (Int32 × xI)} {K : xI → Option (Int32 × xI)} (hT : xT M' = none) {host : String} (hd : decode (xB M) pc = .ok (.invokestatic idx, 3)) (hM : xIsS M' n) (hl1 : Cond.methodLinkNest (xY M).cls idx (xY M') host ∈ xNw) (hn : as.length = n) (hroom : xFr M' + 1 ≤ xFr M ∧ 8 + (xL M' + 11) + xLo M' ≤ xLo M) (hst : st0 = as.reverse ++ rest) (hr8 : rest.length ≤ 8) (hargs : as.length ≤ xL M')
    (h1 : Ey none M' 0 (xEnt (as) (xL M')) [] I f) (h2 : ∀ I', Ey X M (pc + 3) ls rest I' (K I')) : Ey X M pc ls st0 I (xb f (fun _ I' => K I')) := by
  subst hn
  unfold Ey
  have e : (xb f (fun _ I' => K I')).map (xto M) = (f.map (xto M')).bind (fun r => (K r.2.2.2).map (xto M)) := by cases f <;> rfl
  rw [e]
  refine Ex.callSN (K := fun _ σ => (K σ.2.2).map (xto M)) hd hM.1 hl1 hM.2.1 hM.2.2 hroom hst hr8 hargs (Or.inl ?_) h1 ?_
  · intro v σ1 h
    cases f with
    | none => cases h
    | some r => cases h; rfl
  · intro v σ1 h
    cases f with
    | none => cases h
    | some r =>
      obtain ⟨r1, I1⟩ := r
      have h : some (xto M' (r1, I1)) = some (v, σ1) := h
      unfold xto at h
      rw [hT] at h
      cases h
      exact h2 I1
/-- switches: no case meets -/
theorem xOut {x : Int32} {n : Nat} {hi : Int} (hh : hi = (n : Int) - 1) (h : ∀ j : Nat, j < n → x.toInt ≠ (j : Int)) : x.toInt < 0 ∨ hi < x.toInt := by
  subst hh
  rcases Int.lt_or_le x.toInt 0 with h0 | h0
  · exact Or.inl h0
  · refine Or.inr ?_
    rcases Int.lt_or_le ((n : Int) - 1) x.toInt with h1 | h1
    · exact h1
    · exact absurd (by omega) (h x.toInt.toNat (by omega))
theorem xNe {x k : Int32} {a : Int} (h : ¬ x = k) (hk : k.toInt = a) : x.toInt ≠ a := fun q => h (Int32.toInt_inj.mp (by rw [hk]; exact q))
end EY
end
