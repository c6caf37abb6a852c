section
def lw_okq (q : MethodName × Nat) : Prop := (q.1.cls ≠ "java/lang/invoke/MethodHandle" ∧ q.1.cls ≠ "java/lang/invoke/VarHandle") ∧ Cond.instantiable q.1.cls q.2 ∈ tables_1 ∧ Cond.privateMethod q.1 ∈ tables_1 ∧ Cond.instanceMethod q.1 ∈ tables_1
theorem lw_p0 : lw_okq (⟨"RopedBells", "faulty", "(I)I"⟩, 11) := ⟨⟨by decide +kernel, by decide +kernel⟩, List.mem_of_getElem? (i := 14) (by decide +kernel), List.mem_of_getElem? (i := 246) (by decide +kernel), List.mem_of_getElem? (i := 247) (by decide +kernel)⟩
theorem lw_p1 : lw_okq (⟨"RopedBells$Text", "goesOnWith", "(I)Z"⟩, 2) := ⟨⟨by decide +kernel, by decide +kernel⟩, List.mem_of_getElem? (i := 79) (by decide +kernel), List.mem_of_getElem? (i := 258) (by decide +kernel), List.mem_of_getElem? (i := 259) (by decide +kernel)⟩
theorem lw_p2 : lw_okq (⟨"RopedBells$Text", "beginsRope", "()Z"⟩, 2) := ⟨⟨by decide +kernel, by decide +kernel⟩, List.mem_of_getElem? (i := 79) (by decide +kernel), List.mem_of_getElem? (i := 262) (by decide +kernel), List.mem_of_getElem? (i := 263) (by decide +kernel)⟩
theorem lw_p3 : lw_okq (⟨"RopedBells$Text", "beginsBell", "(I)Z"⟩, 2) := ⟨⟨by decide +kernel, by decide +kernel⟩, List.mem_of_getElem? (i := 79) (by decide +kernel), List.mem_of_getElem? (i := 266) (by decide +kernel), List.mem_of_getElem? (i := 267) (by decide +kernel)⟩
theorem lw_p4 : lw_okq (⟨"RopedBells$Text", "takesNeeds", "(I)Z"⟩, 2) := ⟨⟨by decide +kernel, by decide +kernel⟩, List.mem_of_getElem? (i := 79) (by decide +kernel), List.mem_of_getElem? (i := 273) (by decide +kernel), List.mem_of_getElem? (i := 274) (by decide +kernel)⟩
theorem lw_p5 : lw_okq (⟨"RopedBells$Text", "takesRope", "(I)Z"⟩, 2) := ⟨⟨by decide +kernel, by decide +kernel⟩, List.mem_of_getElem? (i := 79) (by decide +kernel), List.mem_of_getElem? (i := 277) (by decide +kernel), List.mem_of_getElem? (i := 278) (by decide +kernel)⟩
theorem lw_p6 : lw_okq (⟨"RopedBells$Text", "takesLong", "(I)Z"⟩, 2) := ⟨⟨by decide +kernel, by decide +kernel⟩, List.mem_of_getElem? (i := 79) (by decide +kernel), List.mem_of_getElem? (i := 281) (by decide +kernel), List.mem_of_getElem? (i := 282) (by decide +kernel)⟩
theorem lw_p7 : lw_okq (⟨"RopedBells", "hasNoValley", "()Z"⟩, 11) := ⟨⟨by decide +kernel, by decide +kernel⟩, List.mem_of_getElem? (i := 14) (by decide +kernel), List.mem_of_getElem? (i := 321) (by decide +kernel), List.mem_of_getElem? (i := 322) (by decide +kernel)⟩
theorem lw_p8 : lw_okq (⟨"RopedBells", "heardNow", "()LRopedBells$Course;"⟩, 11) := ⟨⟨by decide +kernel, by decide +kernel⟩, List.mem_of_getElem? (i := 14) (by decide +kernel), List.mem_of_getElem? (i := 341) (by decide +kernel), List.mem_of_getElem? (i := 342) (by decide +kernel)⟩
theorem lw_p9 : lw_okq (⟨"RopedBells$Course", "swingByRopes", "(I)V"⟩, 6) := ⟨⟨by decide +kernel, by decide +kernel⟩, List.mem_of_getElem? (i := 140) (by decide +kernel), List.mem_of_getElem? (i := 363) (by decide +kernel), List.mem_of_getElem? (i := 364) (by decide +kernel)⟩
theorem lw_p10 : lw_okq (⟨"RopedBells$Course", "countedOf", "(II)I"⟩, 6) := ⟨⟨by decide +kernel, by decide +kernel⟩, List.mem_of_getElem? (i := 140) (by decide +kernel), List.mem_of_getElem? (i := 367) (by decide +kernel), List.mem_of_getElem? (i := 368) (by decide +kernel)⟩
theorem lw_p11 : lw_okq (⟨"RopedBells$Course", "swingByPulls", "(LRopedBells$Pulls;I)V"⟩, 6) := ⟨⟨by decide +kernel, by decide +kernel⟩, List.mem_of_getElem? (i := 140) (by decide +kernel), List.mem_of_getElem? (i := 371) (by decide +kernel), List.mem_of_getElem? (i := 372) (by decide +kernel)⟩
theorem lw_p12 : lw_okq (⟨"RopedBells$Course", "ringAll", "(II)V"⟩, 6) := ⟨⟨by decide +kernel, by decide +kernel⟩, List.mem_of_getElem? (i := 140) (by decide +kernel), List.mem_of_getElem? (i := 375) (by decide +kernel), List.mem_of_getElem? (i := 376) (by decide +kernel)⟩
theorem lw_p13 : lw_okq (⟨"RopedBells$Course", "countTogether", "(II)I"⟩, 6) := ⟨⟨by decide +kernel, by decide +kernel⟩, List.mem_of_getElem? (i := 140) (by decide +kernel), List.mem_of_getElem? (i := 379) (by decide +kernel), List.mem_of_getElem? (i := 380) (by decide +kernel)⟩
theorem lw_p14 : lw_okq (⟨"RopedBells$Course", "forget", "(I)V"⟩, 6) := ⟨⟨by decide +kernel, by decide +kernel⟩, List.mem_of_getElem? (i := 140) (by decide +kernel), List.mem_of_getElem? (i := 384) (by decide +kernel), List.mem_of_getElem? (i := 385) (by decide +kernel)⟩
theorem lw_p15 : lw_okq (⟨"RopedBells$Course", "sendOn", "(II)V"⟩, 6) := ⟨⟨by decide +kernel, by decide +kernel⟩, List.mem_of_getElem? (i := 140) (by decide +kernel), List.mem_of_getElem? (i := 388) (by decide +kernel), List.mem_of_getElem? (i := 389) (by decide +kernel)⟩
def lw_privs_1 : List (MethodName × Nat) := [(⟨"RopedBells", "faulty", "(I)I"⟩, 11), (⟨"RopedBells$Text", "goesOnWith", "(I)Z"⟩, 2), (⟨"RopedBells$Text", "beginsRope", "()Z"⟩, 2), (⟨"RopedBells$Text", "beginsBell", "(I)Z"⟩, 2), (⟨"RopedBells$Text", "takesNeeds", "(I)Z"⟩, 2), (⟨"RopedBells$Text", "takesRope", "(I)Z"⟩, 2), (⟨"RopedBells$Text", "takesLong", "(I)Z"⟩, 2), (⟨"RopedBells", "hasNoValley", "()Z"⟩, 11), (⟨"RopedBells", "heardNow", "()LRopedBells$Course;"⟩, 11), (⟨"RopedBells$Course", "swingByRopes", "(I)V"⟩, 6), (⟨"RopedBells$Course", "countedOf", "(II)I"⟩, 6), (⟨"RopedBells$Course", "swingByPulls", "(LRopedBells$Pulls;I)V"⟩, 6), (⟨"RopedBells$Course", "ringAll", "(II)V"⟩, 6), (⟨"RopedBells$Course", "countTogether", "(II)I"⟩, 6), (⟨"RopedBells$Course", "forget", "(I)V"⟩, 6), (⟨"RopedBells$Course", "sendOn", "(II)V"⟩, 6)]
theorem lw_r1 : ∀ q ∈ lw_privs_1, lw_okq q := List.forall_mem_cons.mpr ⟨lw_p0, List.forall_mem_cons.mpr ⟨lw_p1, List.forall_mem_cons.mpr ⟨lw_p2, List.forall_mem_cons.mpr ⟨lw_p3, List.forall_mem_cons.mpr ⟨lw_p4, List.forall_mem_cons.mpr ⟨lw_p5, List.forall_mem_cons.mpr ⟨lw_p6, List.forall_mem_cons.mpr ⟨lw_p7, List.forall_mem_cons.mpr ⟨lw_p8, List.forall_mem_cons.mpr ⟨lw_p9, List.forall_mem_cons.mpr ⟨lw_p10, List.forall_mem_cons.mpr ⟨lw_p11, List.forall_mem_cons.mpr ⟨lw_p12, List.forall_mem_cons.mpr ⟨lw_p13, List.forall_mem_cons.mpr ⟨lw_p14, List.forall_mem_cons.mpr ⟨lw_p15, fun _ h => absurd h List.not_mem_nil⟩⟩⟩⟩⟩⟩⟩⟩⟩⟩⟩⟩⟩⟩⟩⟩
theorem lw_p16 : lw_okq (⟨"RopedBells", "ringEarlyBy", "(I)I"⟩, 11) := ⟨⟨by decide +kernel, by decide +kernel⟩, List.mem_of_getElem? (i := 14) (by decide +kernel), List.mem_of_getElem? (i := 431) (by decide +kernel), List.mem_of_getElem? (i := 432) (by decide +kernel)⟩
theorem lw_p17 : lw_okq (⟨"RopedBells", "playSet", "(II)V"⟩, 11) := ⟨⟨by decide +kernel, by decide +kernel⟩, List.mem_of_getElem? (i := 14) (by decide +kernel), List.mem_of_getElem? (i := 435) (by decide +kernel), List.mem_of_getElem? (i := 436) (by decide +kernel)⟩
theorem lw_p18 : lw_okq (⟨"RopedBells", "lastMinuteTied", "(I)I"⟩, 11) := ⟨⟨by decide +kernel, by decide +kernel⟩, List.mem_of_getElem? (i := 14) (by decide +kernel), List.mem_of_getElem? (i := 447) (by decide +kernel), List.mem_of_getElem? (i := 448) (by decide +kernel)⟩
theorem lw_p19 : lw_okq (⟨"RopedBells", "howManyRingWith", "(III)I"⟩, 11) := ⟨⟨by decide +kernel, by decide +kernel⟩, List.mem_of_getElem? (i := 14) (by decide +kernel), List.mem_of_getElem? (i := 455) (by decide +kernel), List.mem_of_getElem? (i := 456) (by decide +kernel)⟩
theorem lw_p20 : lw_okq (⟨"RopedBells", "playWithout", "(II)V"⟩, 11) := ⟨⟨by decide +kernel, by decide +kernel⟩, List.mem_of_getElem? (i := 14) (by decide +kernel), List.mem_of_getElem? (i := 467) (by decide +kernel), List.mem_of_getElem? (i := 468) (by decide +kernel)⟩
theorem lw_p21 : lw_okq (⟨"RopedBells", "wholeAt", "([III)I"⟩, 11) := ⟨⟨by decide +kernel, by decide +kernel⟩, List.mem_of_getElem? (i := 14) (by decide +kernel), List.mem_of_getElem? (i := 505) (by decide +kernel), List.mem_of_getElem? (i := 506) (by decide +kernel)⟩
theorem lw_p22 : lw_okq (⟨"RopedBells", "greatTells", "(I)I"⟩, 11) := ⟨⟨by decide +kernel, by decide +kernel⟩, List.mem_of_getElem? (i := 14) (by decide +kernel), List.mem_of_getElem? (i := 550) (by decide +kernel), List.mem_of_getElem? (i := 551) (by decide +kernel)⟩
theorem lw_p23 : lw_okq (⟨"RopedBells", "leave", "(I)V"⟩, 11) := ⟨⟨by decide +kernel, by decide +kernel⟩, List.mem_of_getElem? (i := 14) (by decide +kernel), List.mem_of_getElem? (i := 554) (by decide +kernel), List.mem_of_getElem? (i := 555) (by decide +kernel)⟩
theorem lw_p24 : lw_okq (⟨"RopedBells", "bellTells", "(I)I"⟩, 11) := ⟨⟨by decide +kernel, by decide +kernel⟩, List.mem_of_getElem? (i := 14) (by decide +kernel), List.mem_of_getElem? (i := 558) (by decide +kernel), List.mem_of_getElem? (i := 559) (by decide +kernel)⟩
theorem lw_p25 : lw_okq (⟨"RopedBells", "deafTells", "(I)I"⟩, 11) := ⟨⟨by decide +kernel, by decide +kernel⟩, List.mem_of_getElem? (i := 14) (by decide +kernel), List.mem_of_getElem? (i := 562) (by decide +kernel), List.mem_of_getElem? (i := 563) (by decide +kernel)⟩
theorem lw_p26 : lw_okq (⟨"RopedBells", "deafHailed", "()I"⟩, 11) := ⟨⟨by decide +kernel, by decide +kernel⟩, List.mem_of_getElem? (i := 14) (by decide +kernel), List.mem_of_getElem? (i := 570) (by decide +kernel), List.mem_of_getElem? (i := 571) (by decide +kernel)⟩
theorem lw_p27 : lw_okq (⟨"RopedBells", "lentHailed", "(I)I"⟩, 11) := ⟨⟨by decide +kernel, by decide +kernel⟩, List.mem_of_getElem? (i := 14) (by decide +kernel), List.mem_of_getElem? (i := 574) (by decide +kernel), List.mem_of_getElem? (i := 575) (by decide +kernel)⟩
theorem lw_p28 : lw_okq (⟨"RopedBellsModel", "refused", "(I)I"⟩, 34) := ⟨⟨by decide +kernel, by decide +kernel⟩, List.mem_of_getElem? (i := 594) (by decide +kernel), List.mem_of_getElem? (i := 714) (by decide +kernel), List.mem_of_getElem? (i := 715) (by decide +kernel)⟩
theorem lw_p29 : lw_okq (⟨"RopedBellsModel", "cellsBarred", "(IIIJ)I"⟩, 34) := ⟨⟨by decide +kernel, by decide +kernel⟩, List.mem_of_getElem? (i := 594) (by decide +kernel), List.mem_of_getElem? (i := 719) (by decide +kernel), List.mem_of_getElem? (i := 720) (by decide +kernel)⟩
theorem lw_p30 : lw_okq (⟨"RopedBellsModel", "failed", "(I)I"⟩, 34) := ⟨⟨by decide +kernel, by decide +kernel⟩, List.mem_of_getElem? (i := 594) (by decide +kernel), List.mem_of_getElem? (i := 723) (by decide +kernel), List.mem_of_getElem? (i := 724) (by decide +kernel)⟩
theorem lw_p31 : lw_okq (⟨"RopedBellsModel", "readsValley", "(II)Z"⟩, 34) := ⟨⟨by decide +kernel, by decide +kernel⟩, List.mem_of_getElem? (i := 594) (by decide +kernel), List.mem_of_getElem? (i := 730) (by decide +kernel), List.mem_of_getElem? (i := 731) (by decide +kernel)⟩
def lw_privs_2 : List (MethodName × Nat) := [(⟨"RopedBells", "ringEarlyBy", "(I)I"⟩, 11), (⟨"RopedBells", "playSet", "(II)V"⟩, 11), (⟨"RopedBells", "lastMinuteTied", "(I)I"⟩, 11), (⟨"RopedBells", "howManyRingWith", "(III)I"⟩, 11), (⟨"RopedBells", "playWithout", "(II)V"⟩, 11), (⟨"RopedBells", "wholeAt", "([III)I"⟩, 11), (⟨"RopedBells", "greatTells", "(I)I"⟩, 11), (⟨"RopedBells", "leave", "(I)V"⟩, 11), (⟨"RopedBells", "bellTells", "(I)I"⟩, 11), (⟨"RopedBells", "deafTells", "(I)I"⟩, 11), (⟨"RopedBells", "deafHailed", "()I"⟩, 11), (⟨"RopedBells", "lentHailed", "(I)I"⟩, 11), (⟨"RopedBellsModel", "refused", "(I)I"⟩, 34), (⟨"RopedBellsModel", "cellsBarred", "(IIIJ)I"⟩, 34), (⟨"RopedBellsModel", "failed", "(I)I"⟩, 34), (⟨"RopedBellsModel", "readsValley", "(II)Z"⟩, 34)]
theorem lw_r2 : ∀ q ∈ lw_privs_2, lw_okq q := List.forall_mem_cons.mpr ⟨lw_p16, List.forall_mem_cons.mpr ⟨lw_p17, List.forall_mem_cons.mpr ⟨lw_p18, List.forall_mem_cons.mpr ⟨lw_p19, List.forall_mem_cons.mpr ⟨lw_p20, List.forall_mem_cons.mpr ⟨lw_p21, List.forall_mem_cons.mpr ⟨lw_p22, List.forall_mem_cons.mpr ⟨lw_p23, List.forall_mem_cons.mpr ⟨lw_p24, List.forall_mem_cons.mpr ⟨lw_p25, List.forall_mem_cons.mpr ⟨lw_p26, List.forall_mem_cons.mpr ⟨lw_p27, List.forall_mem_cons.mpr ⟨lw_p28, List.forall_mem_cons.mpr ⟨lw_p29, List.forall_mem_cons.mpr ⟨lw_p30, List.forall_mem_cons.mpr ⟨lw_p31, fun _ h => absurd h List.not_mem_nil⟩⟩⟩⟩⟩⟩⟩⟩⟩⟩⟩⟩⟩⟩⟩⟩
theorem lw_p32 : lw_okq (⟨"RopedBellsModel", "codeAt", "(II)I"⟩, 34) := ⟨⟨by decide +kernel, by decide +kernel⟩, List.mem_of_getElem? (i := 594) (by decide +kernel), List.mem_of_getElem? (i := 734) (by decide +kernel), List.mem_of_getElem? (i := 735) (by decide +kernel)⟩
theorem lw_p33 : lw_okq (⟨"RopedBellsModel", "readsBell", "(II)Z"⟩, 34) := ⟨⟨by decide +kernel, by decide +kernel⟩, List.mem_of_getElem? (i := 594) (by decide +kernel), List.mem_of_getElem? (i := 738) (by decide +kernel), List.mem_of_getElem? (i := 739) (by decide +kernel)⟩
theorem lw_p34 : lw_okq (⟨"RopedBellsModel", "figure", "(IIII)I"⟩, 34) := ⟨⟨by decide +kernel, by decide +kernel⟩, List.mem_of_getElem? (i := 594) (by decide +kernel), List.mem_of_getElem? (i := 742) (by decide +kernel), List.mem_of_getElem? (i := 743) (by decide +kernel)⟩
theorem lw_p35 : lw_okq (⟨"RopedBellsModel", "readsRope", "(II)Z"⟩, 34) := ⟨⟨by decide +kernel, by decide +kernel⟩, List.mem_of_getElem? (i := 594) (by decide +kernel), List.mem_of_getElem? (i := 746) (by decide +kernel), List.mem_of_getElem? (i := 747) (by decide +kernel)⟩
theorem lw_p36 : lw_okq (⟨"RopedBellsModel", "noBell", "(I)Z"⟩, 34) := ⟨⟨by decide +kernel, by decide +kernel⟩, List.mem_of_getElem? (i := 594) (by decide +kernel), List.mem_of_getElem? (i := 754) (by decide +kernel), List.mem_of_getElem? (i := 755) (by decide +kernel)⟩
theorem lw_p37 : lw_okq (⟨"RopedBellsModel", "needs", "(I)I"⟩, 34) := ⟨⟨by decide +kernel, by decide +kernel⟩, List.mem_of_getElem? (i := 594) (by decide +kernel), List.mem_of_getElem? (i := 758) (by decide +kernel), List.mem_of_getElem? (i := 759) (by decide +kernel)⟩
theorem lw_p38 : lw_okq (⟨"RopedBellsModel", "goPulls", "()V"⟩, 34) := ⟨⟨by decide +kernel, by decide +kernel⟩, List.mem_of_getElem? (i := 594) (by decide +kernel), List.mem_of_getElem? (i := 791) (by decide +kernel), List.mem_of_getElem? (i := 792) (by decide +kernel)⟩
theorem lw_p39 : lw_okq (⟨"RopedBellsModel", "go", "(III)V"⟩, 34) := ⟨⟨by decide +kernel, by decide +kernel⟩, List.mem_of_getElem? (i := 594) (by decide +kernel), List.mem_of_getElem? (i := 795) (by decide +kernel), List.mem_of_getElem? (i := 796) (by decide +kernel)⟩
theorem lw_p40 : lw_okq (⟨"RopedBellsModel", "swingAll", "(III)V"⟩, 34) := ⟨⟨by decide +kernel, by decide +kernel⟩, List.mem_of_getElem? (i := 594) (by decide +kernel), List.mem_of_getElem? (i := 799) (by decide +kernel), List.mem_of_getElem? (i := 800) (by decide +kernel)⟩
theorem lw_p41 : lw_okq (⟨"RopedBellsModel", "swingByRope", "(II)V"⟩, 34) := ⟨⟨by decide +kernel, by decide +kernel⟩, List.mem_of_getElem? (i := 594) (by decide +kernel), List.mem_of_getElem? (i := 803) (by decide +kernel), List.mem_of_getElem? (i := 804) (by decide +kernel)⟩
theorem lw_p42 : lw_okq (⟨"RopedBellsModel", "doesRing", "(II)Z"⟩, 34) := ⟨⟨by decide +kernel, by decide +kernel⟩, List.mem_of_getElem? (i := 594) (by decide +kernel), List.mem_of_getElem? (i := 807) (by decide +kernel), List.mem_of_getElem? (i := 808) (by decide +kernel)⟩
theorem lw_p43 : lw_okq (⟨"RopedBellsModel", "lastNow", "()I"⟩, 34) := ⟨⟨by decide +kernel, by decide +kernel⟩, List.mem_of_getElem? (i := 594) (by decide +kernel), List.mem_of_getElem? (i := 824) (by decide +kernel), List.mem_of_getElem? (i := 825) (by decide +kernel)⟩
theorem lw_p44 : lw_okq (⟨"RopedBellsModel", "all", "()I"⟩, 34) := ⟨⟨by decide +kernel, by decide +kernel⟩, List.mem_of_getElem? (i := 594) (by decide +kernel), List.mem_of_getElem? (i := 832) (by decide +kernel), List.mem_of_getElem? (i := 833) (by decide +kernel)⟩
theorem lw_p45 : lw_okq (⟨"RopedBellsModel", "rung", "(II)I"⟩, 34) := ⟨⟨by decide +kernel, by decide +kernel⟩, List.mem_of_getElem? (i := 594) (by decide +kernel), List.mem_of_getElem? (i := 839) (by decide +kernel), List.mem_of_getElem? (i := 840) (by decide +kernel)⟩
theorem lw_p46 : lw_okq (⟨"RopedBellsModel", "areSo", "(II)Z"⟩, 34) := ⟨⟨by decide +kernel, by decide +kernel⟩, List.mem_of_getElem? (i := 594) (by decide +kernel), List.mem_of_getElem? (i := 868) (by decide +kernel), List.mem_of_getElem? (i := 869) (by decide +kernel)⟩
theorem lw_p47 : lw_okq (⟨"RopedBellsModel", "noCell", "(II)I"⟩, 34) := ⟨⟨by decide +kernel, by decide +kernel⟩, List.mem_of_getElem? (i := 594) (by decide +kernel), List.mem_of_getElem? (i := 904) (by decide +kernel), List.mem_of_getElem? (i := 905) (by decide +kernel)⟩
def lw_privs_3 : List (MethodName × Nat) := [(⟨"RopedBellsModel", "codeAt", "(II)I"⟩, 34), (⟨"RopedBellsModel", "readsBell", "(II)Z"⟩, 34), (⟨"RopedBellsModel", "figure", "(IIII)I"⟩, 34), (⟨"RopedBellsModel", "readsRope", "(II)Z"⟩, 34), (⟨"RopedBellsModel", "noBell", "(I)Z"⟩, 34), (⟨"RopedBellsModel", "needs", "(I)I"⟩, 34), (⟨"RopedBellsModel", "goPulls", "()V"⟩, 34), (⟨"RopedBellsModel", "go", "(III)V"⟩, 34), (⟨"RopedBellsModel", "swingAll", "(III)V"⟩, 34), (⟨"RopedBellsModel", "swingByRope", "(II)V"⟩, 34), (⟨"RopedBellsModel", "doesRing", "(II)Z"⟩, 34), (⟨"RopedBellsModel", "lastNow", "()I"⟩, 34), (⟨"RopedBellsModel", "all", "()I"⟩, 34), (⟨"RopedBellsModel", "rung", "(II)I"⟩, 34), (⟨"RopedBellsModel", "areSo", "(II)Z"⟩, 34), (⟨"RopedBellsModel", "noCell", "(II)I"⟩, 34)]
theorem lw_r3 : ∀ q ∈ lw_privs_3, lw_okq q := List.forall_mem_cons.mpr ⟨lw_p32, List.forall_mem_cons.mpr ⟨lw_p33, List.forall_mem_cons.mpr ⟨lw_p34, List.forall_mem_cons.mpr ⟨lw_p35, List.forall_mem_cons.mpr ⟨lw_p36, List.forall_mem_cons.mpr ⟨lw_p37, List.forall_mem_cons.mpr ⟨lw_p38, List.forall_mem_cons.mpr ⟨lw_p39, List.forall_mem_cons.mpr ⟨lw_p40, List.forall_mem_cons.mpr ⟨lw_p41, List.forall_mem_cons.mpr ⟨lw_p42, List.forall_mem_cons.mpr ⟨lw_p43, List.forall_mem_cons.mpr ⟨lw_p44, List.forall_mem_cons.mpr ⟨lw_p45, List.forall_mem_cons.mpr ⟨lw_p46, List.forall_mem_cons.mpr ⟨lw_p47, fun _ h => absurd h List.not_mem_nil⟩⟩⟩⟩⟩⟩⟩⟩⟩⟩⟩⟩⟩⟩⟩⟩
theorem lw_p48 : lw_okq (⟨"RopedBellsModel", "failedLong", "(I)J"⟩, 34) := ⟨⟨by decide +kernel, by decide +kernel⟩, List.mem_of_getElem? (i := 594) (by decide +kernel), List.mem_of_getElem? (i := 912) (by decide +kernel), List.mem_of_getElem? (i := 913) (by decide +kernel)⟩
theorem lw_p49 : lw_okq (⟨"RopedBellsModel", "traced", "(I)V"⟩, 34) := ⟨⟨by decide +kernel, by decide +kernel⟩, List.mem_of_getElem? (i := 594) (by decide +kernel), List.mem_of_getElem? (i := 924) (by decide +kernel), List.mem_of_getElem? (i := 925) (by decide +kernel)⟩
def lw_privs_4 : List (MethodName × Nat) := [(⟨"RopedBellsModel", "failedLong", "(I)J"⟩, 34), (⟨"RopedBellsModel", "traced", "(I)V"⟩, 34)]
theorem lw_r4 : ∀ q ∈ lw_privs_4, lw_okq q := List.forall_mem_cons.mpr ⟨lw_p48, List.forall_mem_cons.mpr ⟨lw_p49, fun _ h => absurd h List.not_mem_nil⟩⟩
def lw_privs : List (MethodName × Nat) := lw_privs_1 ++ (lw_privs_2 ++ (lw_privs_3 ++ (lw_privs_4)))
def lw_tbl : List Cond := k2_sels lw_privs ++ tables_1
theorem lw_privs_ok : ∀ q ∈ lw_privs, lw_okq q := by
  show ∀ q ∈ lw_privs_1 ++ (lw_privs_2 ++ (lw_privs_3 ++ (lw_privs_4))), lw_okq q
  exact List.forall_mem_append.mpr ⟨lw_r1, List.forall_mem_append.mpr ⟨lw_r2, List.forall_mem_append.mpr ⟨lw_r3, lw_r4⟩⟩⟩
theorem goodIn_r {big : List Cond} (ws : List Cond) (ps : List Nat) (hp : ws = ps.filterMap (fun i => big[i]?)) (h : ws.all goodWord = true) : GoodIn big ws := by
  intro w hw
  have h1 := List.all_eq_true.mp h w hw
  rw [hp] at hw
  obtain ⟨i, -, hi⟩ := List.mem_filterMap.mp hw
  have hm : w ∈ big := by first | exact List.mem_of_getElem? hi | exact List.getElem?_mem hi
  exact ⟨hm, good_of_word h1⟩
theorem goodIn_app {big a b : List Cond} (ha : GoodIn big a) (hb : GoodIn big b) : GoodIn big (a ++ b) := fun w h => (List.mem_append.mp h).elim (ha w) (hb w)
theorem goodIn_ca {big a b : List Cond} {c : Cond} (ha : GoodIn big (c :: a)) (hb : GoodIn big b) : GoodIn big (c :: (a ++ b)) := fun w h => (List.mem_cons.mp h).elim (fun e => ha w (List.mem_cons.mpr (Or.inl e))) (fun h => (List.mem_append.mp h).elim (fun h => ha w (List.mem_cons.mpr (Or.inr h))) (hb w))
theorem goodIn_sub {big ws : List Cond} (hm : ∀ w ∈ ws, w ∈ big) (h : ws.all goodWord = true) : GoodIn big ws := fun w hw => ⟨hm w hw, good_of_word (List.all_eq_true.mp h w hw)⟩

def RX0 : String := "RopedBells$Course"
def TX0 : u_T := fun k => match k with
  | 0 => ("RopedBells$Course", "valley", "LRopedBells$Valley;", true)
  | 1 => ("RopedBells$Course", "rang", "[I", true)
  | 2 => ("RopedBells$Course", "underWay", "[I", true)
  | 3 => ("RopedBells$Course", "counting", "[I", true)
  | 4 => ("RopedBells$Course", "cameByRopes", "[I", true)
  | _ => ("RopedBells$Course", "lastDue", "I", false)
def tyX0 : Nat → FieldType := fun k => match k with
  | 0 => .object "RopedBells$Valley"
  | 1 => .array .int
  | 2 => .array .int
  | 3 => .array .int
  | 4 => .array .int
  | _ => .int
abbrev wsX00 : List Cond := u_ws RX0 TX0 6
theorem nmX0 : ∀ a, a < 6 → ∀ b, b < 6 → a ≠ b → (TX0 a).2.1 ≠ (TX0 b).2.1 := by decide +kernel
theorem tyX0_ok : ∀ k, k < 6 → parseFieldDescriptor (TX0 k).2.2.1 = some (tyX0 k) := by decide +kernel
abbrev cX0_init : ByteArray := prog_2_method_1_code
def yX0_init : MethodName := ⟨RX0, "<init>", "(LRopedBells$Valley;)V"⟩
abbrev cX0_rangAt : ByteArray := prog_2_method_2_code
def yX0_rangAt : MethodName := ⟨RX0, "rangAt", "(II)Z"⟩
abbrev cX0_bellsBefore : ByteArray := prog_2_method_3_code
def yX0_bellsBefore : MethodName := ⟨RX0, "bellsBefore", "(I)I"⟩
abbrev cX0_lastMinute : ByteArray := prog_2_method_4_code
def yX0_lastMinute : MethodName := ⟨RX0, "lastMinute", "()I"⟩
abbrev cX0_play : ByteArray := prog_2_method_5_code
def yX0_play : MethodName := ⟨RX0, "play", "(LRopedBells$Pulls;III)V"⟩
abbrev cX0_swingByRopes : ByteArray := prog_2_method_6_code
def yX0_swingByRopes : MethodName := ⟨RX0, "swingByRopes", "(I)V"⟩
abbrev cX0_countedOf : ByteArray := prog_2_method_7_code
def yX0_countedOf : MethodName := ⟨RX0, "countedOf", "(II)I"⟩
abbrev cX0_swingByPulls : ByteArray := prog_2_method_8_code
def yX0_swingByPulls : MethodName := ⟨RX0, "swingByPulls", "(LRopedBells$Pulls;I)V"⟩
abbrev cX0_ringAll : ByteArray := prog_2_method_9_code
def yX0_ringAll : MethodName := ⟨RX0, "ringAll", "(II)V"⟩
abbrev cX0_countTogether : ByteArray := prog_2_method_10_code
def yX0_countTogether : MethodName := ⟨RX0, "countTogether", "(II)I"⟩
abbrev cX0_forget : ByteArray := prog_2_method_11_code
def yX0_forget : MethodName := ⟨RX0, "forget", "(I)V"⟩
abbrev cX0_sendOn : ByteArray := prog_2_method_12_code
def yX0_sendOn : MethodName := ⟨RX0, "sendOn", "(II)V"⟩
def RX1 : String := "RopedBells$Pulls"
def TX1 : u_T := fun k => match k with
  | 0 => ("RopedBells$Pulls", "bells", "[I", true)
  | 1 => ("RopedBells$Pulls", "minutes", "[I", true)
  | 2 => ("RopedBells$Pulls", "times", "[I", true)
  | _ => ("RopedBells$Pulls", "count", "I", false)
def tyX1 : Nat → FieldType := fun k => match k with
  | 0 => .array .int
  | 1 => .array .int
  | 2 => .array .int
  | _ => .int
abbrev wsX10 : List Cond := u_ws RX1 TX1 4
theorem nmX1 : ∀ a, a < 4 → ∀ b, b < 4 → a ≠ b → (TX1 a).2.1 ≠ (TX1 b).2.1 := by decide +kernel
theorem tyX1_ok : ∀ k, k < 4 → parseFieldDescriptor (TX1 k).2.2.1 = some (tyX1 k) := by decide +kernel
abbrev cX1_init : ByteArray := prog_3_method_1_code
def yX1_init : MethodName := ⟨RX1, "<init>", "()V"⟩
abbrev cX1_add : ByteArray := prog_3_method_2_code
def yX1_add : MethodName := ⟨RX1, "add", "(III)V"⟩
abbrev cX1_lastMinute : ByteArray := prog_3_method_3_code
def yX1_lastMinute : MethodName := ⟨RX1, "lastMinute", "()I"⟩
def RX2 : String := "RopedBells$Readings"
def TX2 : u_T := fun k => match k with
  | 0 => ("RopedBells$Readings", "bells", "[I", true)
  | 1 => ("RopedBells$Readings", "minutes", "[I", true)
  | 2 => ("RopedBells$Readings", "rang", "[Z", true)
  | _ => ("RopedBells$Readings", "count", "I", false)
def tyX2 : Nat → FieldType := fun k => match k with
  | 0 => .array .int
  | 1 => .array .int
  | 2 => .array .boolean
  | _ => .int
abbrev wsX20 : List Cond := u_ws RX2 TX2 4
theorem nmX2 : ∀ a, a < 4 → ∀ b, b < 4 → a ≠ b → (TX2 a).2.1 ≠ (TX2 b).2.1 := by decide +kernel
theorem tyX2_ok : ∀ k, k < 4 → parseFieldDescriptor (TX2 k).2.2.1 = some (tyX2 k) := by decide +kernel
abbrev cX2_init : ByteArray := prog_4_method_1_code
def yX2_init : MethodName := ⟨RX2, "<init>", "()V"⟩
abbrev cX2_add : ByteArray := prog_4_method_2_code
def yX2_add : MethodName := ⟨RX2, "add", "(IIZ)V"⟩
abbrev cX2_areSoIn : ByteArray := prog_4_method_3_code
def yX2_areSoIn : MethodName := ⟨RX2, "areSoIn", "(LRopedBells$Course;)Z"⟩
def RX3 : String := "RopedBells$Sheet"
def TX3 : u_T := fun k => match k with
  | 0 => ("RopedBells$Sheet", "cells", "[I", true)
  | 1 => ("RopedBells$Sheet", "lane", "I", false)
  | _ => ("RopedBells$Sheet", "size", "I", false)
def tyX3 : Nat → FieldType := fun k => match k with
  | 0 => .array .int
  | 1 => .int
  | _ => .int
abbrev wsX30 : List Cond := u_ws RX3 TX3 3
theorem nmX3 : ∀ a, a < 3 → ∀ b, b < 3 → a ≠ b → (TX3 a).2.1 ≠ (TX3 b).2.1 := by decide +kernel
theorem tyX3_ok : ∀ k, k < 3 → parseFieldDescriptor (TX3 k).2.2.1 = some (tyX3 k) := by decide +kernel
abbrev cX3_init : ByteArray := prog_5_method_1_code
def yX3_init : MethodName := ⟨RX3, "<init>", "()V"⟩
abbrev cX3_begin : ByteArray := prog_5_method_2_code
def yX3_begin : MethodName := ⟨RX3, "begin", "(II)V"⟩
abbrev cX3_hasRow : ByteArray := prog_5_method_3_code
def yX3_hasRow : MethodName := ⟨RX3, "hasRow", "()Z"⟩
abbrev cX3_hasCell : ByteArray := prog_5_method_4_code
def yX3_hasCell : MethodName := ⟨RX3, "hasCell", "(I)Z"⟩
abbrev cX3_hasCells : ByteArray := prog_5_method_5_code
def yX3_hasCells : MethodName := ⟨RX3, "hasCells", "(II)Z"⟩
abbrev cX3_faultOfLane : ByteArray := prog_5_method_6_code
def yX3_faultOfLane : MethodName := ⟨RX3, "faultOfLane", "(I)I"⟩
abbrev cX3_faultOfCells : ByteArray := prog_5_method_7_code
def yX3_faultOfCells : MethodName := ⟨RX3, "faultOfCells", "(III)I"⟩
abbrev cX3_cutToLane : ByteArray := prog_5_method_8_code
def yX3_cutToLane : MethodName := ⟨RX3, "cutToLane", "(I)I"⟩
def RX4 : String := "RopedBells$Text"
def TX4 : u_T := fun k => match k with
  | 0 => ("RopedBells$Text", "told", "LRopedBells$Valley;", true)
  | _ => ("RopedBells$Text", "state", "I", false)
def tyX4 : Nat → FieldType := fun k => match k with
  | 0 => .object "RopedBells$Valley"
  | _ => .int
abbrev wsX40 : List Cond := u_ws RX4 TX4 2
theorem nmX4 : ∀ a, a < 2 → ∀ b, b < 2 → a ≠ b → (TX4 a).2.1 ≠ (TX4 b).2.1 := by decide +kernel
theorem tyX4_ok : ∀ k, k < 2 → parseFieldDescriptor (TX4 k).2.2.1 = some (tyX4 k) := by decide +kernel
abbrev cX4_init : ByteArray := prog_6_method_1_code
def yX4_init : MethodName := ⟨RX4, "<init>", "()V"⟩
abbrev cX4_firstFault : ByteArray := prog_6_method_2_code
def yX4_firstFault : MethodName := ⟨RX4, "firstFault", "([III)I"⟩
abbrev cX4_goesOnWith : ByteArray := prog_6_method_3_code
def yX4_goesOnWith : MethodName := ⟨RX4, "goesOnWith", "(I)Z"⟩
abbrev cX4_beginsBell : ByteArray := prog_6_method_4_code
def yX4_beginsBell : MethodName := ⟨RX4, "beginsBell", "(I)Z"⟩
abbrev cX4_kindOf : ByteArray := prog_6_method_5_code
def yX4_kindOf : MethodName := ⟨RX4, "kindOf", "(I)I"⟩
abbrev cX4_takesNeeds : ByteArray := prog_6_method_6_code
def yX4_takesNeeds : MethodName := ⟨RX4, "takesNeeds", "(I)Z"⟩
abbrev cX4_beginsRope : ByteArray := prog_6_method_7_code
def yX4_beginsRope : MethodName := ⟨RX4, "beginsRope", "()Z"⟩
abbrev cX4_takesRope : ByteArray := prog_6_method_8_code
def yX4_takesRope : MethodName := ⟨RX4, "takesRope", "(I)Z"⟩
abbrev cX4_takesLong : ByteArray := prog_6_method_9_code
def yX4_takesLong : MethodName := ⟨RX4, "takesLong", "(I)Z"⟩
def RX5 : String := "RopedBells$Valley"
def TX5 : u_T := fun k => match k with
  | 0 => ("RopedBells$Valley", "kinds", "[I", true)
  | 1 => ("RopedBells$Valley", "needs", "[I", true)
  | 2 => ("RopedBells$Valley", "from", "[I", true)
  | 3 => ("RopedBells$Valley", "to", "[I", true)
  | 4 => ("RopedBells$Valley", "lasts", "[I", true)
  | 5 => ("RopedBells$Valley", "bells", "I", false)
  | 6 => ("RopedBells$Valley", "ropes", "I", false)
  | 7 => ("RopedBells$Valley", "span", "I", false)
  | _ => ("RopedBells$Valley", "tied", "I", false)
def tyX5 : Nat → FieldType := fun k => match k with
  | 0 => .array .int
  | 1 => .array .int
  | 2 => .array .int
  | 3 => .array .int
  | 4 => .array .int
  | 5 => .int
  | 6 => .int
  | 7 => .int
  | _ => .int
abbrev wsX50 : List Cond := u_ws RX5 TX5 9
theorem nmX5 : ∀ a, a < 9 → ∀ b, b < 9 → a ≠ b → (TX5 a).2.1 ≠ (TX5 b).2.1 := by decide +kernel
theorem tyX5_ok : ∀ k, k < 9 → parseFieldDescriptor (TX5 k).2.2.1 = some (tyX5 k) := by decide +kernel
abbrev cX5_init : ByteArray := prog_7_method_1_code
def yX5_init : MethodName := ⟨RX5, "<init>", "()V"⟩
abbrev cX5_begin : ByteArray := prog_7_method_2_code
def yX5_begin : MethodName := ⟨RX5, "begin", "()V"⟩
abbrev cX5_become : ByteArray := prog_7_method_3_code
def yX5_become : MethodName := ⟨RX5, "become", "(LRopedBells$Valley;)V"⟩
abbrev cX5_layRope : ByteArray := prog_7_method_4_code
def yX5_layRope : MethodName := ⟨RX5, "layRope", "(IIII)V"⟩
abbrev cX5_hasBell : ByteArray := prog_7_method_5_code
def yX5_hasBell : MethodName := ⟨RX5, "hasBell", "(I)Z"⟩
abbrev cX5_isTied : ByteArray := prog_7_method_6_code
def yX5_isTied : MethodName := ⟨RX5, "isTied", "(I)Z"⟩
abbrev cX5_allBells : ByteArray := prog_7_method_7_code
def yX5_allBells : MethodName := ⟨RX5, "allBells", "()I"⟩
abbrev cX5_allRopes : ByteArray := prog_7_method_8_code
def yX5_allRopes : MethodName := ⟨RX5, "allRopes", "()I"⟩
abbrev cX5_swingsFor : ByteArray := prog_7_method_9_code
def yX5_swingsFor : MethodName := ⟨RX5, "swingsFor", "(I)I"⟩
def RX6 : String := "RopedBells"
def TX6 : u_T := fun k => match k with
  | 0 => ("RopedBells", "valley", "LRopedBells$Valley;", true)
  | 1 => ("RopedBells", "text", "LRopedBells$Text;", true)
  | 2 => ("RopedBells", "pulls", "LRopedBells$Pulls;", true)
  | 3 => ("RopedBells", "triedPulls", "LRopedBells$Pulls;", true)
  | 4 => ("RopedBells", "readings", "LRopedBells$Readings;", true)
  | 5 => ("RopedBells", "heard", "LRopedBells$Course;", true)
  | 6 => ("RopedBells", "trial", "LRopedBells$Course;", true)
  | 7 => ("RopedBells", "sheets", "[LRopedBells$Sheet;", true)
  | 8 => ("RopedBells", "heardIsCurrent", "Z", false)
  | 9 => ("RopedBells", "trace", "I", false)
  | _ => ("RopedBells", "fault", "I", false)
def tyX6 : Nat → FieldType := fun k => match k with
  | 0 => .object "RopedBells$Valley"
  | 1 => .object "RopedBells$Text"
  | 2 => .object "RopedBells$Pulls"
  | 3 => .object "RopedBells$Pulls"
  | 4 => .object "RopedBells$Readings"
  | 5 => .object "RopedBells$Course"
  | 6 => .object "RopedBells$Course"
  | 7 => .array (.object "RopedBells$Sheet")
  | 8 => .boolean
  | 9 => .int
  | _ => .int
abbrev wsX60 : List Cond := u_ws RX6 TX6 11
theorem nmX6 : ∀ a, a < 11 → ∀ b, b < 11 → a ≠ b → (TX6 a).2.1 ≠ (TX6 b).2.1 := by decide +kernel
theorem tyX6_ok : ∀ k, k < 11 → parseFieldDescriptor (TX6 k).2.2.1 = some (tyX6 k) := by decide +kernel
abbrev cX6_init : ByteArray := prog_1_method_1_code
def yX6_init : MethodName := ⟨RX6, "<init>", "()V"⟩
abbrev cX6_valley : ByteArray := prog_1_method_2_code
def yX6_valley : MethodName := ⟨RX6, "valley", "(IIII)I"⟩
abbrev cX6_ofBell : ByteArray := prog_1_method_3_code
def yX6_ofBell : MethodName := ⟨RX6, "ofBell", "(II)I"⟩
abbrev cX6_ofRope : ByteArray := prog_1_method_4_code
def yX6_ofRope : MethodName := ⟨RX6, "ofRope", "(II)I"⟩
abbrev cX6_tie : ByteArray := prog_1_method_5_code
def yX6_tie : MethodName := ⟨RX6, "tie", "(IZ)I"⟩
abbrev cX6_span : ByteArray := prog_1_method_6_code
def yX6_span : MethodName := ⟨RX6, "span", "(I)I"⟩
abbrev cX6_pull : ByteArray := prog_1_method_7_code
def yX6_pull : MethodName := ⟨RX6, "pull", "(II)I"⟩
abbrev cX6_undo : ByteArray := prog_1_method_8_code
def yX6_undo : MethodName := ⟨RX6, "undo", "(I)I"⟩
abbrev cX6_rings : ByteArray := prog_1_method_9_code
def yX6_rings : MethodName := ⟨RX6, "rings", "(I)I"⟩
abbrev cX6_ringsAt : ByteArray := prog_1_method_10_code
def yX6_ringsAt : MethodName := ⟨RX6, "ringsAt", "(II)I"⟩
abbrev cX6_peal : ByteArray := prog_1_method_11_code
def yX6_peal : MethodName := ⟨RX6, "peal", "(I)I"⟩
abbrev cX6_stops : ByteArray := prog_1_method_12_code
def yX6_stops : MethodName := ⟨RX6, "stops", "()I"⟩
abbrev cX6_fewest : ByteArray := prog_1_method_13_code
def yX6_fewest : MethodName := ⟨RX6, "fewest", "(I)I"⟩
abbrev cX6_still : ByteArray := prog_1_method_14_code
def yX6_still : MethodName := ⟨RX6, "still", "(I)I"⟩
abbrev cX6_hung : ByteArray := prog_1_method_15_code
def yX6_hung : MethodName := ⟨RX6, "hung", "(I)I"⟩
abbrev cX6_cut : ByteArray := prog_1_method_16_code
def yX6_cut : MethodName := ⟨RX6, "cut", "()I"⟩
abbrev cX6_reading : ByteArray := prog_1_method_17_code
def yX6_reading : MethodName := ⟨RX6, "reading", "(IIZ)I"⟩
abbrev cX6_back : ByteArray := prog_1_method_18_code
def yX6_back : MethodName := ⟨RX6, "back", "(I)I"⟩
abbrev cX6_first : ByteArray := prog_1_method_19_code
def yX6_first : MethodName := ⟨RX6, "first", "()I"⟩
abbrev cX6_gone : ByteArray := prog_1_method_20_code
def yX6_gone : MethodName := ⟨RX6, "gone", "()I"⟩
abbrev cX6_sneezes : ByteArray := prog_1_method_21_code
def yX6_sneezes : MethodName := ⟨RX6, "sneezes", "(I)J"⟩
abbrev cX6_tune : ByteArray := prog_1_method_22_code
def yX6_tune : MethodName := ⟨RX6, "tune", "(IIII)I"⟩
abbrev cX6_sheet : ByteArray := prog_1_method_23_code
def yX6_sheet : MethodName := ⟨RX6, "sheet", "(III)I"⟩
abbrev cX6_lose : ByteArray := prog_1_method_24_code
def yX6_lose : MethodName := ⟨RX6, "lose", "(I)I"⟩
abbrev cX6_put : ByteArray := prog_1_method_25_code
def yX6_put : MethodName := ⟨RX6, "put", "(III)I"⟩
abbrev cX6_cell : ByteArray := prog_1_method_26_code
def yX6_cell : MethodName := ⟨RX6, "cell", "(III)J"⟩
abbrev cX6_copy : ByteArray := prog_1_method_27_code
def yX6_copy : MethodName := ⟨RX6, "copy", "(IIIII)I"⟩
abbrev cX6_tell : ByteArray := prog_1_method_28_code
def yX6_tell : MethodName := ⟨RX6, "tell", "(I)I"⟩
abbrev cX6_hail : ByteArray := prog_1_method_29_code
def yX6_hail : MethodName := ⟨RX6, "hail", "(I)I"⟩
abbrev cX6_as : ByteArray := prog_1_method_30_code
def yX6_as : MethodName := ⟨RX6, "as", "(II)I"⟩
abbrev cX6_trace : ByteArray := prog_1_method_31_code
def yX6_trace : MethodName := ⟨RX6, "trace", "()I"⟩
abbrev cX6_fault : ByteArray := prog_1_method_32_code
def yX6_fault : MethodName := ⟨RX6, "fault", "()I"⟩
abbrev cX6_many : ByteArray := prog_1_method_33_code
def yX6_many : MethodName := ⟨RX6, "many", "(I)I"⟩
abbrev cX6_isSheet : ByteArray := prog_1_method_34_code
def yX6_isSheet : MethodName := ⟨RX6, "isSheet", "(I)Z"⟩
abbrev cX6_isLane : ByteArray := prog_1_method_35_code
def yX6_isLane : MethodName := ⟨RX6, "isLane", "(I)Z"⟩
abbrev cX6_hasNoValley : ByteArray := prog_1_method_36_code
def yX6_hasNoValley : MethodName := ⟨RX6, "hasNoValley", "()Z"⟩
abbrev cX6_faulty : ByteArray := prog_1_method_37_code
def yX6_faulty : MethodName := ⟨RX6, "faulty", "(I)I"⟩
abbrev cX6_isFewer : ByteArray := prog_1_method_38_code
def yX6_isFewer : MethodName := ⟨RX6, "isFewer", "(II)Z"⟩
abbrev cX6_heardNow : ByteArray := prog_1_method_39_code
def yX6_heardNow : MethodName := ⟨RX6, "heardNow", "()LRopedBells$Course;"⟩
abbrev cX6_playSet : ByteArray := prog_1_method_40_code
def yX6_playSet : MethodName := ⟨RX6, "playSet", "(II)V"⟩
abbrev cX6_ringEarlyBy : ByteArray := prog_1_method_41_code
def yX6_ringEarlyBy : MethodName := ⟨RX6, "ringEarlyBy", "(I)I"⟩
abbrev cX6_lastMinuteTied : ByteArray := prog_1_method_42_code
def yX6_lastMinuteTied : MethodName := ⟨RX6, "lastMinuteTied", "(I)I"⟩
abbrev cX6_howManyRingWith : ByteArray := prog_1_method_43_code
def yX6_howManyRingWith : MethodName := ⟨RX6, "howManyRingWith", "(III)I"⟩
abbrev cX6_playWithout : ByteArray := prog_1_method_44_code
def yX6_playWithout : MethodName := ⟨RX6, "playWithout", "(II)V"⟩
abbrev cX6_wholeAt : ByteArray := prog_1_method_45_code
def yX6_wholeAt : MethodName := ⟨RX6, "wholeAt", "([III)I"⟩
abbrev cX6_leave : ByteArray := prog_1_method_46_code
def yX6_leave : MethodName := ⟨RX6, "leave", "(I)V"⟩
abbrev cX6_bellTells : ByteArray := prog_1_method_47_code
def yX6_bellTells : MethodName := ⟨RX6, "bellTells", "(I)I"⟩
abbrev cX6_greatTells : ByteArray := prog_1_method_48_code
def yX6_greatTells : MethodName := ⟨RX6, "greatTells", "(I)I"⟩
abbrev cX6_deafTells : ByteArray := prog_1_method_49_code
def yX6_deafTells : MethodName := ⟨RX6, "deafTells", "(I)I"⟩
abbrev cX6_lentHailed : ByteArray := prog_1_method_50_code
def yX6_lentHailed : MethodName := ⟨RX6, "lentHailed", "(I)I"⟩
abbrev cX6_deafHailed : ByteArray := prog_1_method_51_code
def yX6_deafHailed : MethodName := ⟨RX6, "deafHailed", "()I"⟩
def RX7 : String := "RopedBellsModel"
def TX7 : u_T := fun k => match k with
  | 0 => ("RopedBellsModel", "fault", "I", false)
  | 1 => ("RopedBellsModel", "bells", "I", false)
  | 2 => ("RopedBellsModel", "kindOf", "[I", true)
  | 3 => ("RopedBellsModel", "needsOf", "[I", true)
  | 4 => ("RopedBellsModel", "tied", "I", false)
  | 5 => ("RopedBellsModel", "ropes", "I", false)
  | 6 => ("RopedBellsModel", "fromOf", "[I", true)
  | 7 => ("RopedBellsModel", "toOf", "[I", true)
  | 8 => ("RopedBellsModel", "longOf", "[I", true)
  | 9 => ("RopedBellsModel", "spanNow", "I", false)
  | 10 => ("RopedBellsModel", "readAt", "I", false)
  | 11 => ("RopedBellsModel", "readBells", "I", false)
  | 12 => ("RopedBellsModel", "readRopes", "I", false)
  | 13 => ("RopedBellsModel", "readKind", "[I", true)
  | 14 => ("RopedBellsModel", "readNeeds", "[I", true)
  | 15 => ("RopedBellsModel", "readFrom", "[I", true)
  | 16 => ("RopedBellsModel", "readTo", "[I", true)
  | 17 => ("RopedBellsModel", "readLong", "[I", true)
  | 18 => ("RopedBellsModel", "pulls", "I", false)
  | 19 => ("RopedBellsModel", "pullOf", "[I", true)
  | 20 => ("RopedBellsModel", "pullAt", "[I", true)
  | 21 => ("RopedBellsModel", "peals", "[I", true)
  | 22 => ("RopedBellsModel", "swings", "[I", true)
  | 23 => ("RopedBellsModel", "lastRang", "[I", true)
  | 24 => ("RopedBellsModel", "heardSince", "[I", true)
  | 25 => ("RopedBellsModel", "readings", "I", false)
  | 26 => ("RopedBellsModel", "readingOf", "[I", true)
  | 27 => ("RopedBellsModel", "readingAt", "[I", true)
  | 28 => ("RopedBellsModel", "readingIs", "[Z", true)
  | 29 => ("RopedBellsModel", "sheetSize", "[I", true)
  | 30 => ("RopedBellsModel", "sheetLane", "[I", true)
  | 31 => ("RopedBellsModel", "sheet", "[I", true)
  | 32 => ("RopedBellsModel", "hands", "[I", true)
  | _ => ("RopedBellsModel", "traceNow", "I", false)
def tyX7 : Nat → FieldType := fun k => match k with
  | 0 => .int
  | 1 => .int
  | 2 => .array .int
  | 3 => .array .int
  | 4 => .int
  | 5 => .int
  | 6 => .array .int
  | 7 => .array .int
  | 8 => .array .int
  | 9 => .int
  | 10 => .int
  | 11 => .int
  | 12 => .int
  | 13 => .array .int
  | 14 => .array .int
  | 15 => .array .int
  | 16 => .array .int
  | 17 => .array .int
  | 18 => .int
  | 19 => .array .int
  | 20 => .array .int
  | 21 => .array .int
  | 22 => .array .int
  | 23 => .array .int
  | 24 => .array .int
  | 25 => .int
  | 26 => .array .int
  | 27 => .array .int
  | 28 => .array .boolean
  | 29 => .array .int
  | 30 => .array .int
  | 31 => .array .int
  | 32 => .array .int
  | _ => .int
abbrev wsX70 : List Cond := u_ws RX7 TX7 34
theorem nmX7 : ∀ a, a < 34 → ∀ b, b < 34 → a ≠ b → (TX7 a).2.1 ≠ (TX7 b).2.1 := by decide +kernel
theorem tyX7_ok : ∀ k, k < 34 → parseFieldDescriptor (TX7 k).2.2.1 = some (tyX7 k) := by decide +kernel
abbrev cX7_init : ByteArray := prog_9_method_1_code
def yX7_init : MethodName := ⟨RX7, "<init>", "()V"⟩
abbrev cX7_in : ByteArray := prog_9_method_2_code
def yX7_in : MethodName := ⟨RX7, "in", "(JJJ)Z"⟩
abbrev cX7_lost : ByteArray := prog_9_method_3_code
def yX7_lost : MethodName := ⟨RX7, "lost", "()J"⟩
abbrev cX7_isIn : ByteArray := prog_9_method_4_code
def yX7_isIn : MethodName := ⟨RX7, "isIn", "(II)Z"⟩
abbrev cX7_bits : ByteArray := prog_9_method_5_code
def yX7_bits : MethodName := ⟨RX7, "bits", "(I)I"⟩
abbrev cX7_told : ByteArray := prog_9_method_6_code
def yX7_told : MethodName := ⟨RX7, "told", "(JJI)J"⟩
abbrev cX7_refused : ByteArray := prog_9_method_7_code
def yX7_refused : MethodName := ⟨RX7, "refused", "(I)I"⟩
abbrev cX7_failed : ByteArray := prog_9_method_8_code
def yX7_failed : MethodName := ⟨RX7, "failed", "(I)I"⟩
abbrev cX7_failedLong : ByteArray := prog_9_method_9_code
def yX7_failedLong : MethodName := ⟨RX7, "failedLong", "(I)J"⟩
abbrev cX7_noBell : ByteArray := prog_9_method_10_code
def yX7_noBell : MethodName := ⟨RX7, "noBell", "(I)Z"⟩
abbrev cX7_all : ByteArray := prog_9_method_11_code
def yX7_all : MethodName := ⟨RX7, "all", "()I"⟩
abbrev cX7_codeAt : ByteArray := prog_9_method_12_code
def yX7_codeAt : MethodName := ⟨RX7, "codeAt", "(II)I"⟩
abbrev cX7_figure : ByteArray := prog_9_method_13_code
def yX7_figure : MethodName := ⟨RX7, "figure", "(IIII)I"⟩
abbrev cX7_readsBell : ByteArray := prog_9_method_14_code
def yX7_readsBell : MethodName := ⟨RX7, "readsBell", "(II)Z"⟩
abbrev cX7_readsRope : ByteArray := prog_9_method_15_code
def yX7_readsRope : MethodName := ⟨RX7, "readsRope", "(II)Z"⟩
abbrev cX7_readsValley : ByteArray := prog_9_method_16_code
def yX7_readsValley : MethodName := ⟨RX7, "readsValley", "(II)Z"⟩
abbrev cX7_cellsBarred : ByteArray := prog_9_method_17_code
def yX7_cellsBarred : MethodName := ⟨RX7, "cellsBarred", "(IIIJ)I"⟩
abbrev cX7_valley : ByteArray := prog_9_method_18_code
def yX7_valley : MethodName := ⟨RX7, "valley", "(IIII)I"⟩
abbrev cX7_needs : ByteArray := prog_9_method_19_code
def yX7_needs : MethodName := ⟨RX7, "needs", "(I)I"⟩
abbrev cX7_ofBell : ByteArray := prog_9_method_20_code
def yX7_ofBell : MethodName := ⟨RX7, "ofBell", "(II)I"⟩
abbrev cX7_ofRope : ByteArray := prog_9_method_21_code
def yX7_ofRope : MethodName := ⟨RX7, "ofRope", "(II)I"⟩
abbrev cX7_tie : ByteArray := prog_9_method_22_code
def yX7_tie : MethodName := ⟨RX7, "tie", "(IZ)I"⟩
abbrev cX7_span : ByteArray := prog_9_method_23_code
def yX7_span : MethodName := ⟨RX7, "span", "(I)I"⟩
abbrev cX7_pull : ByteArray := prog_9_method_24_code
def yX7_pull : MethodName := ⟨RX7, "pull", "(II)I"⟩
abbrev cX7_undo : ByteArray := prog_9_method_25_code
def yX7_undo : MethodName := ⟨RX7, "undo", "(I)I"⟩
abbrev cX7_swingByRope : ByteArray := prog_9_method_26_code
def yX7_swingByRope : MethodName := ⟨RX7, "swingByRope", "(II)V"⟩
abbrev cX7_swingAll : ByteArray := prog_9_method_27_code
def yX7_swingAll : MethodName := ⟨RX7, "swingAll", "(III)V"⟩
abbrev cX7_doesRing : ByteArray := prog_9_method_28_code
def yX7_doesRing : MethodName := ⟨RX7, "doesRing", "(II)Z"⟩
abbrev cX7_go : ByteArray := prog_9_method_29_code
def yX7_go : MethodName := ⟨RX7, "go", "(III)V"⟩
abbrev cX7_goPulls : ByteArray := prog_9_method_30_code
def yX7_goPulls : MethodName := ⟨RX7, "goPulls", "()V"⟩
abbrev cX7_rings : ByteArray := prog_9_method_31_code
def yX7_rings : MethodName := ⟨RX7, "rings", "(I)I"⟩
abbrev cX7_ringsAt : ByteArray := prog_9_method_32_code
def yX7_ringsAt : MethodName := ⟨RX7, "ringsAt", "(II)I"⟩
abbrev cX7_peal : ByteArray := prog_9_method_33_code
def yX7_peal : MethodName := ⟨RX7, "peal", "(I)I"⟩
abbrev cX7_lastNow : ByteArray := prog_9_method_34_code
def yX7_lastNow : MethodName := ⟨RX7, "lastNow", "()I"⟩
abbrev cX7_stops : ByteArray := prog_9_method_35_code
def yX7_stops : MethodName := ⟨RX7, "stops", "()I"⟩
abbrev cX7_rung : ByteArray := prog_9_method_36_code
def yX7_rung : MethodName := ⟨RX7, "rung", "(II)I"⟩
abbrev cX7_fewest : ByteArray := prog_9_method_37_code
def yX7_fewest : MethodName := ⟨RX7, "fewest", "(I)I"⟩
abbrev cX7_still : ByteArray := prog_9_method_38_code
def yX7_still : MethodName := ⟨RX7, "still", "(I)I"⟩
abbrev cX7_hung : ByteArray := prog_9_method_39_code
def yX7_hung : MethodName := ⟨RX7, "hung", "(I)I"⟩
abbrev cX7_cut : ByteArray := prog_9_method_40_code
def yX7_cut : MethodName := ⟨RX7, "cut", "()I"⟩
abbrev cX7_reading : ByteArray := prog_9_method_41_code
def yX7_reading : MethodName := ⟨RX7, "reading", "(IIZ)I"⟩
abbrev cX7_back : ByteArray := prog_9_method_42_code
def yX7_back : MethodName := ⟨RX7, "back", "(I)I"⟩
abbrev cX7_areSo : ByteArray := prog_9_method_43_code
def yX7_areSo : MethodName := ⟨RX7, "areSo", "(II)Z"⟩
abbrev cX7_first : ByteArray := prog_9_method_44_code
def yX7_first : MethodName := ⟨RX7, "first", "()I"⟩
abbrev cX7_gone : ByteArray := prog_9_method_45_code
def yX7_gone : MethodName := ⟨RX7, "gone", "()I"⟩
abbrev cX7_sneezes : ByteArray := prog_9_method_46_code
def yX7_sneezes : MethodName := ⟨RX7, "sneezes", "(I)J"⟩
abbrev cX7_tune : ByteArray := prog_9_method_47_code
def yX7_tune : MethodName := ⟨RX7, "tune", "(IIII)I"⟩
abbrev cX7_noSheet : ByteArray := prog_9_method_48_code
def yX7_noSheet : MethodName := ⟨RX7, "noSheet", "(I)Z"⟩
abbrev cX7_sheet : ByteArray := prog_9_method_49_code
def yX7_sheet : MethodName := ⟨RX7, "sheet", "(III)I"⟩
abbrev cX7_lose : ByteArray := prog_9_method_50_code
def yX7_lose : MethodName := ⟨RX7, "lose", "(I)I"⟩
abbrev cX7_noCell : ByteArray := prog_9_method_51_code
def yX7_noCell : MethodName := ⟨RX7, "noCell", "(II)I"⟩
abbrev cX7_put : ByteArray := prog_9_method_52_code
def yX7_put : MethodName := ⟨RX7, "put", "(III)I"⟩
abbrev cX7_cell : ByteArray := prog_9_method_53_code
def yX7_cell : MethodName := ⟨RX7, "cell", "(III)J"⟩
abbrev cX7_isBeyond : ByteArray := prog_9_method_54_code
def yX7_isBeyond : MethodName := ⟨RX7, "isBeyond", "(IJI)Z"⟩
abbrev cX7_copy : ByteArray := prog_9_method_55_code
def yX7_copy : MethodName := ⟨RX7, "copy", "(IIIII)I"⟩
abbrev cX7_traced : ByteArray := prog_9_method_56_code
def yX7_traced : MethodName := ⟨RX7, "traced", "(I)V"⟩
abbrev cX7_tell : ByteArray := prog_9_method_57_code
def yX7_tell : MethodName := ⟨RX7, "tell", "(I)I"⟩
abbrev cX7_hail : ByteArray := prog_9_method_58_code
def yX7_hail : MethodName := ⟨RX7, "hail", "(I)I"⟩
abbrev cX7_as : ByteArray := prog_9_method_59_code
def yX7_as : MethodName := ⟨RX7, "as", "(II)I"⟩
abbrev cX7_trace : ByteArray := prog_9_method_60_code
def yX7_trace : MethodName := ⟨RX7, "trace", "()I"⟩
abbrev cX7_fault : ByteArray := prog_9_method_61_code
def yX7_fault : MethodName := ⟨RX7, "fault", "()I"⟩
abbrev cX7_many : ByteArray := prog_9_method_62_code
def yX7_many : MethodName := ⟨RX7, "many", "(I)I"⟩
def RJ6 : String := "java/lang/Integer"
def TJ6 : u_T := fun k => match k with
  | _ => ("", "", "", false)
def tyJ6 : Nat → FieldType := fun k => match k with
  | _ => .int
abbrev wsJ60 : List Cond := u_ws RJ6 TJ6 0
theorem nmJ6 : ∀ a, a < 0 → ∀ b, b < 0 → a ≠ b → (TJ6 a).2.1 ≠ (TJ6 b).2.1 := by decide +kernel
theorem tyJ6_ok : ∀ k, k < 0 → parseFieldDescriptor (TJ6 k).2.2.1 = some (tyJ6 k) := by decide +kernel
abbrev cJ6_bitCount_0f7a4 : ByteArray := prog_10_method_49_code
def yJ6_bitCount_0f7a4 : MethodName := ⟨RJ6, "bitCount", "(I)I"⟩
def RJ9 : String := "java/lang/Math"
def TJ9 : u_T := fun k => match k with
  | _ => ("", "", "", false)
def tyJ9 : Nat → FieldType := fun k => match k with
  | _ => .int
abbrev wsJ90 : List Cond := u_ws RJ9 TJ9 0
theorem nmJ9 : ∀ a, a < 0 → ∀ b, b < 0 → a ≠ b → (TJ9 a).2.1 ≠ (TJ9 b).2.1 := by decide +kernel
theorem tyJ9_ok : ∀ k, k < 0 → parseFieldDescriptor (TJ9 k).2.2.1 = some (tyJ9 k) := by decide +kernel
abbrev cJ9_max_7cf53 : ByteArray := prog_11_method_65_code
def yJ9_max_7cf53 : MethodName := ⟨RJ9, "max", "(II)I"⟩
def RJ10 : String := "java/lang/System"
def TJ10 : u_T := fun k => match k with
  | _ => ("", "", "", false)
def tyJ10 : Nat → FieldType := fun k => match k with
  | _ => .int
abbrev wsJ100 : List Cond := u_ws RJ10 TJ10 0
theorem nmJ10 : ∀ a, a < 0 → ∀ b, b < 0 → a ≠ b → (TJ10 a).2.1 ≠ (TJ10 b).2.1 := by decide +kernel
theorem tyJ10_ok : ∀ k, k < 0 → parseFieldDescriptor (TJ10 k).2.2.1 = some (tyJ10 k) := by decide +kernel
def RJ7 : String := "java/util/Arrays"
def TJ7 : u_T := fun k => match k with
  | _ => ("", "", "", false)
def tyJ7 : Nat → FieldType := fun k => match k with
  | _ => .int
abbrev wsJ70 : List Cond := u_ws RJ7 TJ7 0
theorem nmJ7 : ∀ a, a < 0 → ∀ b, b < 0 → a ≠ b → (TJ7 a).2.1 ≠ (TJ7 b).2.1 := by decide +kernel
theorem tyJ7_ok : ∀ k, k < 0 → parseFieldDescriptor (TJ7 k).2.2.1 = some (tyJ7 k) := by decide +kernel
abbrev cJ7_fill_53178 : ByteArray := prog_13_method_103_code
def yJ7_fill_53178 : MethodName := ⟨RJ7, "fill", "([II)V"⟩
def RL : String := "RopedBellsLaw"
abbrev cL_law : ByteArray := code
def yL_law : MethodName := ⟨RL, "law", "([I)Z"⟩
abbrev vwCl : List vw_C := [(RX0, TX0, 6), (RX1, TX1, 4), (RX2, TX2, 4), (RX3, TX3, 3), (RX4, TX4, 2), (RX5, TX5, 9), (RX6, TX6, 11), (RX7, TX7, 34)]
def TB : List Cond := lw_tbl.filter goodWord
theorem tb_good : ∀ w ∈ TB, ((w.onTables && w.keeps) = true ∨ ∃ ty, w = .arrayClass ty) := fun w hw => good_of_word (List.mem_filter.mp hw).2
theorem tb_in_lw : ∀ w ∈ TB, w ∈ lw_tbl := fun w hw => (List.mem_filter.mp hw).1
theorem tb_m {w : Cond} {i : Nat} (h : lw_tbl[i]? = some w) (hg : goodWord w = true) : w ∈ TB := List.mem_filter.mpr ⟨List.mem_of_getElem? h, hg⟩
theorem mem_p (ws : List Cond) (ps : List Nat) (h : ps.map (fun i => lw_tbl[i]?) = ws.map some) (hg : ws.all goodWord = true) : ∀ w ∈ ws, w ∈ TB := by
  intro w hw
  have h1 : some w ∈ ps.map (fun i => lw_tbl[i]?) := by rw [h]; exact List.mem_map.mpr ⟨w, hw, rfl⟩
  obtain ⟨i, -, hi⟩ := List.mem_map.mp h1
  exact tb_m hi (List.all_eq_true.mp hg w hw)
theorem tb_in {y : MethodName} {bytes : ByteArray} {n : Nat} {r : Option FieldType} (h : Cond.code y bytes n r ∈ TB) : GoodIn TB (Cond.code y bytes n r :: TB) := by
  intro w hw
  rcases List.mem_cons.mp hw with rfl | hw
  · exact ⟨h, tb_good _ h⟩
  · exact ⟨hw, tb_good _ hw⟩
theorem inX0 : ∀ w ∈ wsX00, w ∈ TB := mem_p _ [202, 204, 206, 208, 210, 212] (by decide +kernel) (by decide +kernel)
theorem inX1 : ∀ w ∈ wsX10, w ∈ TB := mem_p _ [159, 161, 163, 165] (by decide +kernel) (by decide +kernel)
theorem inX2 : ∀ w ∈ wsX20, w ∈ TB := mem_p _ [179, 181, 183, 185] (by decide +kernel) (by decide +kernel)
theorem inX3 : ∀ w ∈ wsX30, w ∈ TB := mem_p _ [228, 230, 232] (by decide +kernel) (by decide +kernel)
theorem inX4 : ∀ w ∈ wsX40, w ∈ TB := mem_p _ [139, 141] (by decide +kernel) (by decide +kernel)
theorem inX5 : ∀ w ∈ wsX50, w ∈ TB := mem_p _ [108, 110, 112, 114, 116, 118, 120, 122, 124] (by decide +kernel) (by decide +kernel)
theorem inX6 : ∀ w ∈ wsX60, w ∈ TB := mem_p _ [246, 248, 250, 252, 254, 256, 258, 260, 262, 264, 266] (by decide +kernel) (by decide +kernel)
theorem inX7 : ∀ w ∈ wsX70, w ∈ TB := mem_p _ [683, 685, 687, 689, 691, 693, 695, 697, 699, 701, 703, 705, 707, 709, 711, 713, 715, 717, 719, 721, 723, 725, 727, 729, 731, 733, 735, 737, 739, 741, 743, 745, 747, 749] (by decide +kernel) (by decide +kernel)
end
section
theorem dX0_init_0 : decode cX0_init 0 = .ok (.aload_n 0, 1) := by decide +kernel
theorem dX0_init_1 : decode cX0_init 1 = .ok (.invokespecial 3, 3) := by decide +kernel
theorem dX0_init_4 : decode cX0_init 4 = .ok (.aload_n 0, 1) := by decide +kernel
theorem dX0_init_5 : decode cX0_init 5 = .ok (.sipush 400, 3) := by decide +kernel
theorem dX0_init_8 : decode cX0_init 8 = .ok (.newarray .int, 2) := by decide +kernel
theorem dX0_init_10 : decode cX0_init 10 = .ok (.putfield 9, 3) := by decide +kernel
theorem dX0_init_13 : decode cX0_init 13 = .ok (.aload_n 0, 1) := by decide +kernel
theorem dX0_init_14 : decode cX0_init 14 = .ok (.bipush 60, 2) := by decide +kernel
theorem dX0_init_16 : decode cX0_init 16 = .ok (.newarray .int, 2) := by decide +kernel
theorem dX0_init_18 : decode cX0_init 18 = .ok (.putfield 15, 3) := by decide +kernel
theorem dX0_init_21 : decode cX0_init 21 = .ok (.aload_n 0, 1) := by decide +kernel
theorem dX0_init_22 : decode cX0_init 22 = .ok (.bipush 36, 2) := by decide +kernel
theorem dX0_init_24 : decode cX0_init 24 = .ok (.newarray .int, 2) := by decide +kernel
theorem dX0_init_26 : decode cX0_init 26 = .ok (.putfield 18, 3) := by decide +kernel
theorem dX0_init_29 : decode cX0_init 29 = .ok (.aload_n 0, 1) := by decide +kernel
theorem dX0_init_30 : decode cX0_init 30 = .ok (.bipush 6, 2) := by decide +kernel
theorem dX0_init_32 : decode cX0_init 32 = .ok (.newarray .int, 2) := by decide +kernel
theorem dX0_init_34 : decode cX0_init 34 = .ok (.putfield 21, 3) := by decide +kernel
theorem dX0_init_37 : decode cX0_init 37 = .ok (.aload_n 0, 1) := by decide +kernel
theorem dX0_init_38 : decode cX0_init 38 = .ok (.aload_n 1, 1) := by decide +kernel
theorem dX0_init_39 : decode cX0_init 39 = .ok (.putfield 24, 3) := by decide +kernel
theorem dX0_init_42 : decode cX0_init 42 = .ok (.return_, 1) := by decide +kernel
theorem dX0_rangAt_0 : decode cX0_rangAt 0 = .ok (.aload_n 0, 1) := by decide +kernel
theorem dX0_rangAt_1 : decode cX0_rangAt 1 = .ok (.getfield 9, 3) := by decide +kernel
theorem dX0_rangAt_4 : decode cX0_rangAt 4 = .ok (.iload_n 2, 1) := by decide +kernel
theorem dX0_rangAt_5 : decode cX0_rangAt 5 = .ok (.iaload, 1) := by decide +kernel
theorem dX0_rangAt_6 : decode cX0_rangAt 6 = .ok (.iload_n 1, 1) := by decide +kernel
theorem dX0_rangAt_7 : decode cX0_rangAt 7 = .ok (.ishr, 1) := by decide +kernel
theorem dX0_rangAt_8 : decode cX0_rangAt 8 = .ok (.iconst 1, 1) := by decide +kernel
theorem dX0_rangAt_9 : decode cX0_rangAt 9 = .ok (.iand, 1) := by decide +kernel
theorem dX0_rangAt_10 : decode cX0_rangAt 10 = .ok (.ifCond .eq 7, 3) := by decide +kernel
theorem dX0_rangAt_13 : decode cX0_rangAt 13 = .ok (.iconst 1, 1) := by decide +kernel
theorem dX0_rangAt_14 : decode cX0_rangAt 14 = .ok (.goto 4, 3) := by decide +kernel
theorem dX0_rangAt_17 : decode cX0_rangAt 17 = .ok (.iconst 0, 1) := by decide +kernel
theorem dX0_rangAt_18 : decode cX0_rangAt 18 = .ok (.ireturn, 1) := by decide +kernel
theorem dX0_bellsBefore_0 : decode cX0_bellsBefore 0 = .ok (.iconst 0, 1) := by decide +kernel
theorem dX0_bellsBefore_1 : decode cX0_bellsBefore 1 = .ok (.istore_n 2, 1) := by decide +kernel
theorem dX0_bellsBefore_2 : decode cX0_bellsBefore 2 = .ok (.iconst 0, 1) := by decide +kernel
theorem dX0_bellsBefore_3 : decode cX0_bellsBefore 3 = .ok (.istore_n 3, 1) := by decide +kernel
theorem dX0_bellsBefore_4 : decode cX0_bellsBefore 4 = .ok (.iload_n 3, 1) := by decide +kernel
theorem dX0_bellsBefore_5 : decode cX0_bellsBefore 5 = .ok (.iload_n 1, 1) := by decide +kernel
theorem dX0_bellsBefore_6 : decode cX0_bellsBefore 6 = .ok (.if_icmp .ge 18, 3) := by decide +kernel
theorem dX0_bellsBefore_9 : decode cX0_bellsBefore 9 = .ok (.iload_n 2, 1) := by decide +kernel
theorem dX0_bellsBefore_10 : decode cX0_bellsBefore 10 = .ok (.aload_n 0, 1) := by decide +kernel
theorem dX0_bellsBefore_11 : decode cX0_bellsBefore 11 = .ok (.getfield 9, 3) := by decide +kernel
theorem dX0_bellsBefore_14 : decode cX0_bellsBefore 14 = .ok (.iload_n 3, 1) := by decide +kernel
theorem dX0_bellsBefore_15 : decode cX0_bellsBefore 15 = .ok (.iaload, 1) := by decide +kernel
theorem dX0_bellsBefore_16 : decode cX0_bellsBefore 16 = .ok (.ior, 1) := by decide +kernel
theorem dX0_bellsBefore_17 : decode cX0_bellsBefore 17 = .ok (.istore_n 2, 1) := by decide +kernel
theorem dX0_bellsBefore_18 : decode cX0_bellsBefore 18 = .ok (.iinc 3 1, 3) := by decide +kernel
theorem dX0_bellsBefore_21 : decode cX0_bellsBefore 21 = .ok (.goto (-17), 3) := by decide +kernel
theorem dX0_bellsBefore_24 : decode cX0_bellsBefore 24 = .ok (.iload_n 2, 1) := by decide +kernel
theorem dX0_bellsBefore_25 : decode cX0_bellsBefore 25 = .ok (.ireturn, 1) := by decide +kernel
theorem dX0_lastMinute_0 : decode cX0_lastMinute 0 = .ok (.sipush 399, 3) := by decide +kernel
theorem dX0_lastMinute_3 : decode cX0_lastMinute 3 = .ok (.istore_n 1, 1) := by decide +kernel
theorem dX0_lastMinute_4 : decode cX0_lastMinute 4 = .ok (.iload_n 1, 1) := by decide +kernel
theorem dX0_lastMinute_5 : decode cX0_lastMinute 5 = .ok (.ifCond .lt 20, 3) := by decide +kernel
theorem dX0_lastMinute_8 : decode cX0_lastMinute 8 = .ok (.aload_n 0, 1) := by decide +kernel
theorem dX0_lastMinute_9 : decode cX0_lastMinute 9 = .ok (.getfield 9, 3) := by decide +kernel
theorem dX0_lastMinute_12 : decode cX0_lastMinute 12 = .ok (.iload_n 1, 1) := by decide +kernel
theorem dX0_lastMinute_13 : decode cX0_lastMinute 13 = .ok (.iaload, 1) := by decide +kernel
theorem dX0_lastMinute_14 : decode cX0_lastMinute 14 = .ok (.ifCond .eq 5, 3) := by decide +kernel
theorem dX0_lastMinute_17 : decode cX0_lastMinute 17 = .ok (.iload_n 1, 1) := by decide +kernel
theorem dX0_lastMinute_18 : decode cX0_lastMinute 18 = .ok (.ireturn, 1) := by decide +kernel
theorem dX0_lastMinute_19 : decode cX0_lastMinute 19 = .ok (.iinc 1 (-1), 3) := by decide +kernel
theorem dX0_lastMinute_22 : decode cX0_lastMinute 22 = .ok (.goto (-18), 3) := by decide +kernel
theorem dX0_lastMinute_25 : decode cX0_lastMinute 25 = .ok (.bipush (-9), 2) := by decide +kernel
theorem dX0_lastMinute_27 : decode cX0_lastMinute 27 = .ok (.ireturn, 1) := by decide +kernel
theorem dX0_play_0 : decode cX0_play 0 = .ok (.aload_n 0, 1) := by decide +kernel
theorem dX0_play_1 : decode cX0_play 1 = .ok (.getfield 9, 3) := by decide +kernel
theorem dX0_play_4 : decode cX0_play 4 = .ok (.iconst 0, 1) := by decide +kernel
theorem dX0_play_5 : decode cX0_play 5 = .ok (.invokestatic 28, 3) := by decide +kernel
theorem dX0_play_8 : decode cX0_play 8 = .ok (.aload_n 0, 1) := by decide +kernel
theorem dX0_play_9 : decode cX0_play 9 = .ok (.getfield 15, 3) := by decide +kernel
theorem dX0_play_12 : decode cX0_play 12 = .ok (.iconst 0, 1) := by decide +kernel
theorem dX0_play_13 : decode cX0_play 13 = .ok (.invokestatic 28, 3) := by decide +kernel
theorem dX0_play_16 : decode cX0_play 16 = .ok (.aload_n 0, 1) := by decide +kernel
theorem dX0_play_17 : decode cX0_play 17 = .ok (.getfield 18, 3) := by decide +kernel
theorem dX0_play_20 : decode cX0_play 20 = .ok (.iconst 0, 1) := by decide +kernel
theorem dX0_play_21 : decode cX0_play 21 = .ok (.invokestatic 28, 3) := by decide +kernel
theorem dX0_play_24 : decode cX0_play 24 = .ok (.aload_n 0, 1) := by decide +kernel
theorem dX0_play_25 : decode cX0_play 25 = .ok (.getfield 21, 3) := by decide +kernel
theorem dX0_play_28 : decode cX0_play 28 = .ok (.iconst 0, 1) := by decide +kernel
theorem dX0_play_29 : decode cX0_play 29 = .ok (.invokestatic 28, 3) := by decide +kernel
theorem dX0_play_32 : decode cX0_play 32 = .ok (.aload_n 0, 1) := by decide +kernel
theorem dX0_play_33 : decode cX0_play 33 = .ok (.aload_n 1, 1) := by decide +kernel
theorem dX0_play_34 : decode cX0_play 34 = .ok (.invokevirtual 34, 3) := by decide +kernel
theorem dX0_play_37 : decode cX0_play 37 = .ok (.putfield 40, 3) := by decide +kernel
theorem dX0_play_40 : decode cX0_play 40 = .ok (.iconst 0, 1) := by decide +kernel
theorem dX0_play_41 : decode cX0_play 41 = .ok (.istore 5, 2) := by decide +kernel
theorem dX0_play_43 : decode cX0_play 43 = .ok (.iload 5, 2) := by decide +kernel
theorem dX0_play_45 : decode cX0_play 45 = .ok (.iload 4, 2) := by decide +kernel
theorem dX0_play_47 : decode cX0_play 47 = .ok (.if_icmp .ge 55, 3) := by decide +kernel
theorem dX0_play_50 : decode cX0_play 50 = .ok (.iload 5, 2) := by decide +kernel
theorem dX0_play_52 : decode cX0_play 52 = .ok (.aload_n 0, 1) := by decide +kernel
theorem dX0_play_53 : decode cX0_play 53 = .ok (.getfield 40, 3) := by decide +kernel
theorem dX0_play_56 : decode cX0_play 56 = .ok (.if_icmp .gt 46, 3) := by decide +kernel
theorem dX0_play_59 : decode cX0_play 59 = .ok (.aload_n 0, 1) := by decide +kernel
theorem dX0_play_60 : decode cX0_play 60 = .ok (.iload 5, 2) := by decide +kernel
theorem dX0_play_62 : decode cX0_play 62 = .ok (.invokevirtual 44, 3) := by decide +kernel
theorem dX0_play_65 : decode cX0_play 65 = .ok (.aload_n 0, 1) := by decide +kernel
theorem dX0_play_66 : decode cX0_play 66 = .ok (.aload_n 1, 1) := by decide +kernel
theorem dX0_play_67 : decode cX0_play 67 = .ok (.iload 5, 2) := by decide +kernel
theorem dX0_play_69 : decode cX0_play 69 = .ok (.invokevirtual 48, 3) := by decide +kernel
theorem dX0_play_72 : decode cX0_play 72 = .ok (.aload_n 0, 1) := by decide +kernel
theorem dX0_play_73 : decode cX0_play 73 = .ok (.iload 5, 2) := by decide +kernel
theorem dX0_play_75 : decode cX0_play 75 = .ok (.iload_n 2, 1) := by decide +kernel
theorem dX0_play_76 : decode cX0_play 76 = .ok (.invokevirtual 52, 3) := by decide +kernel
theorem dX0_play_79 : decode cX0_play 79 = .ok (.aload_n 0, 1) := by decide +kernel
theorem dX0_play_80 : decode cX0_play 80 = .ok (.getfield 9, 3) := by decide +kernel
theorem dX0_play_83 : decode cX0_play 83 = .ok (.iload 5, 2) := by decide +kernel
theorem dX0_play_85 : decode cX0_play 85 = .ok (.iaload, 1) := by decide +kernel
theorem dX0_play_86 : decode cX0_play 86 = .ok (.ifCond .eq 10, 3) := by decide +kernel
theorem dX0_play_89 : decode cX0_play 89 = .ok (.aload_n 0, 1) := by decide +kernel
theorem dX0_play_90 : decode cX0_play 90 = .ok (.iload 5, 2) := by decide +kernel
theorem dX0_play_92 : decode cX0_play 92 = .ok (.iload_n 3, 1) := by decide +kernel
theorem dX0_play_93 : decode cX0_play 93 = .ok (.invokevirtual 56, 3) := by decide +kernel
theorem dX0_play_96 : decode cX0_play 96 = .ok (.iinc 5 1, 3) := by decide +kernel
theorem dX0_play_99 : decode cX0_play 99 = .ok (.goto (-56), 3) := by decide +kernel
theorem dX0_play_102 : decode cX0_play 102 = .ok (.return_, 1) := by decide +kernel
theorem dX0_swingByRopes_0 : decode cX0_swingByRopes 0 = .ok (.iload_n 1, 1) := by decide +kernel
theorem dX0_swingByRopes_1 : decode cX0_swingByRopes 1 = .ok (.bipush 10, 2) := by decide +kernel
theorem dX0_swingByRopes_3 : decode cX0_swingByRopes 3 = .ok (.irem, 1) := by decide +kernel
theorem dX0_swingByRopes_4 : decode cX0_swingByRopes 4 = .ok (.bipush 6, 2) := by decide +kernel
theorem dX0_swingByRopes_6 : decode cX0_swingByRopes 6 = .ok (.imul, 1) := by decide +kernel
theorem dX0_swingByRopes_7 : decode cX0_swingByRopes 7 = .ok (.istore_n 2, 1) := by decide +kernel
theorem dX0_swingByRopes_8 : decode cX0_swingByRopes 8 = .ok (.iload_n 1, 1) := by decide +kernel
theorem dX0_swingByRopes_9 : decode cX0_swingByRopes 9 = .ok (.bipush 6, 2) := by decide +kernel
theorem dX0_swingByRopes_11 : decode cX0_swingByRopes 11 = .ok (.irem, 1) := by decide +kernel
theorem dX0_swingByRopes_12 : decode cX0_swingByRopes 12 = .ok (.bipush 6, 2) := by decide +kernel
theorem dX0_swingByRopes_14 : decode cX0_swingByRopes 14 = .ok (.imul, 1) := by decide +kernel
theorem dX0_swingByRopes_15 : decode cX0_swingByRopes 15 = .ok (.istore_n 3, 1) := by decide +kernel
theorem dX0_swingByRopes_16 : decode cX0_swingByRopes 16 = .ok (.iconst 0, 1) := by decide +kernel
theorem dX0_swingByRopes_17 : decode cX0_swingByRopes 17 = .ok (.istore 4, 2) := by decide +kernel
theorem dX0_swingByRopes_19 : decode cX0_swingByRopes 19 = .ok (.iload 4, 2) := by decide +kernel
theorem dX0_swingByRopes_21 : decode cX0_swingByRopes 21 = .ok (.aload_n 0, 1) := by decide +kernel
theorem dX0_swingByRopes_22 : decode cX0_swingByRopes 22 = .ok (.getfield 24, 3) := by decide +kernel
theorem dX0_swingByRopes_25 : decode cX0_swingByRopes 25 = .ok (.getfield 59, 3) := by decide +kernel
theorem dX0_swingByRopes_28 : decode cX0_swingByRopes 28 = .ok (.if_icmp .ge 43, 3) := by decide +kernel
theorem dX0_swingByRopes_31 : decode cX0_swingByRopes 31 = .ok (.aload_n 0, 1) := by decide +kernel
theorem dX0_swingByRopes_32 : decode cX0_swingByRopes 32 = .ok (.getfield 18, 3) := by decide +kernel
theorem dX0_swingByRopes_35 : decode cX0_swingByRopes 35 = .ok (.iload_n 3, 1) := by decide +kernel
theorem dX0_swingByRopes_36 : decode cX0_swingByRopes 36 = .ok (.iload 4, 2) := by decide +kernel
theorem dX0_swingByRopes_38 : decode cX0_swingByRopes 38 = .ok (.iadd, 1) := by decide +kernel
theorem dX0_swingByRopes_39 : decode cX0_swingByRopes 39 = .ok (.aload_n 0, 1) := by decide +kernel
theorem dX0_swingByRopes_40 : decode cX0_swingByRopes 40 = .ok (.iload 4, 2) := by decide +kernel
theorem dX0_swingByRopes_42 : decode cX0_swingByRopes 42 = .ok (.aload_n 0, 1) := by decide +kernel
theorem dX0_swingByRopes_43 : decode cX0_swingByRopes 43 = .ok (.getfield 15, 3) := by decide +kernel
theorem dX0_swingByRopes_46 : decode cX0_swingByRopes 46 = .ok (.iload_n 2, 1) := by decide +kernel
theorem dX0_swingByRopes_47 : decode cX0_swingByRopes 47 = .ok (.iload 4, 2) := by decide +kernel
theorem dX0_swingByRopes_49 : decode cX0_swingByRopes 49 = .ok (.iadd, 1) := by decide +kernel
theorem dX0_swingByRopes_50 : decode cX0_swingByRopes 50 = .ok (.iaload, 1) := by decide +kernel
theorem dX0_swingByRopes_51 : decode cX0_swingByRopes 51 = .ok (.invokevirtual 64, 3) := by decide +kernel
theorem dX0_swingByRopes_54 : decode cX0_swingByRopes 54 = .ok (.iastore, 1) := by decide +kernel
theorem dX0_swingByRopes_55 : decode cX0_swingByRopes 55 = .ok (.aload_n 0, 1) := by decide +kernel
theorem dX0_swingByRopes_56 : decode cX0_swingByRopes 56 = .ok (.getfield 15, 3) := by decide +kernel
theorem dX0_swingByRopes_59 : decode cX0_swingByRopes 59 = .ok (.iload_n 2, 1) := by decide +kernel
theorem dX0_swingByRopes_60 : decode cX0_swingByRopes 60 = .ok (.iload 4, 2) := by decide +kernel
theorem dX0_swingByRopes_62 : decode cX0_swingByRopes 62 = .ok (.iadd, 1) := by decide +kernel
theorem dX0_swingByRopes_63 : decode cX0_swingByRopes 63 = .ok (.iconst 0, 1) := by decide +kernel
theorem dX0_swingByRopes_64 : decode cX0_swingByRopes 64 = .ok (.iastore, 1) := by decide +kernel
theorem dX0_swingByRopes_65 : decode cX0_swingByRopes 65 = .ok (.iinc 4 1, 3) := by decide +kernel
theorem dX0_swingByRopes_68 : decode cX0_swingByRopes 68 = .ok (.goto (-49), 3) := by decide +kernel
theorem dX0_swingByRopes_71 : decode cX0_swingByRopes 71 = .ok (.return_, 1) := by decide +kernel
theorem dX0_countedOf_0 : decode cX0_countedOf 0 = .ok (.aload_n 0, 1) := by decide +kernel
theorem dX0_countedOf_1 : decode cX0_countedOf 1 = .ok (.getfield 24, 3) := by decide +kernel
theorem dX0_countedOf_4 : decode cX0_countedOf 4 = .ok (.getfield 68, 3) := by decide +kernel
theorem dX0_countedOf_7 : decode cX0_countedOf 7 = .ok (.iload_n 1, 1) := by decide +kernel
theorem dX0_countedOf_8 : decode cX0_countedOf 8 = .ok (.iaload, 1) := by decide +kernel
theorem dX0_countedOf_9 : decode cX0_countedOf 9 = .ok (.iconst 2, 1) := by decide +kernel
theorem dX0_countedOf_10 : decode cX0_countedOf 10 = .ok (.if_icmp .eq 5, 3) := by decide +kernel
theorem dX0_countedOf_13 : decode cX0_countedOf 13 = .ok (.iload_n 2, 1) := by decide +kernel
theorem dX0_countedOf_14 : decode cX0_countedOf 14 = .ok (.ireturn, 1) := by decide +kernel
theorem dX0_countedOf_15 : decode cX0_countedOf 15 = .ok (.aload_n 0, 1) := by decide +kernel
theorem dX0_countedOf_16 : decode cX0_countedOf 16 = .ok (.getfield 21, 3) := by decide +kernel
theorem dX0_countedOf_19 : decode cX0_countedOf 19 = .ok (.iload_n 1, 1) := by decide +kernel
theorem dX0_countedOf_20 : decode cX0_countedOf 20 = .ok (.iaload, 1) := by decide +kernel
theorem dX0_countedOf_21 : decode cX0_countedOf 21 = .ok (.istore_n 3, 1) := by decide +kernel
theorem dX0_countedOf_22 : decode cX0_countedOf 22 = .ok (.aload_n 0, 1) := by decide +kernel
theorem dX0_countedOf_23 : decode cX0_countedOf 23 = .ok (.getfield 21, 3) := by decide +kernel
theorem dX0_countedOf_26 : decode cX0_countedOf 26 = .ok (.iload_n 1, 1) := by decide +kernel
theorem dX0_countedOf_27 : decode cX0_countedOf 27 = .ok (.iload_n 3, 1) := by decide +kernel
theorem dX0_countedOf_28 : decode cX0_countedOf 28 = .ok (.iload_n 2, 1) := by decide +kernel
theorem dX0_countedOf_29 : decode cX0_countedOf 29 = .ok (.iadd, 1) := by decide +kernel
theorem dX0_countedOf_30 : decode cX0_countedOf 30 = .ok (.iastore, 1) := by decide +kernel
theorem dX0_countedOf_31 : decode cX0_countedOf 31 = .ok (.iload_n 3, 1) := by decide +kernel
theorem dX0_countedOf_32 : decode cX0_countedOf 32 = .ok (.iload_n 2, 1) := by decide +kernel
theorem dX0_countedOf_33 : decode cX0_countedOf 33 = .ok (.iadd, 1) := by decide +kernel
theorem dX0_countedOf_34 : decode cX0_countedOf 34 = .ok (.iconst 2, 1) := by decide +kernel
theorem dX0_countedOf_35 : decode cX0_countedOf 35 = .ok (.idiv, 1) := by decide +kernel
theorem dX0_countedOf_36 : decode cX0_countedOf 36 = .ok (.iload_n 3, 1) := by decide +kernel
theorem dX0_countedOf_37 : decode cX0_countedOf 37 = .ok (.iconst 2, 1) := by decide +kernel
theorem dX0_countedOf_38 : decode cX0_countedOf 38 = .ok (.idiv, 1) := by decide +kernel
theorem dX0_countedOf_39 : decode cX0_countedOf 39 = .ok (.isub, 1) := by decide +kernel
theorem dX0_countedOf_40 : decode cX0_countedOf 40 = .ok (.ireturn, 1) := by decide +kernel
theorem dX0_swingByPulls_0 : decode cX0_swingByPulls 0 = .ok (.iload_n 2, 1) := by decide +kernel
theorem dX0_swingByPulls_1 : decode cX0_swingByPulls 1 = .ok (.bipush 6, 2) := by decide +kernel
theorem dX0_swingByPulls_3 : decode cX0_swingByPulls 3 = .ok (.irem, 1) := by decide +kernel
theorem dX0_swingByPulls_4 : decode cX0_swingByPulls 4 = .ok (.bipush 6, 2) := by decide +kernel
theorem dX0_swingByPulls_6 : decode cX0_swingByPulls 6 = .ok (.imul, 1) := by decide +kernel
theorem dX0_swingByPulls_7 : decode cX0_swingByPulls 7 = .ok (.istore_n 3, 1) := by decide +kernel
theorem dX0_swingByPulls_8 : decode cX0_swingByPulls 8 = .ok (.iconst 0, 1) := by decide +kernel
theorem dX0_swingByPulls_9 : decode cX0_swingByPulls 9 = .ok (.istore 4, 2) := by decide +kernel
theorem dX0_swingByPulls_11 : decode cX0_swingByPulls 11 = .ok (.iload 4, 2) := by decide +kernel
theorem dX0_swingByPulls_13 : decode cX0_swingByPulls 13 = .ok (.aload_n 1, 1) := by decide +kernel
theorem dX0_swingByPulls_14 : decode cX0_swingByPulls 14 = .ok (.getfield 71, 3) := by decide +kernel
theorem dX0_swingByPulls_17 : decode cX0_swingByPulls 17 = .ok (.if_icmp .ge 44, 3) := by decide +kernel
theorem dX0_swingByPulls_20 : decode cX0_swingByPulls 20 = .ok (.aload_n 1, 1) := by decide +kernel
theorem dX0_swingByPulls_21 : decode cX0_swingByPulls 21 = .ok (.getfield 74, 3) := by decide +kernel
theorem dX0_swingByPulls_24 : decode cX0_swingByPulls 24 = .ok (.iload 4, 2) := by decide +kernel
theorem dX0_swingByPulls_26 : decode cX0_swingByPulls 26 = .ok (.iaload, 1) := by decide +kernel
theorem dX0_swingByPulls_27 : decode cX0_swingByPulls 27 = .ok (.iload_n 2, 1) := by decide +kernel
theorem dX0_swingByPulls_28 : decode cX0_swingByPulls 28 = .ok (.if_icmp .ne 27, 3) := by decide +kernel
theorem dX0_swingByPulls_31 : decode cX0_swingByPulls 31 = .ok (.aload_n 0, 1) := by decide +kernel
theorem dX0_swingByPulls_32 : decode cX0_swingByPulls 32 = .ok (.getfield 18, 3) := by decide +kernel
theorem dX0_swingByPulls_35 : decode cX0_swingByPulls 35 = .ok (.iload_n 3, 1) := by decide +kernel
theorem dX0_swingByPulls_36 : decode cX0_swingByPulls 36 = .ok (.aload_n 1, 1) := by decide +kernel
theorem dX0_swingByPulls_37 : decode cX0_swingByPulls 37 = .ok (.getfield 77, 3) := by decide +kernel
theorem dX0_swingByPulls_40 : decode cX0_swingByPulls 40 = .ok (.iload 4, 2) := by decide +kernel
theorem dX0_swingByPulls_42 : decode cX0_swingByPulls 42 = .ok (.iaload, 1) := by decide +kernel
theorem dX0_swingByPulls_43 : decode cX0_swingByPulls 43 = .ok (.iadd, 1) := by decide +kernel
theorem dX0_swingByPulls_44 : decode cX0_swingByPulls 44 = .ok (.dup2, 1) := by decide +kernel
theorem dX0_swingByPulls_45 : decode cX0_swingByPulls 45 = .ok (.iaload, 1) := by decide +kernel
theorem dX0_swingByPulls_46 : decode cX0_swingByPulls 46 = .ok (.aload_n 1, 1) := by decide +kernel
theorem dX0_swingByPulls_47 : decode cX0_swingByPulls 47 = .ok (.getfield 79, 3) := by decide +kernel
theorem dX0_swingByPulls_50 : decode cX0_swingByPulls 50 = .ok (.iload 4, 2) := by decide +kernel
theorem dX0_swingByPulls_52 : decode cX0_swingByPulls 52 = .ok (.iaload, 1) := by decide +kernel
theorem dX0_swingByPulls_53 : decode cX0_swingByPulls 53 = .ok (.iadd, 1) := by decide +kernel
theorem dX0_swingByPulls_54 : decode cX0_swingByPulls 54 = .ok (.iastore, 1) := by decide +kernel
theorem dX0_swingByPulls_55 : decode cX0_swingByPulls 55 = .ok (.iinc 4 1, 3) := by decide +kernel
theorem dX0_swingByPulls_58 : decode cX0_swingByPulls 58 = .ok (.goto (-47), 3) := by decide +kernel
theorem dX0_swingByPulls_61 : decode cX0_swingByPulls 61 = .ok (.return_, 1) := by decide +kernel
theorem dX0_ringAll_0 : decode cX0_ringAll 0 = .ok (.iconst 0, 1) := by decide +kernel
theorem dX0_ringAll_1 : decode cX0_ringAll 1 = .ok (.istore_n 3, 1) := by decide +kernel
theorem dX0_ringAll_2 : decode cX0_ringAll 2 = .ok (.iload_n 3, 1) := by decide +kernel
theorem dX0_ringAll_3 : decode cX0_ringAll 3 = .ok (.aload_n 0, 1) := by decide +kernel
theorem dX0_ringAll_4 : decode cX0_ringAll 4 = .ok (.getfield 24, 3) := by decide +kernel
theorem dX0_ringAll_7 : decode cX0_ringAll 7 = .ok (.getfield 59, 3) := by decide +kernel
theorem dX0_ringAll_10 : decode cX0_ringAll 10 = .ok (.if_icmp .ge 51, 3) := by decide +kernel
theorem dX0_ringAll_13 : decode cX0_ringAll 13 = .ok (.iload_n 2, 1) := by decide +kernel
theorem dX0_ringAll_14 : decode cX0_ringAll 14 = .ok (.iload_n 3, 1) := by decide +kernel
theorem dX0_ringAll_15 : decode cX0_ringAll 15 = .ok (.ishr, 1) := by decide +kernel
theorem dX0_ringAll_16 : decode cX0_ringAll 16 = .ok (.iconst 1, 1) := by decide +kernel
theorem dX0_ringAll_17 : decode cX0_ringAll 17 = .ok (.iand, 1) := by decide +kernel
theorem dX0_ringAll_18 : decode cX0_ringAll 18 = .ok (.ifCond .ne 37, 3) := by decide +kernel
theorem dX0_ringAll_21 : decode cX0_ringAll 21 = .ok (.aload_n 0, 1) := by decide +kernel
theorem dX0_ringAll_22 : decode cX0_ringAll 22 = .ok (.iload_n 3, 1) := by decide +kernel
theorem dX0_ringAll_23 : decode cX0_ringAll 23 = .ok (.iload_n 1, 1) := by decide +kernel
theorem dX0_ringAll_24 : decode cX0_ringAll 24 = .ok (.invokevirtual 82, 3) := by decide +kernel
theorem dX0_ringAll_27 : decode cX0_ringAll 27 = .ok (.aload_n 0, 1) := by decide +kernel
theorem dX0_ringAll_28 : decode cX0_ringAll 28 = .ok (.getfield 24, 3) := by decide +kernel
theorem dX0_ringAll_31 : decode cX0_ringAll 31 = .ok (.iload_n 3, 1) := by decide +kernel
theorem dX0_ringAll_32 : decode cX0_ringAll 32 = .ok (.invokevirtual 85, 3) := by decide +kernel
theorem dX0_ringAll_35 : decode cX0_ringAll 35 = .ok (.if_icmp .lt 20, 3) := by decide +kernel
theorem dX0_ringAll_38 : decode cX0_ringAll 38 = .ok (.aload_n 0, 1) := by decide +kernel
theorem dX0_ringAll_39 : decode cX0_ringAll 39 = .ok (.getfield 9, 3) := by decide +kernel
theorem dX0_ringAll_42 : decode cX0_ringAll 42 = .ok (.iload_n 1, 1) := by decide +kernel
theorem dX0_ringAll_43 : decode cX0_ringAll 43 = .ok (.dup2, 1) := by decide +kernel
theorem dX0_ringAll_44 : decode cX0_ringAll 44 = .ok (.iaload, 1) := by decide +kernel
theorem dX0_ringAll_45 : decode cX0_ringAll 45 = .ok (.iconst 1, 1) := by decide +kernel
theorem dX0_ringAll_46 : decode cX0_ringAll 46 = .ok (.iload_n 3, 1) := by decide +kernel
theorem dX0_ringAll_47 : decode cX0_ringAll 47 = .ok (.ishl, 1) := by decide +kernel
theorem dX0_ringAll_48 : decode cX0_ringAll 48 = .ok (.ior, 1) := by decide +kernel
theorem dX0_ringAll_49 : decode cX0_ringAll 49 = .ok (.iastore, 1) := by decide +kernel
theorem dX0_ringAll_50 : decode cX0_ringAll 50 = .ok (.aload_n 0, 1) := by decide +kernel
theorem dX0_ringAll_51 : decode cX0_ringAll 51 = .ok (.iload_n 3, 1) := by decide +kernel
theorem dX0_ringAll_52 : decode cX0_ringAll 52 = .ok (.invokevirtual 89, 3) := by decide +kernel
theorem dX0_ringAll_55 : decode cX0_ringAll 55 = .ok (.iinc 3 1, 3) := by decide +kernel
theorem dX0_ringAll_58 : decode cX0_ringAll 58 = .ok (.goto (-56), 3) := by decide +kernel
theorem dX0_ringAll_61 : decode cX0_ringAll 61 = .ok (.return_, 1) := by decide +kernel
theorem dX0_countTogether_0 : decode cX0_countTogether 0 = .ok (.iconst 0, 1) := by decide +kernel
theorem dX0_countTogether_1 : decode cX0_countTogether 1 = .ok (.istore_n 3, 1) := by decide +kernel
theorem dX0_countTogether_2 : decode cX0_countTogether 2 = .ok (.iconst 0, 1) := by decide +kernel
theorem dX0_countTogether_3 : decode cX0_countTogether 3 = .ok (.istore 4, 2) := by decide +kernel
theorem dX0_countTogether_5 : decode cX0_countTogether 5 = .ok (.iload 4, 2) := by decide +kernel
theorem dX0_countTogether_7 : decode cX0_countTogether 7 = .ok (.aload_n 0, 1) := by decide +kernel
theorem dX0_countTogether_8 : decode cX0_countTogether 8 = .ok (.getfield 24, 3) := by decide +kernel
theorem dX0_countTogether_11 : decode cX0_countTogether 11 = .ok (.getfield 92, 3) := by decide +kernel
theorem dX0_countTogether_14 : decode cX0_countTogether 14 = .ok (.if_icmp .gt 35, 3) := by decide +kernel
theorem dX0_countTogether_17 : decode cX0_countTogether 17 = .ok (.iload 4, 2) := by decide +kernel
theorem dX0_countTogether_19 : decode cX0_countTogether 19 = .ok (.iload_n 2, 1) := by decide +kernel
theorem dX0_countTogether_20 : decode cX0_countTogether 20 = .ok (.if_icmp .gt 29, 3) := by decide +kernel
theorem dX0_countTogether_23 : decode cX0_countTogether 23 = .ok (.iload_n 3, 1) := by decide +kernel
theorem dX0_countTogether_24 : decode cX0_countTogether 24 = .ok (.aload_n 0, 1) := by decide +kernel
theorem dX0_countTogether_25 : decode cX0_countTogether 25 = .ok (.getfield 18, 3) := by decide +kernel
theorem dX0_countTogether_28 : decode cX0_countTogether 28 = .ok (.iload_n 2, 1) := by decide +kernel
theorem dX0_countTogether_29 : decode cX0_countTogether 29 = .ok (.iload 4, 2) := by decide +kernel
theorem dX0_countTogether_31 : decode cX0_countTogether 31 = .ok (.isub, 1) := by decide +kernel
theorem dX0_countTogether_32 : decode cX0_countTogether 32 = .ok (.bipush 6, 2) := by decide +kernel
theorem dX0_countTogether_34 : decode cX0_countTogether 34 = .ok (.irem, 1) := by decide +kernel
theorem dX0_countTogether_35 : decode cX0_countTogether 35 = .ok (.bipush 6, 2) := by decide +kernel
theorem dX0_countTogether_37 : decode cX0_countTogether 37 = .ok (.imul, 1) := by decide +kernel
theorem dX0_countTogether_38 : decode cX0_countTogether 38 = .ok (.iload_n 1, 1) := by decide +kernel
theorem dX0_countTogether_39 : decode cX0_countTogether 39 = .ok (.iadd, 1) := by decide +kernel
theorem dX0_countTogether_40 : decode cX0_countTogether 40 = .ok (.iaload, 1) := by decide +kernel
theorem dX0_countTogether_41 : decode cX0_countTogether 41 = .ok (.iadd, 1) := by decide +kernel
theorem dX0_countTogether_42 : decode cX0_countTogether 42 = .ok (.istore_n 3, 1) := by decide +kernel
theorem dX0_countTogether_43 : decode cX0_countTogether 43 = .ok (.iinc 4 1, 3) := by decide +kernel
theorem dX0_countTogether_46 : decode cX0_countTogether 46 = .ok (.goto (-41), 3) := by decide +kernel
theorem dX0_countTogether_49 : decode cX0_countTogether 49 = .ok (.iload_n 3, 1) := by decide +kernel
theorem dX0_countTogether_50 : decode cX0_countTogether 50 = .ok (.ireturn, 1) := by decide +kernel
theorem dX0_forget_0 : decode cX0_forget 0 = .ok (.iconst 0, 1) := by decide +kernel
theorem dX0_forget_1 : decode cX0_forget 1 = .ok (.istore_n 2, 1) := by decide +kernel
theorem dX0_forget_2 : decode cX0_forget 2 = .ok (.iload_n 2, 1) := by decide +kernel
theorem dX0_forget_3 : decode cX0_forget 3 = .ok (.bipush 6, 2) := by decide +kernel
theorem dX0_forget_5 : decode cX0_forget 5 = .ok (.if_icmp .ge 21, 3) := by decide +kernel
theorem dX0_forget_8 : decode cX0_forget 8 = .ok (.aload_n 0, 1) := by decide +kernel
theorem dX0_forget_9 : decode cX0_forget 9 = .ok (.getfield 18, 3) := by decide +kernel
theorem dX0_forget_12 : decode cX0_forget 12 = .ok (.iload_n 2, 1) := by decide +kernel
theorem dX0_forget_13 : decode cX0_forget 13 = .ok (.bipush 6, 2) := by decide +kernel
theorem dX0_forget_15 : decode cX0_forget 15 = .ok (.imul, 1) := by decide +kernel
theorem dX0_forget_16 : decode cX0_forget 16 = .ok (.iload_n 1, 1) := by decide +kernel
theorem dX0_forget_17 : decode cX0_forget 17 = .ok (.iadd, 1) := by decide +kernel
theorem dX0_forget_18 : decode cX0_forget 18 = .ok (.iconst 0, 1) := by decide +kernel
theorem dX0_forget_19 : decode cX0_forget 19 = .ok (.iastore, 1) := by decide +kernel
theorem dX0_forget_20 : decode cX0_forget 20 = .ok (.iinc 2 1, 3) := by decide +kernel
theorem dX0_forget_23 : decode cX0_forget 23 = .ok (.goto (-21), 3) := by decide +kernel
theorem dX0_forget_26 : decode cX0_forget 26 = .ok (.aload_n 0, 1) := by decide +kernel
theorem dX0_forget_27 : decode cX0_forget 27 = .ok (.getfield 21, 3) := by decide +kernel
theorem dX0_forget_30 : decode cX0_forget 30 = .ok (.iload_n 1, 1) := by decide +kernel
theorem dX0_forget_31 : decode cX0_forget 31 = .ok (.iconst 0, 1) := by decide +kernel
theorem dX0_forget_32 : decode cX0_forget 32 = .ok (.iastore, 1) := by decide +kernel
theorem dX0_forget_33 : decode cX0_forget 33 = .ok (.return_, 1) := by decide +kernel
theorem dX0_sendOn_0 : decode cX0_sendOn 0 = .ok (.iconst 0, 1) := by decide +kernel
theorem dX0_sendOn_1 : decode cX0_sendOn 1 = .ok (.istore_n 3, 1) := by decide +kernel
theorem dX0_sendOn_2 : decode cX0_sendOn 2 = .ok (.iload_n 3, 1) := by decide +kernel
theorem dX0_sendOn_3 : decode cX0_sendOn 3 = .ok (.bipush 8, 2) := by decide +kernel
theorem dX0_sendOn_5 : decode cX0_sendOn 5 = .ok (.if_icmp .gt 87, 3) := by decide +kernel
theorem dX0_sendOn_8 : decode cX0_sendOn 8 = .ok (.iload_n 2, 1) := by decide +kernel
theorem dX0_sendOn_9 : decode cX0_sendOn 9 = .ok (.iload_n 3, 1) := by decide +kernel
theorem dX0_sendOn_10 : decode cX0_sendOn 10 = .ok (.ishr, 1) := by decide +kernel
theorem dX0_sendOn_11 : decode cX0_sendOn 11 = .ok (.iconst 1, 1) := by decide +kernel
theorem dX0_sendOn_12 : decode cX0_sendOn 12 = .ok (.iand, 1) := by decide +kernel
theorem dX0_sendOn_13 : decode cX0_sendOn 13 = .ok (.ifCond .eq 73, 3) := by decide +kernel
theorem dX0_sendOn_16 : decode cX0_sendOn 16 = .ok (.aload_n 0, 1) := by decide +kernel
theorem dX0_sendOn_17 : decode cX0_sendOn 17 = .ok (.aload_n 0, 1) := by decide +kernel
theorem dX0_sendOn_18 : decode cX0_sendOn 18 = .ok (.getfield 24, 3) := by decide +kernel
theorem dX0_sendOn_21 : decode cX0_sendOn 21 = .ok (.getfield 95, 3) := by decide +kernel
theorem dX0_sendOn_24 : decode cX0_sendOn 24 = .ok (.iload_n 3, 1) := by decide +kernel
theorem dX0_sendOn_25 : decode cX0_sendOn 25 = .ok (.iaload, 1) := by decide +kernel
theorem dX0_sendOn_26 : decode cX0_sendOn 26 = .ok (.iload_n 1, 1) := by decide +kernel
theorem dX0_sendOn_27 : decode cX0_sendOn 27 = .ok (.invokevirtual 98, 3) := by decide +kernel
theorem dX0_sendOn_30 : decode cX0_sendOn 30 = .ok (.ifCond .eq 56, 3) := by decide +kernel
theorem dX0_sendOn_33 : decode cX0_sendOn 33 = .ok (.iload_n 1, 1) := by decide +kernel
theorem dX0_sendOn_34 : decode cX0_sendOn 34 = .ok (.aload_n 0, 1) := by decide +kernel
theorem dX0_sendOn_35 : decode cX0_sendOn 35 = .ok (.getfield 24, 3) := by decide +kernel
theorem dX0_sendOn_38 : decode cX0_sendOn 38 = .ok (.getfield 102, 3) := by decide +kernel
theorem dX0_sendOn_41 : decode cX0_sendOn 41 = .ok (.iload_n 3, 1) := by decide +kernel
theorem dX0_sendOn_42 : decode cX0_sendOn 42 = .ok (.iaload, 1) := by decide +kernel
theorem dX0_sendOn_43 : decode cX0_sendOn 43 = .ok (.iadd, 1) := by decide +kernel
theorem dX0_sendOn_44 : decode cX0_sendOn 44 = .ok (.istore 4, 2) := by decide +kernel
theorem dX0_sendOn_46 : decode cX0_sendOn 46 = .ok (.aload_n 0, 1) := by decide +kernel
theorem dX0_sendOn_47 : decode cX0_sendOn 47 = .ok (.getfield 15, 3) := by decide +kernel
theorem dX0_sendOn_50 : decode cX0_sendOn 50 = .ok (.iload 4, 2) := by decide +kernel
theorem dX0_sendOn_52 : decode cX0_sendOn 52 = .ok (.bipush 10, 2) := by decide +kernel
theorem dX0_sendOn_54 : decode cX0_sendOn 54 = .ok (.irem, 1) := by decide +kernel
theorem dX0_sendOn_55 : decode cX0_sendOn 55 = .ok (.bipush 6, 2) := by decide +kernel
theorem dX0_sendOn_57 : decode cX0_sendOn 57 = .ok (.imul, 1) := by decide +kernel
theorem dX0_sendOn_58 : decode cX0_sendOn 58 = .ok (.aload_n 0, 1) := by decide +kernel
theorem dX0_sendOn_59 : decode cX0_sendOn 59 = .ok (.getfield 24, 3) := by decide +kernel
theorem dX0_sendOn_62 : decode cX0_sendOn 62 = .ok (.getfield 105, 3) := by decide +kernel
theorem dX0_sendOn_65 : decode cX0_sendOn 65 = .ok (.iload_n 3, 1) := by decide +kernel
theorem dX0_sendOn_66 : decode cX0_sendOn 66 = .ok (.iaload, 1) := by decide +kernel
theorem dX0_sendOn_67 : decode cX0_sendOn 67 = .ok (.iadd, 1) := by decide +kernel
theorem dX0_sendOn_68 : decode cX0_sendOn 68 = .ok (.dup2, 1) := by decide +kernel
theorem dX0_sendOn_69 : decode cX0_sendOn 69 = .ok (.iaload, 1) := by decide +kernel
theorem dX0_sendOn_70 : decode cX0_sendOn 70 = .ok (.iconst 1, 1) := by decide +kernel
theorem dX0_sendOn_71 : decode cX0_sendOn 71 = .ok (.iadd, 1) := by decide +kernel
theorem dX0_sendOn_72 : decode cX0_sendOn 72 = .ok (.iastore, 1) := by decide +kernel
theorem dX0_sendOn_73 : decode cX0_sendOn 73 = .ok (.aload_n 0, 1) := by decide +kernel
theorem dX0_sendOn_74 : decode cX0_sendOn 74 = .ok (.aload_n 0, 1) := by decide +kernel
theorem dX0_sendOn_75 : decode cX0_sendOn 75 = .ok (.getfield 40, 3) := by decide +kernel
theorem dX0_sendOn_78 : decode cX0_sendOn 78 = .ok (.iload 4, 2) := by decide +kernel
theorem dX0_sendOn_80 : decode cX0_sendOn 80 = .ok (.invokestatic 108, 3) := by decide +kernel
theorem dX0_sendOn_83 : decode cX0_sendOn 83 = .ok (.putfield 40, 3) := by decide +kernel
theorem dX0_sendOn_86 : decode cX0_sendOn 86 = .ok (.iinc 3 1, 3) := by decide +kernel
theorem dX0_sendOn_89 : decode cX0_sendOn 89 = .ok (.goto (-87), 3) := by decide +kernel
theorem dX0_sendOn_92 : decode cX0_sendOn 92 = .ok (.return_, 1) := by decide +kernel
theorem dX1_init_0 : decode cX1_init 0 = .ok (.aload_n 0, 1) := by decide +kernel
theorem dX1_init_1 : decode cX1_init 1 = .ok (.invokespecial 3, 3) := by decide +kernel
theorem dX1_init_4 : decode cX1_init 4 = .ok (.aload_n 0, 1) := by decide +kernel
theorem dX1_init_5 : decode cX1_init 5 = .ok (.bipush 6, 2) := by decide +kernel
theorem dX1_init_7 : decode cX1_init 7 = .ok (.newarray .int, 2) := by decide +kernel
theorem dX1_init_9 : decode cX1_init 9 = .ok (.putfield 9, 3) := by decide +kernel
theorem dX1_init_12 : decode cX1_init 12 = .ok (.aload_n 0, 1) := by decide +kernel
theorem dX1_init_13 : decode cX1_init 13 = .ok (.bipush 6, 2) := by decide +kernel
theorem dX1_init_15 : decode cX1_init 15 = .ok (.newarray .int, 2) := by decide +kernel
theorem dX1_init_17 : decode cX1_init 17 = .ok (.putfield 15, 3) := by decide +kernel
theorem dX1_init_20 : decode cX1_init 20 = .ok (.aload_n 0, 1) := by decide +kernel
theorem dX1_init_21 : decode cX1_init 21 = .ok (.bipush 6, 2) := by decide +kernel
theorem dX1_init_23 : decode cX1_init 23 = .ok (.newarray .int, 2) := by decide +kernel
theorem dX1_init_25 : decode cX1_init 25 = .ok (.putfield 18, 3) := by decide +kernel
theorem dX1_init_28 : decode cX1_init 28 = .ok (.return_, 1) := by decide +kernel
theorem dX1_add_0 : decode cX1_add 0 = .ok (.aload_n 0, 1) := by decide +kernel
theorem dX1_add_1 : decode cX1_add 1 = .ok (.getfield 21, 3) := by decide +kernel
theorem dX1_add_4 : decode cX1_add 4 = .ok (.bipush 6, 2) := by decide +kernel
theorem dX1_add_6 : decode cX1_add 6 = .ok (.if_icmp .ge 43, 3) := by decide +kernel
theorem dX1_add_9 : decode cX1_add 9 = .ok (.aload_n 0, 1) := by decide +kernel
theorem dX1_add_10 : decode cX1_add 10 = .ok (.getfield 9, 3) := by decide +kernel
theorem dX1_add_13 : decode cX1_add 13 = .ok (.aload_n 0, 1) := by decide +kernel
theorem dX1_add_14 : decode cX1_add 14 = .ok (.getfield 21, 3) := by decide +kernel
theorem dX1_add_17 : decode cX1_add 17 = .ok (.iload_n 1, 1) := by decide +kernel
theorem dX1_add_18 : decode cX1_add 18 = .ok (.iastore, 1) := by decide +kernel
theorem dX1_add_19 : decode cX1_add 19 = .ok (.aload_n 0, 1) := by decide +kernel
theorem dX1_add_20 : decode cX1_add 20 = .ok (.getfield 15, 3) := by decide +kernel
theorem dX1_add_23 : decode cX1_add 23 = .ok (.aload_n 0, 1) := by decide +kernel
theorem dX1_add_24 : decode cX1_add 24 = .ok (.getfield 21, 3) := by decide +kernel
theorem dX1_add_27 : decode cX1_add 27 = .ok (.iload_n 2, 1) := by decide +kernel
theorem dX1_add_28 : decode cX1_add 28 = .ok (.iastore, 1) := by decide +kernel
theorem dX1_add_29 : decode cX1_add 29 = .ok (.aload_n 0, 1) := by decide +kernel
theorem dX1_add_30 : decode cX1_add 30 = .ok (.getfield 18, 3) := by decide +kernel
theorem dX1_add_33 : decode cX1_add 33 = .ok (.aload_n 0, 1) := by decide +kernel
theorem dX1_add_34 : decode cX1_add 34 = .ok (.getfield 21, 3) := by decide +kernel
theorem dX1_add_37 : decode cX1_add 37 = .ok (.iload_n 3, 1) := by decide +kernel
theorem dX1_add_38 : decode cX1_add 38 = .ok (.iastore, 1) := by decide +kernel
theorem dX1_add_39 : decode cX1_add 39 = .ok (.aload_n 0, 1) := by decide +kernel
theorem dX1_add_40 : decode cX1_add 40 = .ok (.dup, 1) := by decide +kernel
theorem dX1_add_41 : decode cX1_add 41 = .ok (.getfield 21, 3) := by decide +kernel
theorem dX1_add_44 : decode cX1_add 44 = .ok (.iconst 1, 1) := by decide +kernel
theorem dX1_add_45 : decode cX1_add 45 = .ok (.iadd, 1) := by decide +kernel
theorem dX1_add_46 : decode cX1_add 46 = .ok (.putfield 21, 3) := by decide +kernel
theorem dX1_add_49 : decode cX1_add 49 = .ok (.return_, 1) := by decide +kernel
theorem dX1_lastMinute_0 : decode cX1_lastMinute 0 = .ok (.bipush (-9), 2) := by decide +kernel
theorem dX1_lastMinute_2 : decode cX1_lastMinute 2 = .ok (.istore_n 1, 1) := by decide +kernel
theorem dX1_lastMinute_3 : decode cX1_lastMinute 3 = .ok (.iconst 0, 1) := by decide +kernel
theorem dX1_lastMinute_4 : decode cX1_lastMinute 4 = .ok (.istore_n 2, 1) := by decide +kernel
theorem dX1_lastMinute_5 : decode cX1_lastMinute 5 = .ok (.iload_n 2, 1) := by decide +kernel
theorem dX1_lastMinute_6 : decode cX1_lastMinute 6 = .ok (.aload_n 0, 1) := by decide +kernel
theorem dX1_lastMinute_7 : decode cX1_lastMinute 7 = .ok (.getfield 21, 3) := by decide +kernel
theorem dX1_lastMinute_10 : decode cX1_lastMinute 10 = .ok (.if_icmp .ge 20, 3) := by decide +kernel
theorem dX1_lastMinute_13 : decode cX1_lastMinute 13 = .ok (.iload_n 1, 1) := by decide +kernel
theorem dX1_lastMinute_14 : decode cX1_lastMinute 14 = .ok (.aload_n 0, 1) := by decide +kernel
theorem dX1_lastMinute_15 : decode cX1_lastMinute 15 = .ok (.getfield 15, 3) := by decide +kernel
theorem dX1_lastMinute_18 : decode cX1_lastMinute 18 = .ok (.iload_n 2, 1) := by decide +kernel
theorem dX1_lastMinute_19 : decode cX1_lastMinute 19 = .ok (.iaload, 1) := by decide +kernel
theorem dX1_lastMinute_20 : decode cX1_lastMinute 20 = .ok (.invokestatic 25, 3) := by decide +kernel
theorem dX1_lastMinute_23 : decode cX1_lastMinute 23 = .ok (.istore_n 1, 1) := by decide +kernel
theorem dX1_lastMinute_24 : decode cX1_lastMinute 24 = .ok (.iinc 2 1, 3) := by decide +kernel
theorem dX1_lastMinute_27 : decode cX1_lastMinute 27 = .ok (.goto (-22), 3) := by decide +kernel
theorem dX1_lastMinute_30 : decode cX1_lastMinute 30 = .ok (.iload_n 1, 1) := by decide +kernel
theorem dX1_lastMinute_31 : decode cX1_lastMinute 31 = .ok (.ireturn, 1) := by decide +kernel
theorem dX2_init_0 : decode cX2_init 0 = .ok (.aload_n 0, 1) := by decide +kernel
theorem dX2_init_1 : decode cX2_init 1 = .ok (.invokespecial 3, 3) := by decide +kernel
theorem dX2_init_4 : decode cX2_init 4 = .ok (.aload_n 0, 1) := by decide +kernel
theorem dX2_init_5 : decode cX2_init 5 = .ok (.bipush 6, 2) := by decide +kernel
theorem dX2_init_7 : decode cX2_init 7 = .ok (.newarray .int, 2) := by decide +kernel
theorem dX2_init_9 : decode cX2_init 9 = .ok (.putfield 9, 3) := by decide +kernel
theorem dX2_init_12 : decode cX2_init 12 = .ok (.aload_n 0, 1) := by decide +kernel
theorem dX2_init_13 : decode cX2_init 13 = .ok (.bipush 6, 2) := by decide +kernel
theorem dX2_init_15 : decode cX2_init 15 = .ok (.newarray .int, 2) := by decide +kernel
theorem dX2_init_17 : decode cX2_init 17 = .ok (.putfield 15, 3) := by decide +kernel
theorem dX2_init_20 : decode cX2_init 20 = .ok (.aload_n 0, 1) := by decide +kernel
theorem dX2_init_21 : decode cX2_init 21 = .ok (.bipush 6, 2) := by decide +kernel
theorem dX2_init_23 : decode cX2_init 23 = .ok (.newarray .boolean, 2) := by decide +kernel
theorem dX2_init_25 : decode cX2_init 25 = .ok (.putfield 18, 3) := by decide +kernel
theorem dX2_init_28 : decode cX2_init 28 = .ok (.return_, 1) := by decide +kernel
theorem dX2_add_0 : decode cX2_add 0 = .ok (.aload_n 0, 1) := by decide +kernel
theorem dX2_add_1 : decode cX2_add 1 = .ok (.getfield 22, 3) := by decide +kernel
theorem dX2_add_4 : decode cX2_add 4 = .ok (.bipush 6, 2) := by decide +kernel
theorem dX2_add_6 : decode cX2_add 6 = .ok (.if_icmp .ge 43, 3) := by decide +kernel
theorem dX2_add_9 : decode cX2_add 9 = .ok (.aload_n 0, 1) := by decide +kernel
theorem dX2_add_10 : decode cX2_add 10 = .ok (.getfield 9, 3) := by decide +kernel
theorem dX2_add_13 : decode cX2_add 13 = .ok (.aload_n 0, 1) := by decide +kernel
theorem dX2_add_14 : decode cX2_add 14 = .ok (.getfield 22, 3) := by decide +kernel
theorem dX2_add_17 : decode cX2_add 17 = .ok (.iload_n 1, 1) := by decide +kernel
theorem dX2_add_18 : decode cX2_add 18 = .ok (.iastore, 1) := by decide +kernel
theorem dX2_add_19 : decode cX2_add 19 = .ok (.aload_n 0, 1) := by decide +kernel
theorem dX2_add_20 : decode cX2_add 20 = .ok (.getfield 15, 3) := by decide +kernel
theorem dX2_add_23 : decode cX2_add 23 = .ok (.aload_n 0, 1) := by decide +kernel
theorem dX2_add_24 : decode cX2_add 24 = .ok (.getfield 22, 3) := by decide +kernel
theorem dX2_add_27 : decode cX2_add 27 = .ok (.iload_n 2, 1) := by decide +kernel
theorem dX2_add_28 : decode cX2_add 28 = .ok (.iastore, 1) := by decide +kernel
theorem dX2_add_29 : decode cX2_add 29 = .ok (.aload_n 0, 1) := by decide +kernel
theorem dX2_add_30 : decode cX2_add 30 = .ok (.getfield 18, 3) := by decide +kernel
theorem dX2_add_33 : decode cX2_add 33 = .ok (.aload_n 0, 1) := by decide +kernel
theorem dX2_add_34 : decode cX2_add 34 = .ok (.getfield 22, 3) := by decide +kernel
theorem dX2_add_37 : decode cX2_add 37 = .ok (.iload_n 3, 1) := by decide +kernel
theorem dX2_add_38 : decode cX2_add 38 = .ok (.bastore, 1) := by decide +kernel
theorem dX2_add_39 : decode cX2_add 39 = .ok (.aload_n 0, 1) := by decide +kernel
theorem dX2_add_40 : decode cX2_add 40 = .ok (.dup, 1) := by decide +kernel
theorem dX2_add_41 : decode cX2_add 41 = .ok (.getfield 22, 3) := by decide +kernel
theorem dX2_add_44 : decode cX2_add 44 = .ok (.iconst 1, 1) := by decide +kernel
theorem dX2_add_45 : decode cX2_add 45 = .ok (.iadd, 1) := by decide +kernel
theorem dX2_add_46 : decode cX2_add 46 = .ok (.putfield 22, 3) := by decide +kernel
theorem dX2_add_49 : decode cX2_add 49 = .ok (.return_, 1) := by decide +kernel
theorem dX2_areSoIn_0 : decode cX2_areSoIn 0 = .ok (.iconst 0, 1) := by decide +kernel
theorem dX2_areSoIn_1 : decode cX2_areSoIn 1 = .ok (.istore_n 2, 1) := by decide +kernel
theorem dX2_areSoIn_2 : decode cX2_areSoIn 2 = .ok (.iload_n 2, 1) := by decide +kernel
theorem dX2_areSoIn_3 : decode cX2_areSoIn 3 = .ok (.aload_n 0, 1) := by decide +kernel
theorem dX2_areSoIn_4 : decode cX2_areSoIn 4 = .ok (.getfield 22, 3) := by decide +kernel
theorem dX2_areSoIn_7 : decode cX2_areSoIn 7 = .ok (.if_icmp .ge 36, 3) := by decide +kernel
theorem dX2_areSoIn_10 : decode cX2_areSoIn 10 = .ok (.aload_n 1, 1) := by decide +kernel
theorem dX2_areSoIn_11 : decode cX2_areSoIn 11 = .ok (.aload_n 0, 1) := by decide +kernel
theorem dX2_areSoIn_12 : decode cX2_areSoIn 12 = .ok (.getfield 9, 3) := by decide +kernel
theorem dX2_areSoIn_15 : decode cX2_areSoIn 15 = .ok (.iload_n 2, 1) := by decide +kernel
theorem dX2_areSoIn_16 : decode cX2_areSoIn 16 = .ok (.iaload, 1) := by decide +kernel
theorem dX2_areSoIn_17 : decode cX2_areSoIn 17 = .ok (.aload_n 0, 1) := by decide +kernel
theorem dX2_areSoIn_18 : decode cX2_areSoIn 18 = .ok (.getfield 15, 3) := by decide +kernel
theorem dX2_areSoIn_21 : decode cX2_areSoIn 21 = .ok (.iload_n 2, 1) := by decide +kernel
theorem dX2_areSoIn_22 : decode cX2_areSoIn 22 = .ok (.iaload, 1) := by decide +kernel
theorem dX2_areSoIn_23 : decode cX2_areSoIn 23 = .ok (.invokevirtual 26, 3) := by decide +kernel
theorem dX2_areSoIn_26 : decode cX2_areSoIn 26 = .ok (.aload_n 0, 1) := by decide +kernel
theorem dX2_areSoIn_27 : decode cX2_areSoIn 27 = .ok (.getfield 18, 3) := by decide +kernel
theorem dX2_areSoIn_30 : decode cX2_areSoIn 30 = .ok (.iload_n 2, 1) := by decide +kernel
theorem dX2_areSoIn_31 : decode cX2_areSoIn 31 = .ok (.baload, 1) := by decide +kernel
theorem dX2_areSoIn_32 : decode cX2_areSoIn 32 = .ok (.if_icmp .eq 5, 3) := by decide +kernel
theorem dX2_areSoIn_35 : decode cX2_areSoIn 35 = .ok (.iconst 0, 1) := by decide +kernel
theorem dX2_areSoIn_36 : decode cX2_areSoIn 36 = .ok (.ireturn, 1) := by decide +kernel
theorem dX2_areSoIn_37 : decode cX2_areSoIn 37 = .ok (.iinc 2 1, 3) := by decide +kernel
theorem dX2_areSoIn_40 : decode cX2_areSoIn 40 = .ok (.goto (-38), 3) := by decide +kernel
theorem dX2_areSoIn_43 : decode cX2_areSoIn 43 = .ok (.iconst 1, 1) := by decide +kernel
theorem dX2_areSoIn_44 : decode cX2_areSoIn 44 = .ok (.ireturn, 1) := by decide +kernel
theorem dX3_init_0 : decode cX3_init 0 = .ok (.aload_n 0, 1) := by decide +kernel
theorem dX3_init_1 : decode cX3_init 1 = .ok (.invokespecial 3, 3) := by decide +kernel
theorem dX3_init_4 : decode cX3_init 4 = .ok (.aload_n 0, 1) := by decide +kernel
theorem dX3_init_5 : decode cX3_init 5 = .ok (.bipush 60, 2) := by decide +kernel
theorem dX3_init_7 : decode cX3_init 7 = .ok (.newarray .int, 2) := by decide +kernel
theorem dX3_init_9 : decode cX3_init 9 = .ok (.putfield 9, 3) := by decide +kernel
theorem dX3_init_12 : decode cX3_init 12 = .ok (.aload_n 0, 1) := by decide +kernel
theorem dX3_init_13 : decode cX3_init 13 = .ok (.iconst (-1), 1) := by decide +kernel
theorem dX3_init_14 : decode cX3_init 14 = .ok (.putfield 15, 3) := by decide +kernel
theorem dX3_init_17 : decode cX3_init 17 = .ok (.return_, 1) := by decide +kernel
theorem dX3_begin_0 : decode cX3_begin 0 = .ok (.aload_n 0, 1) := by decide +kernel
theorem dX3_begin_1 : decode cX3_begin 1 = .ok (.getfield 9, 3) := by decide +kernel
theorem dX3_begin_4 : decode cX3_begin 4 = .ok (.iconst 0, 1) := by decide +kernel
theorem dX3_begin_5 : decode cX3_begin 5 = .ok (.invokestatic 19, 3) := by decide +kernel
theorem dX3_begin_8 : decode cX3_begin 8 = .ok (.aload_n 0, 1) := by decide +kernel
theorem dX3_begin_9 : decode cX3_begin 9 = .ok (.iload_n 1, 1) := by decide +kernel
theorem dX3_begin_10 : decode cX3_begin 10 = .ok (.putfield 25, 3) := by decide +kernel
theorem dX3_begin_13 : decode cX3_begin 13 = .ok (.aload_n 0, 1) := by decide +kernel
theorem dX3_begin_14 : decode cX3_begin 14 = .ok (.iload_n 2, 1) := by decide +kernel
theorem dX3_begin_15 : decode cX3_begin 15 = .ok (.putfield 15, 3) := by decide +kernel
theorem dX3_begin_18 : decode cX3_begin 18 = .ok (.return_, 1) := by decide +kernel
theorem dX3_hasRow_0 : decode cX3_hasRow 0 = .ok (.aload_n 0, 1) := by decide +kernel
theorem dX3_hasRow_1 : decode cX3_hasRow 1 = .ok (.getfield 15, 3) := by decide +kernel
theorem dX3_hasRow_4 : decode cX3_hasRow 4 = .ok (.iconst (-1), 1) := by decide +kernel
theorem dX3_hasRow_5 : decode cX3_hasRow 5 = .ok (.if_icmp .eq 7, 3) := by decide +kernel
theorem dX3_hasRow_8 : decode cX3_hasRow 8 = .ok (.iconst 1, 1) := by decide +kernel
theorem dX3_hasRow_9 : decode cX3_hasRow 9 = .ok (.goto 4, 3) := by decide +kernel
theorem dX3_hasRow_12 : decode cX3_hasRow 12 = .ok (.iconst 0, 1) := by decide +kernel
theorem dX3_hasRow_13 : decode cX3_hasRow 13 = .ok (.ireturn, 1) := by decide +kernel
theorem dX3_hasCell_0 : decode cX3_hasCell 0 = .ok (.iload_n 1, 1) := by decide +kernel
theorem dX3_hasCell_1 : decode cX3_hasCell 1 = .ok (.ifCond .lt 15, 3) := by decide +kernel
theorem dX3_hasCell_4 : decode cX3_hasCell 4 = .ok (.iload_n 1, 1) := by decide +kernel
theorem dX3_hasCell_5 : decode cX3_hasCell 5 = .ok (.aload_n 0, 1) := by decide +kernel
theorem dX3_hasCell_6 : decode cX3_hasCell 6 = .ok (.getfield 15, 3) := by decide +kernel
theorem dX3_hasCell_9 : decode cX3_hasCell 9 = .ok (.if_icmp .ge 7, 3) := by decide +kernel
theorem dX3_hasCell_12 : decode cX3_hasCell 12 = .ok (.iconst 1, 1) := by decide +kernel
theorem dX3_hasCell_13 : decode cX3_hasCell 13 = .ok (.goto 4, 3) := by decide +kernel
theorem dX3_hasCell_16 : decode cX3_hasCell 16 = .ok (.iconst 0, 1) := by decide +kernel
theorem dX3_hasCell_17 : decode cX3_hasCell 17 = .ok (.ireturn, 1) := by decide +kernel
theorem dX3_hasCells_0 : decode cX3_hasCells 0 = .ok (.iload_n 1, 1) := by decide +kernel
theorem dX3_hasCells_1 : decode cX3_hasCells 1 = .ok (.ifCond .lt 29, 3) := by decide +kernel
theorem dX3_hasCells_4 : decode cX3_hasCells 4 = .ok (.iload_n 1, 1) := by decide +kernel
theorem dX3_hasCells_5 : decode cX3_hasCells 5 = .ok (.aload_n 0, 1) := by decide +kernel
theorem dX3_hasCells_6 : decode cX3_hasCells 6 = .ok (.getfield 15, 3) := by decide +kernel
theorem dX3_hasCells_9 : decode cX3_hasCells 9 = .ok (.if_icmp .gt 21, 3) := by decide +kernel
theorem dX3_hasCells_12 : decode cX3_hasCells 12 = .ok (.iload_n 2, 1) := by decide +kernel
theorem dX3_hasCells_13 : decode cX3_hasCells 13 = .ok (.ifCond .lt 17, 3) := by decide +kernel
theorem dX3_hasCells_16 : decode cX3_hasCells 16 = .ok (.iload_n 2, 1) := by decide +kernel
theorem dX3_hasCells_17 : decode cX3_hasCells 17 = .ok (.aload_n 0, 1) := by decide +kernel
theorem dX3_hasCells_18 : decode cX3_hasCells 18 = .ok (.getfield 15, 3) := by decide +kernel
theorem dX3_hasCells_21 : decode cX3_hasCells 21 = .ok (.iload_n 1, 1) := by decide +kernel
theorem dX3_hasCells_22 : decode cX3_hasCells 22 = .ok (.isub, 1) := by decide +kernel
theorem dX3_hasCells_23 : decode cX3_hasCells 23 = .ok (.if_icmp .gt 7, 3) := by decide +kernel
theorem dX3_hasCells_26 : decode cX3_hasCells 26 = .ok (.iconst 1, 1) := by decide +kernel
theorem dX3_hasCells_27 : decode cX3_hasCells 27 = .ok (.goto 4, 3) := by decide +kernel
theorem dX3_hasCells_30 : decode cX3_hasCells 30 = .ok (.iconst 0, 1) := by decide +kernel
theorem dX3_hasCells_31 : decode cX3_hasCells 31 = .ok (.ireturn, 1) := by decide +kernel
theorem dX3_faultOfLane_0 : decode cX3_faultOfLane 0 = .ok (.aload_n 0, 1) := by decide +kernel
theorem dX3_faultOfLane_1 : decode cX3_faultOfLane 1 = .ok (.invokevirtual 28, 3) := by decide +kernel
theorem dX3_faultOfLane_4 : decode cX3_faultOfLane 4 = .ok (.ifCond .ne 5, 3) := by decide +kernel
theorem dX3_faultOfLane_7 : decode cX3_faultOfLane 7 = .ok (.iconst 1, 1) := by decide +kernel
theorem dX3_faultOfLane_8 : decode cX3_faultOfLane 8 = .ok (.ireturn, 1) := by decide +kernel
theorem dX3_faultOfLane_9 : decode cX3_faultOfLane 9 = .ok (.aload_n 0, 1) := by decide +kernel
theorem dX3_faultOfLane_10 : decode cX3_faultOfLane 10 = .ok (.getfield 25, 3) := by decide +kernel
theorem dX3_faultOfLane_13 : decode cX3_faultOfLane 13 = .ok (.iload_n 1, 1) := by decide +kernel
theorem dX3_faultOfLane_14 : decode cX3_faultOfLane 14 = .ok (.if_icmp .ne 7, 3) := by decide +kernel
theorem dX3_faultOfLane_17 : decode cX3_faultOfLane 17 = .ok (.iconst 0, 1) := by decide +kernel
theorem dX3_faultOfLane_18 : decode cX3_faultOfLane 18 = .ok (.goto 4, 3) := by decide +kernel
theorem dX3_faultOfLane_21 : decode cX3_faultOfLane 21 = .ok (.iconst 2, 1) := by decide +kernel
theorem dX3_faultOfLane_22 : decode cX3_faultOfLane 22 = .ok (.ireturn, 1) := by decide +kernel
theorem dX3_faultOfCells_0 : decode cX3_faultOfCells 0 = .ok (.aload_n 0, 1) := by decide +kernel
theorem dX3_faultOfCells_1 : decode cX3_faultOfCells 1 = .ok (.iload_n 1, 1) := by decide +kernel
theorem dX3_faultOfCells_2 : decode cX3_faultOfCells 2 = .ok (.invokevirtual 32, 3) := by decide +kernel
theorem dX3_faultOfCells_5 : decode cX3_faultOfCells 5 = .ok (.istore 4, 2) := by decide +kernel
theorem dX3_faultOfCells_7 : decode cX3_faultOfCells 7 = .ok (.iload 4, 2) := by decide +kernel
theorem dX3_faultOfCells_9 : decode cX3_faultOfCells 9 = .ok (.ifCond .eq 6, 3) := by decide +kernel
theorem dX3_faultOfCells_12 : decode cX3_faultOfCells 12 = .ok (.iload 4, 2) := by decide +kernel
theorem dX3_faultOfCells_14 : decode cX3_faultOfCells 14 = .ok (.ireturn, 1) := by decide +kernel
theorem dX3_faultOfCells_15 : decode cX3_faultOfCells 15 = .ok (.iload_n 3, 1) := by decide +kernel
theorem dX3_faultOfCells_16 : decode cX3_faultOfCells 16 = .ok (.ifCond .ge 5, 3) := by decide +kernel
theorem dX3_faultOfCells_19 : decode cX3_faultOfCells 19 = .ok (.iconst 4, 1) := by decide +kernel
theorem dX3_faultOfCells_20 : decode cX3_faultOfCells 20 = .ok (.ireturn, 1) := by decide +kernel
theorem dX3_faultOfCells_21 : decode cX3_faultOfCells 21 = .ok (.aload_n 0, 1) := by decide +kernel
theorem dX3_faultOfCells_22 : decode cX3_faultOfCells 22 = .ok (.iload_n 2, 1) := by decide +kernel
theorem dX3_faultOfCells_23 : decode cX3_faultOfCells 23 = .ok (.iload_n 3, 1) := by decide +kernel
theorem dX3_faultOfCells_24 : decode cX3_faultOfCells 24 = .ok (.invokevirtual 36, 3) := by decide +kernel
theorem dX3_faultOfCells_27 : decode cX3_faultOfCells 27 = .ok (.ifCond .eq 7, 3) := by decide +kernel
theorem dX3_faultOfCells_30 : decode cX3_faultOfCells 30 = .ok (.iconst 0, 1) := by decide +kernel
theorem dX3_faultOfCells_31 : decode cX3_faultOfCells 31 = .ok (.goto 4, 3) := by decide +kernel
theorem dX3_faultOfCells_34 : decode cX3_faultOfCells 34 = .ok (.iconst 3, 1) := by decide +kernel
theorem dX3_faultOfCells_35 : decode cX3_faultOfCells 35 = .ok (.ireturn, 1) := by decide +kernel
theorem dX3_cutToLane_0 : decode cX3_cutToLane 0 = .ok (.aload_n 0, 1) := by decide +kernel
theorem dX3_cutToLane_1 : decode cX3_cutToLane 1 = .ok (.getfield 25, 3) := by decide +kernel
theorem dX3_cutToLane_4 : decode cX3_cutToLane 4 = .ok (.lookupswitch 34 #[(0, 28), (1, 31)], 28) := by decide +kernel
theorem dX3_cutToLane_32 : decode cX3_cutToLane 32 = .ok (.iload_n 1, 1) := by decide +kernel
theorem dX3_cutToLane_33 : decode cX3_cutToLane 33 = .ok (.i2b, 1) := by decide +kernel
theorem dX3_cutToLane_34 : decode cX3_cutToLane 34 = .ok (.ireturn, 1) := by decide +kernel
theorem dX3_cutToLane_35 : decode cX3_cutToLane 35 = .ok (.iload_n 1, 1) := by decide +kernel
theorem dX3_cutToLane_36 : decode cX3_cutToLane 36 = .ok (.i2s, 1) := by decide +kernel
theorem dX3_cutToLane_37 : decode cX3_cutToLane 37 = .ok (.ireturn, 1) := by decide +kernel
theorem dX3_cutToLane_38 : decode cX3_cutToLane 38 = .ok (.iload_n 1, 1) := by decide +kernel
theorem dX3_cutToLane_39 : decode cX3_cutToLane 39 = .ok (.ireturn, 1) := by decide +kernel
theorem dX4_init_0 : decode cX4_init 0 = .ok (.aload_n 0, 1) := by decide +kernel
theorem dX4_init_1 : decode cX4_init 1 = .ok (.invokespecial 3, 3) := by decide +kernel
theorem dX4_init_4 : decode cX4_init 4 = .ok (.aload_n 0, 1) := by decide +kernel
theorem dX4_init_5 : decode cX4_init 5 = .ok (.new 9, 3) := by decide +kernel
theorem dX4_init_8 : decode cX4_init 8 = .ok (.dup, 1) := by decide +kernel
theorem dX4_init_9 : decode cX4_init 9 = .ok (.invokespecial 11, 3) := by decide +kernel
theorem dX4_init_12 : decode cX4_init 12 = .ok (.putfield 12, 3) := by decide +kernel
theorem dX4_init_15 : decode cX4_init 15 = .ok (.return_, 1) := by decide +kernel
theorem dX4_firstFault_0 : decode cX4_firstFault 0 = .ok (.aload_n 0, 1) := by decide +kernel
theorem dX4_firstFault_1 : decode cX4_firstFault 1 = .ok (.getfield 12, 3) := by decide +kernel
theorem dX4_firstFault_4 : decode cX4_firstFault 4 = .ok (.invokevirtual 18, 3) := by decide +kernel
theorem dX4_firstFault_7 : decode cX4_firstFault 7 = .ok (.aload_n 0, 1) := by decide +kernel
theorem dX4_firstFault_8 : decode cX4_firstFault 8 = .ok (.iconst 0, 1) := by decide +kernel
theorem dX4_firstFault_9 : decode cX4_firstFault 9 = .ok (.putfield 21, 3) := by decide +kernel
theorem dX4_firstFault_12 : decode cX4_firstFault 12 = .ok (.iconst 0, 1) := by decide +kernel
theorem dX4_firstFault_13 : decode cX4_firstFault 13 = .ok (.istore 4, 2) := by decide +kernel
theorem dX4_firstFault_15 : decode cX4_firstFault 15 = .ok (.iload 4, 2) := by decide +kernel
theorem dX4_firstFault_17 : decode cX4_firstFault 17 = .ok (.iload_n 3, 1) := by decide +kernel
theorem dX4_firstFault_18 : decode cX4_firstFault 18 = .ok (.if_icmp .ge 25, 3) := by decide +kernel
theorem dX4_firstFault_21 : decode cX4_firstFault 21 = .ok (.aload_n 0, 1) := by decide +kernel
theorem dX4_firstFault_22 : decode cX4_firstFault 22 = .ok (.aload_n 1, 1) := by decide +kernel
theorem dX4_firstFault_23 : decode cX4_firstFault 23 = .ok (.iload_n 2, 1) := by decide +kernel
theorem dX4_firstFault_24 : decode cX4_firstFault 24 = .ok (.iload 4, 2) := by decide +kernel
theorem dX4_firstFault_26 : decode cX4_firstFault 26 = .ok (.iadd, 1) := by decide +kernel
theorem dX4_firstFault_27 : decode cX4_firstFault 27 = .ok (.iaload, 1) := by decide +kernel
theorem dX4_firstFault_28 : decode cX4_firstFault 28 = .ok (.invokevirtual 25, 3) := by decide +kernel
theorem dX4_firstFault_31 : decode cX4_firstFault 31 = .ok (.ifCond .ne 6, 3) := by decide +kernel
theorem dX4_firstFault_34 : decode cX4_firstFault 34 = .ok (.iload 4, 2) := by decide +kernel
theorem dX4_firstFault_36 : decode cX4_firstFault 36 = .ok (.ireturn, 1) := by decide +kernel
theorem dX4_firstFault_37 : decode cX4_firstFault 37 = .ok (.iinc 4 1, 3) := by decide +kernel
theorem dX4_firstFault_40 : decode cX4_firstFault 40 = .ok (.goto (-25), 3) := by decide +kernel
theorem dX4_firstFault_43 : decode cX4_firstFault 43 = .ok (.aload_n 0, 1) := by decide +kernel
theorem dX4_firstFault_44 : decode cX4_firstFault 44 = .ok (.getfield 21, 3) := by decide +kernel
theorem dX4_firstFault_47 : decode cX4_firstFault 47 = .ok (.iconst 1, 1) := by decide +kernel
theorem dX4_firstFault_48 : decode cX4_firstFault 48 = .ok (.if_icmp .ne 19, 3) := by decide +kernel
theorem dX4_firstFault_51 : decode cX4_firstFault 51 = .ok (.aload_n 0, 1) := by decide +kernel
theorem dX4_firstFault_52 : decode cX4_firstFault 52 = .ok (.getfield 12, 3) := by decide +kernel
theorem dX4_firstFault_55 : decode cX4_firstFault 55 = .ok (.getfield 29, 3) := by decide +kernel
theorem dX4_firstFault_58 : decode cX4_firstFault 58 = .ok (.iconst 2, 1) := by decide +kernel
theorem dX4_firstFault_59 : decode cX4_firstFault 59 = .ok (.if_icmp .lt 8, 3) := by decide +kernel
theorem dX4_firstFault_62 : decode cX4_firstFault 62 = .ok (.bipush (-9), 2) := by decide +kernel
theorem dX4_firstFault_64 : decode cX4_firstFault 64 = .ok (.goto 4, 3) := by decide +kernel
theorem dX4_firstFault_67 : decode cX4_firstFault 67 = .ok (.iload_n 3, 1) := by decide +kernel
theorem dX4_firstFault_68 : decode cX4_firstFault 68 = .ok (.ireturn, 1) := by decide +kernel
theorem dX4_goesOnWith_0 : decode cX4_goesOnWith 0 = .ok (.aload_n 0, 1) := by decide +kernel
theorem dX4_goesOnWith_1 : decode cX4_goesOnWith 1 = .ok (.getfield 21, 3) := by decide +kernel
theorem dX4_goesOnWith_4 : decode cX4_goesOnWith 4 = .ok (.tableswitch 73 0 2 #[28, 45, 64], 28) := by decide +kernel
theorem dX4_goesOnWith_32 : decode cX4_goesOnWith 32 = .ok (.aload_n 0, 1) := by decide +kernel
theorem dX4_goesOnWith_33 : decode cX4_goesOnWith 33 = .ok (.iconst 1, 1) := by decide +kernel
theorem dX4_goesOnWith_34 : decode cX4_goesOnWith 34 = .ok (.putfield 21, 3) := by decide +kernel
theorem dX4_goesOnWith_37 : decode cX4_goesOnWith 37 = .ok (.iload_n 1, 1) := by decide +kernel
theorem dX4_goesOnWith_38 : decode cX4_goesOnWith 38 = .ok (.bipush 118, 2) := by decide +kernel
theorem dX4_goesOnWith_40 : decode cX4_goesOnWith 40 = .ok (.if_icmp .ne 7, 3) := by decide +kernel
theorem dX4_goesOnWith_43 : decode cX4_goesOnWith 43 = .ok (.iconst 1, 1) := by decide +kernel
theorem dX4_goesOnWith_44 : decode cX4_goesOnWith 44 = .ok (.goto 4, 3) := by decide +kernel
theorem dX4_goesOnWith_47 : decode cX4_goesOnWith 47 = .ok (.iconst 0, 1) := by decide +kernel
theorem dX4_goesOnWith_48 : decode cX4_goesOnWith 48 = .ok (.ireturn, 1) := by decide +kernel
theorem dX4_goesOnWith_49 : decode cX4_goesOnWith 49 = .ok (.iload_n 1, 1) := by decide +kernel
theorem dX4_goesOnWith_50 : decode cX4_goesOnWith 50 = .ok (.bipush 59, 2) := by decide +kernel
theorem dX4_goesOnWith_52 : decode cX4_goesOnWith 52 = .ok (.if_icmp .ne 10, 3) := by decide +kernel
theorem dX4_goesOnWith_55 : decode cX4_goesOnWith 55 = .ok (.aload_n 0, 1) := by decide +kernel
theorem dX4_goesOnWith_56 : decode cX4_goesOnWith 56 = .ok (.invokevirtual 32, 3) := by decide +kernel
theorem dX4_goesOnWith_59 : decode cX4_goesOnWith 59 = .ok (.goto 8, 3) := by decide +kernel
theorem dX4_goesOnWith_62 : decode cX4_goesOnWith 62 = .ok (.aload_n 0, 1) := by decide +kernel
theorem dX4_goesOnWith_63 : decode cX4_goesOnWith 63 = .ok (.iload_n 1, 1) := by decide +kernel
theorem dX4_goesOnWith_64 : decode cX4_goesOnWith 64 = .ok (.invokevirtual 36, 3) := by decide +kernel
theorem dX4_goesOnWith_67 : decode cX4_goesOnWith 67 = .ok (.ireturn, 1) := by decide +kernel
theorem dX4_goesOnWith_68 : decode cX4_goesOnWith 68 = .ok (.aload_n 0, 1) := by decide +kernel
theorem dX4_goesOnWith_69 : decode cX4_goesOnWith 69 = .ok (.iload_n 1, 1) := by decide +kernel
theorem dX4_goesOnWith_70 : decode cX4_goesOnWith 70 = .ok (.bipush 48, 2) := by decide +kernel
theorem dX4_goesOnWith_72 : decode cX4_goesOnWith 72 = .ok (.isub, 1) := by decide +kernel
theorem dX4_goesOnWith_73 : decode cX4_goesOnWith 73 = .ok (.invokevirtual 39, 3) := by decide +kernel
theorem dX4_goesOnWith_76 : decode cX4_goesOnWith 76 = .ok (.ireturn, 1) := by decide +kernel
theorem dX4_goesOnWith_77 : decode cX4_goesOnWith 77 = .ok (.aload_n 0, 1) := by decide +kernel
theorem dX4_goesOnWith_78 : decode cX4_goesOnWith 78 = .ok (.iload_n 1, 1) := by decide +kernel
theorem dX4_goesOnWith_79 : decode cX4_goesOnWith 79 = .ok (.bipush 48, 2) := by decide +kernel
theorem dX4_goesOnWith_81 : decode cX4_goesOnWith 81 = .ok (.isub, 1) := by decide +kernel
theorem dX4_goesOnWith_82 : decode cX4_goesOnWith 82 = .ok (.invokevirtual 42, 3) := by decide +kernel
theorem dX4_goesOnWith_85 : decode cX4_goesOnWith 85 = .ok (.ireturn, 1) := by decide +kernel
theorem dX4_beginsBell_0 : decode cX4_beginsBell 0 = .ok (.iload_n 1, 1) := by decide +kernel
theorem dX4_beginsBell_1 : decode cX4_beginsBell 1 = .ok (.invokestatic 45, 3) := by decide +kernel
theorem dX4_beginsBell_4 : decode cX4_beginsBell 4 = .ok (.istore_n 2, 1) := by decide +kernel
theorem dX4_beginsBell_5 : decode cX4_beginsBell 5 = .ok (.iload_n 2, 1) := by decide +kernel
theorem dX4_beginsBell_6 : decode cX4_beginsBell 6 = .ok (.bipush (-9), 2) := by decide +kernel
theorem dX4_beginsBell_8 : decode cX4_beginsBell 8 = .ok (.if_icmp .eq 25, 3) := by decide +kernel
theorem dX4_beginsBell_11 : decode cX4_beginsBell 11 = .ok (.aload_n 0, 1) := by decide +kernel
theorem dX4_beginsBell_12 : decode cX4_beginsBell 12 = .ok (.getfield 12, 3) := by decide +kernel
theorem dX4_beginsBell_15 : decode cX4_beginsBell 15 = .ok (.getfield 29, 3) := by decide +kernel
theorem dX4_beginsBell_18 : decode cX4_beginsBell 18 = .ok (.bipush 6, 2) := by decide +kernel
theorem dX4_beginsBell_20 : decode cX4_beginsBell 20 = .ok (.if_icmp .ge 13, 3) := by decide +kernel
theorem dX4_beginsBell_23 : decode cX4_beginsBell 23 = .ok (.aload_n 0, 1) := by decide +kernel
theorem dX4_beginsBell_24 : decode cX4_beginsBell 24 = .ok (.getfield 12, 3) := by decide +kernel
theorem dX4_beginsBell_27 : decode cX4_beginsBell 27 = .ok (.getfield 49, 3) := by decide +kernel
theorem dX4_beginsBell_30 : decode cX4_beginsBell 30 = .ok (.ifCond .le 5, 3) := by decide +kernel
theorem dX4_beginsBell_33 : decode cX4_beginsBell 33 = .ok (.iconst 0, 1) := by decide +kernel
theorem dX4_beginsBell_34 : decode cX4_beginsBell 34 = .ok (.ireturn, 1) := by decide +kernel
theorem dX4_beginsBell_35 : decode cX4_beginsBell 35 = .ok (.aload_n 0, 1) := by decide +kernel
theorem dX4_beginsBell_36 : decode cX4_beginsBell 36 = .ok (.getfield 12, 3) := by decide +kernel
theorem dX4_beginsBell_39 : decode cX4_beginsBell 39 = .ok (.getfield 52, 3) := by decide +kernel
theorem dX4_beginsBell_42 : decode cX4_beginsBell 42 = .ok (.aload_n 0, 1) := by decide +kernel
theorem dX4_beginsBell_43 : decode cX4_beginsBell 43 = .ok (.getfield 12, 3) := by decide +kernel
theorem dX4_beginsBell_46 : decode cX4_beginsBell 46 = .ok (.getfield 29, 3) := by decide +kernel
theorem dX4_beginsBell_49 : decode cX4_beginsBell 49 = .ok (.iload_n 2, 1) := by decide +kernel
theorem dX4_beginsBell_50 : decode cX4_beginsBell 50 = .ok (.iastore, 1) := by decide +kernel
theorem dX4_beginsBell_51 : decode cX4_beginsBell 51 = .ok (.aload_n 0, 1) := by decide +kernel
theorem dX4_beginsBell_52 : decode cX4_beginsBell 52 = .ok (.iconst 2, 1) := by decide +kernel
theorem dX4_beginsBell_53 : decode cX4_beginsBell 53 = .ok (.putfield 21, 3) := by decide +kernel
theorem dX4_beginsBell_56 : decode cX4_beginsBell 56 = .ok (.iconst 1, 1) := by decide +kernel
theorem dX4_beginsBell_57 : decode cX4_beginsBell 57 = .ok (.ireturn, 1) := by decide +kernel
theorem dX4_kindOf_0 : decode cX4_kindOf 0 = .ok (.iload_n 0, 1) := by decide +kernel
theorem dX4_kindOf_1 : decode cX4_kindOf 1 = .ok (.lookupswitch 41 #[(98, 35), (100, 39), (103, 37)], 35) := by decide +kernel
theorem dX4_kindOf_36 : decode cX4_kindOf 36 = .ok (.iconst 0, 1) := by decide +kernel
theorem dX4_kindOf_37 : decode cX4_kindOf 37 = .ok (.ireturn, 1) := by decide +kernel
theorem dX4_kindOf_38 : decode cX4_kindOf 38 = .ok (.iconst 1, 1) := by decide +kernel
theorem dX4_kindOf_39 : decode cX4_kindOf 39 = .ok (.ireturn, 1) := by decide +kernel
theorem dX4_kindOf_40 : decode cX4_kindOf 40 = .ok (.iconst 2, 1) := by decide +kernel
theorem dX4_kindOf_41 : decode cX4_kindOf 41 = .ok (.ireturn, 1) := by decide +kernel
theorem dX4_kindOf_42 : decode cX4_kindOf 42 = .ok (.bipush (-9), 2) := by decide +kernel
theorem dX4_kindOf_44 : decode cX4_kindOf 44 = .ok (.ireturn, 1) := by decide +kernel
theorem dX4_takesNeeds_0 : decode cX4_takesNeeds 0 = .ok (.iload_n 1, 1) := by decide +kernel
theorem dX4_takesNeeds_1 : decode cX4_takesNeeds 1 = .ok (.iconst 1, 1) := by decide +kernel
theorem dX4_takesNeeds_2 : decode cX4_takesNeeds 2 = .ok (.if_icmp .lt 8, 3) := by decide +kernel
theorem dX4_takesNeeds_5 : decode cX4_takesNeeds 5 = .ok (.iload_n 1, 1) := by decide +kernel
theorem dX4_takesNeeds_6 : decode cX4_takesNeeds 6 = .ok (.iconst 3, 1) := by decide +kernel
theorem dX4_takesNeeds_7 : decode cX4_takesNeeds 7 = .ok (.if_icmp .le 5, 3) := by decide +kernel
theorem dX4_takesNeeds_10 : decode cX4_takesNeeds 10 = .ok (.iconst 0, 1) := by decide +kernel
theorem dX4_takesNeeds_11 : decode cX4_takesNeeds 11 = .ok (.ireturn, 1) := by decide +kernel
theorem dX4_takesNeeds_12 : decode cX4_takesNeeds 12 = .ok (.aload_n 0, 1) := by decide +kernel
theorem dX4_takesNeeds_13 : decode cX4_takesNeeds 13 = .ok (.getfield 12, 3) := by decide +kernel
theorem dX4_takesNeeds_16 : decode cX4_takesNeeds 16 = .ok (.getfield 56, 3) := by decide +kernel
theorem dX4_takesNeeds_19 : decode cX4_takesNeeds 19 = .ok (.aload_n 0, 1) := by decide +kernel
theorem dX4_takesNeeds_20 : decode cX4_takesNeeds 20 = .ok (.getfield 12, 3) := by decide +kernel
theorem dX4_takesNeeds_23 : decode cX4_takesNeeds 23 = .ok (.getfield 29, 3) := by decide +kernel
theorem dX4_takesNeeds_26 : decode cX4_takesNeeds 26 = .ok (.iload_n 1, 1) := by decide +kernel
theorem dX4_takesNeeds_27 : decode cX4_takesNeeds 27 = .ok (.iastore, 1) := by decide +kernel
theorem dX4_takesNeeds_28 : decode cX4_takesNeeds 28 = .ok (.aload_n 0, 1) := by decide +kernel
theorem dX4_takesNeeds_29 : decode cX4_takesNeeds 29 = .ok (.getfield 12, 3) := by decide +kernel
theorem dX4_takesNeeds_32 : decode cX4_takesNeeds 32 = .ok (.dup, 1) := by decide +kernel
theorem dX4_takesNeeds_33 : decode cX4_takesNeeds 33 = .ok (.getfield 29, 3) := by decide +kernel
theorem dX4_takesNeeds_36 : decode cX4_takesNeeds 36 = .ok (.iconst 1, 1) := by decide +kernel
theorem dX4_takesNeeds_37 : decode cX4_takesNeeds 37 = .ok (.iadd, 1) := by decide +kernel
theorem dX4_takesNeeds_38 : decode cX4_takesNeeds 38 = .ok (.putfield 29, 3) := by decide +kernel
theorem dX4_takesNeeds_41 : decode cX4_takesNeeds 41 = .ok (.aload_n 0, 1) := by decide +kernel
theorem dX4_takesNeeds_42 : decode cX4_takesNeeds 42 = .ok (.iconst 1, 1) := by decide +kernel
theorem dX4_takesNeeds_43 : decode cX4_takesNeeds 43 = .ok (.putfield 21, 3) := by decide +kernel
theorem dX4_takesNeeds_46 : decode cX4_takesNeeds 46 = .ok (.iconst 1, 1) := by decide +kernel
theorem dX4_takesNeeds_47 : decode cX4_takesNeeds 47 = .ok (.ireturn, 1) := by decide +kernel
theorem dX4_beginsRope_0 : decode cX4_beginsRope 0 = .ok (.aload_n 0, 1) := by decide +kernel
theorem dX4_beginsRope_1 : decode cX4_beginsRope 1 = .ok (.getfield 12, 3) := by decide +kernel
theorem dX4_beginsRope_4 : decode cX4_beginsRope 4 = .ok (.getfield 29, 3) := by decide +kernel
theorem dX4_beginsRope_7 : decode cX4_beginsRope 7 = .ok (.iconst 2, 1) := by decide +kernel
theorem dX4_beginsRope_8 : decode cX4_beginsRope 8 = .ok (.if_icmp .lt 15, 3) := by decide +kernel
theorem dX4_beginsRope_11 : decode cX4_beginsRope 11 = .ok (.aload_n 0, 1) := by decide +kernel
theorem dX4_beginsRope_12 : decode cX4_beginsRope 12 = .ok (.getfield 12, 3) := by decide +kernel
theorem dX4_beginsRope_15 : decode cX4_beginsRope 15 = .ok (.getfield 49, 3) := by decide +kernel
theorem dX4_beginsRope_18 : decode cX4_beginsRope 18 = .ok (.bipush 8, 2) := by decide +kernel
theorem dX4_beginsRope_20 : decode cX4_beginsRope 20 = .ok (.if_icmp .lt 5, 3) := by decide +kernel
theorem dX4_beginsRope_23 : decode cX4_beginsRope 23 = .ok (.iconst 0, 1) := by decide +kernel
theorem dX4_beginsRope_24 : decode cX4_beginsRope 24 = .ok (.ireturn, 1) := by decide +kernel
theorem dX4_beginsRope_25 : decode cX4_beginsRope 25 = .ok (.aload_n 0, 1) := by decide +kernel
theorem dX4_beginsRope_26 : decode cX4_beginsRope 26 = .ok (.iconst 3, 1) := by decide +kernel
theorem dX4_beginsRope_27 : decode cX4_beginsRope 27 = .ok (.putfield 21, 3) := by decide +kernel
theorem dX4_beginsRope_30 : decode cX4_beginsRope 30 = .ok (.iconst 1, 1) := by decide +kernel
theorem dX4_beginsRope_31 : decode cX4_beginsRope 31 = .ok (.ireturn, 1) := by decide +kernel
theorem dX4_takesRope_0 : decode cX4_takesRope 0 = .ok (.aload_n 0, 1) := by decide +kernel
theorem dX4_takesRope_1 : decode cX4_takesRope 1 = .ok (.getfield 21, 3) := by decide +kernel
theorem dX4_takesRope_4 : decode cX4_takesRope 4 = .ok (.iconst 5, 1) := by decide +kernel
theorem dX4_takesRope_5 : decode cX4_takesRope 5 = .ok (.if_icmp .ne 9, 3) := by decide +kernel
theorem dX4_takesRope_8 : decode cX4_takesRope 8 = .ok (.aload_n 0, 1) := by decide +kernel
theorem dX4_takesRope_9 : decode cX4_takesRope 9 = .ok (.iload_n 1, 1) := by decide +kernel
theorem dX4_takesRope_10 : decode cX4_takesRope 10 = .ok (.invokevirtual 59, 3) := by decide +kernel
theorem dX4_takesRope_13 : decode cX4_takesRope 13 = .ok (.ireturn, 1) := by decide +kernel
theorem dX4_takesRope_14 : decode cX4_takesRope 14 = .ok (.aload_n 0, 1) := by decide +kernel
theorem dX4_takesRope_15 : decode cX4_takesRope 15 = .ok (.getfield 12, 3) := by decide +kernel
theorem dX4_takesRope_18 : decode cX4_takesRope 18 = .ok (.iload_n 1, 1) := by decide +kernel
theorem dX4_takesRope_19 : decode cX4_takesRope 19 = .ok (.invokevirtual 62, 3) := by decide +kernel
theorem dX4_takesRope_22 : decode cX4_takesRope 22 = .ok (.ifCond .ne 5, 3) := by decide +kernel
theorem dX4_takesRope_25 : decode cX4_takesRope 25 = .ok (.iconst 0, 1) := by decide +kernel
theorem dX4_takesRope_26 : decode cX4_takesRope 26 = .ok (.ireturn, 1) := by decide +kernel
theorem dX4_takesRope_27 : decode cX4_takesRope 27 = .ok (.aload_n 0, 1) := by decide +kernel
theorem dX4_takesRope_28 : decode cX4_takesRope 28 = .ok (.getfield 21, 3) := by decide +kernel
theorem dX4_takesRope_31 : decode cX4_takesRope 31 = .ok (.iconst 3, 1) := by decide +kernel
theorem dX4_takesRope_32 : decode cX4_takesRope 32 = .ok (.if_icmp .ne 27, 3) := by decide +kernel
theorem dX4_takesRope_35 : decode cX4_takesRope 35 = .ok (.aload_n 0, 1) := by decide +kernel
theorem dX4_takesRope_36 : decode cX4_takesRope 36 = .ok (.getfield 12, 3) := by decide +kernel
theorem dX4_takesRope_39 : decode cX4_takesRope 39 = .ok (.getfield 65, 3) := by decide +kernel
theorem dX4_takesRope_42 : decode cX4_takesRope 42 = .ok (.aload_n 0, 1) := by decide +kernel
theorem dX4_takesRope_43 : decode cX4_takesRope 43 = .ok (.getfield 12, 3) := by decide +kernel
theorem dX4_takesRope_46 : decode cX4_takesRope 46 = .ok (.getfield 49, 3) := by decide +kernel
theorem dX4_takesRope_49 : decode cX4_takesRope 49 = .ok (.iload_n 1, 1) := by decide +kernel
theorem dX4_takesRope_50 : decode cX4_takesRope 50 = .ok (.iastore, 1) := by decide +kernel
theorem dX4_takesRope_51 : decode cX4_takesRope 51 = .ok (.aload_n 0, 1) := by decide +kernel
theorem dX4_takesRope_52 : decode cX4_takesRope 52 = .ok (.iconst 4, 1) := by decide +kernel
theorem dX4_takesRope_53 : decode cX4_takesRope 53 = .ok (.putfield 21, 3) := by decide +kernel
theorem dX4_takesRope_56 : decode cX4_takesRope 56 = .ok (.goto 24, 3) := by decide +kernel
theorem dX4_takesRope_59 : decode cX4_takesRope 59 = .ok (.aload_n 0, 1) := by decide +kernel
theorem dX4_takesRope_60 : decode cX4_takesRope 60 = .ok (.getfield 12, 3) := by decide +kernel
theorem dX4_takesRope_63 : decode cX4_takesRope 63 = .ok (.getfield 68, 3) := by decide +kernel
theorem dX4_takesRope_66 : decode cX4_takesRope 66 = .ok (.aload_n 0, 1) := by decide +kernel
theorem dX4_takesRope_67 : decode cX4_takesRope 67 = .ok (.getfield 12, 3) := by decide +kernel
theorem dX4_takesRope_70 : decode cX4_takesRope 70 = .ok (.getfield 49, 3) := by decide +kernel
theorem dX4_takesRope_73 : decode cX4_takesRope 73 = .ok (.iload_n 1, 1) := by decide +kernel
theorem dX4_takesRope_74 : decode cX4_takesRope 74 = .ok (.iastore, 1) := by decide +kernel
theorem dX4_takesRope_75 : decode cX4_takesRope 75 = .ok (.aload_n 0, 1) := by decide +kernel
theorem dX4_takesRope_76 : decode cX4_takesRope 76 = .ok (.iconst 5, 1) := by decide +kernel
theorem dX4_takesRope_77 : decode cX4_takesRope 77 = .ok (.putfield 21, 3) := by decide +kernel
theorem dX4_takesRope_80 : decode cX4_takesRope 80 = .ok (.iconst 1, 1) := by decide +kernel
theorem dX4_takesRope_81 : decode cX4_takesRope 81 = .ok (.ireturn, 1) := by decide +kernel
theorem dX4_takesLong_0 : decode cX4_takesLong 0 = .ok (.iload_n 1, 1) := by decide +kernel
theorem dX4_takesLong_1 : decode cX4_takesLong 1 = .ok (.iconst 1, 1) := by decide +kernel
theorem dX4_takesLong_2 : decode cX4_takesLong 2 = .ok (.if_icmp .lt 9, 3) := by decide +kernel
theorem dX4_takesLong_5 : decode cX4_takesLong 5 = .ok (.iload_n 1, 1) := by decide +kernel
theorem dX4_takesLong_6 : decode cX4_takesLong 6 = .ok (.bipush 9, 2) := by decide +kernel
theorem dX4_takesLong_8 : decode cX4_takesLong 8 = .ok (.if_icmp .le 5, 3) := by decide +kernel
theorem dX4_takesLong_11 : decode cX4_takesLong 11 = .ok (.iconst 0, 1) := by decide +kernel
theorem dX4_takesLong_12 : decode cX4_takesLong 12 = .ok (.ireturn, 1) := by decide +kernel
theorem dX4_takesLong_13 : decode cX4_takesLong 13 = .ok (.aload_n 0, 1) := by decide +kernel
theorem dX4_takesLong_14 : decode cX4_takesLong 14 = .ok (.getfield 12, 3) := by decide +kernel
theorem dX4_takesLong_17 : decode cX4_takesLong 17 = .ok (.getfield 71, 3) := by decide +kernel
theorem dX4_takesLong_20 : decode cX4_takesLong 20 = .ok (.aload_n 0, 1) := by decide +kernel
theorem dX4_takesLong_21 : decode cX4_takesLong 21 = .ok (.getfield 12, 3) := by decide +kernel
theorem dX4_takesLong_24 : decode cX4_takesLong 24 = .ok (.getfield 49, 3) := by decide +kernel
theorem dX4_takesLong_27 : decode cX4_takesLong 27 = .ok (.iload_n 1, 1) := by decide +kernel
theorem dX4_takesLong_28 : decode cX4_takesLong 28 = .ok (.iastore, 1) := by decide +kernel
theorem dX4_takesLong_29 : decode cX4_takesLong 29 = .ok (.aload_n 0, 1) := by decide +kernel
theorem dX4_takesLong_30 : decode cX4_takesLong 30 = .ok (.getfield 12, 3) := by decide +kernel
theorem dX4_takesLong_33 : decode cX4_takesLong 33 = .ok (.dup, 1) := by decide +kernel
theorem dX4_takesLong_34 : decode cX4_takesLong 34 = .ok (.getfield 49, 3) := by decide +kernel
theorem dX4_takesLong_37 : decode cX4_takesLong 37 = .ok (.iconst 1, 1) := by decide +kernel
theorem dX4_takesLong_38 : decode cX4_takesLong 38 = .ok (.iadd, 1) := by decide +kernel
theorem dX4_takesLong_39 : decode cX4_takesLong 39 = .ok (.putfield 49, 3) := by decide +kernel
theorem dX4_takesLong_42 : decode cX4_takesLong 42 = .ok (.aload_n 0, 1) := by decide +kernel
theorem dX4_takesLong_43 : decode cX4_takesLong 43 = .ok (.iconst 1, 1) := by decide +kernel
theorem dX4_takesLong_44 : decode cX4_takesLong 44 = .ok (.putfield 21, 3) := by decide +kernel
theorem dX4_takesLong_47 : decode cX4_takesLong 47 = .ok (.iconst 1, 1) := by decide +kernel
theorem dX4_takesLong_48 : decode cX4_takesLong 48 = .ok (.ireturn, 1) := by decide +kernel
theorem dX5_init_0 : decode cX5_init 0 = .ok (.aload_n 0, 1) := by decide +kernel
theorem dX5_init_1 : decode cX5_init 1 = .ok (.invokespecial 3, 3) := by decide +kernel
theorem dX5_init_4 : decode cX5_init 4 = .ok (.aload_n 0, 1) := by decide +kernel
theorem dX5_init_5 : decode cX5_init 5 = .ok (.bipush 6, 2) := by decide +kernel
theorem dX5_init_7 : decode cX5_init 7 = .ok (.newarray .int, 2) := by decide +kernel
theorem dX5_init_9 : decode cX5_init 9 = .ok (.putfield 9, 3) := by decide +kernel
theorem dX5_init_12 : decode cX5_init 12 = .ok (.aload_n 0, 1) := by decide +kernel
theorem dX5_init_13 : decode cX5_init 13 = .ok (.bipush 6, 2) := by decide +kernel
theorem dX5_init_15 : decode cX5_init 15 = .ok (.newarray .int, 2) := by decide +kernel
theorem dX5_init_17 : decode cX5_init 17 = .ok (.putfield 15, 3) := by decide +kernel
theorem dX5_init_20 : decode cX5_init 20 = .ok (.aload_n 0, 1) := by decide +kernel
theorem dX5_init_21 : decode cX5_init 21 = .ok (.bipush 9, 2) := by decide +kernel
theorem dX5_init_23 : decode cX5_init 23 = .ok (.newarray .int, 2) := by decide +kernel
theorem dX5_init_25 : decode cX5_init 25 = .ok (.putfield 18, 3) := by decide +kernel
theorem dX5_init_28 : decode cX5_init 28 = .ok (.aload_n 0, 1) := by decide +kernel
theorem dX5_init_29 : decode cX5_init 29 = .ok (.bipush 9, 2) := by decide +kernel
theorem dX5_init_31 : decode cX5_init 31 = .ok (.newarray .int, 2) := by decide +kernel
theorem dX5_init_33 : decode cX5_init 33 = .ok (.putfield 21, 3) := by decide +kernel
theorem dX5_init_36 : decode cX5_init 36 = .ok (.aload_n 0, 1) := by decide +kernel
theorem dX5_init_37 : decode cX5_init 37 = .ok (.bipush 9, 2) := by decide +kernel
theorem dX5_init_39 : decode cX5_init 39 = .ok (.newarray .int, 2) := by decide +kernel
theorem dX5_init_41 : decode cX5_init 41 = .ok (.putfield 24, 3) := by decide +kernel
theorem dX5_init_44 : decode cX5_init 44 = .ok (.return_, 1) := by decide +kernel
theorem dX5_begin_0 : decode cX5_begin 0 = .ok (.aload_n 0, 1) := by decide +kernel
theorem dX5_begin_1 : decode cX5_begin 1 = .ok (.iconst 0, 1) := by decide +kernel
theorem dX5_begin_2 : decode cX5_begin 2 = .ok (.putfield 27, 3) := by decide +kernel
theorem dX5_begin_5 : decode cX5_begin 5 = .ok (.aload_n 0, 1) := by decide +kernel
theorem dX5_begin_6 : decode cX5_begin 6 = .ok (.iconst 0, 1) := by decide +kernel
theorem dX5_begin_7 : decode cX5_begin 7 = .ok (.putfield 31, 3) := by decide +kernel
theorem dX5_begin_10 : decode cX5_begin 10 = .ok (.aload_n 0, 1) := by decide +kernel
theorem dX5_begin_11 : decode cX5_begin 11 = .ok (.iconst 2, 1) := by decide +kernel
theorem dX5_begin_12 : decode cX5_begin 12 = .ok (.putfield 34, 3) := by decide +kernel
theorem dX5_begin_15 : decode cX5_begin 15 = .ok (.aload_n 0, 1) := by decide +kernel
theorem dX5_begin_16 : decode cX5_begin 16 = .ok (.iconst 0, 1) := by decide +kernel
theorem dX5_begin_17 : decode cX5_begin 17 = .ok (.putfield 37, 3) := by decide +kernel
theorem dX5_begin_20 : decode cX5_begin 20 = .ok (.return_, 1) := by decide +kernel
theorem dX5_become_0 : decode cX5_become 0 = .ok (.aload_n 1, 1) := by decide +kernel
theorem dX5_become_1 : decode cX5_become 1 = .ok (.getfield 9, 3) := by decide +kernel
theorem dX5_become_4 : decode cX5_become 4 = .ok (.iconst 0, 1) := by decide +kernel
theorem dX5_become_5 : decode cX5_become 5 = .ok (.aload_n 0, 1) := by decide +kernel
theorem dX5_become_6 : decode cX5_become 6 = .ok (.getfield 9, 3) := by decide +kernel
theorem dX5_become_9 : decode cX5_become 9 = .ok (.iconst 0, 1) := by decide +kernel
theorem dX5_become_10 : decode cX5_become 10 = .ok (.bipush 6, 2) := by decide +kernel
theorem dX5_become_12 : decode cX5_become 12 = .ok (.invokestatic 40, 3) := by decide +kernel
theorem dX5_become_15 : decode cX5_become 15 = .ok (.aload_n 1, 1) := by decide +kernel
theorem dX5_become_16 : decode cX5_become 16 = .ok (.getfield 15, 3) := by decide +kernel
theorem dX5_become_19 : decode cX5_become 19 = .ok (.iconst 0, 1) := by decide +kernel
theorem dX5_become_20 : decode cX5_become 20 = .ok (.aload_n 0, 1) := by decide +kernel
theorem dX5_become_21 : decode cX5_become 21 = .ok (.getfield 15, 3) := by decide +kernel
theorem dX5_become_24 : decode cX5_become 24 = .ok (.iconst 0, 1) := by decide +kernel
theorem dX5_become_25 : decode cX5_become 25 = .ok (.bipush 6, 2) := by decide +kernel
theorem dX5_become_27 : decode cX5_become 27 = .ok (.invokestatic 40, 3) := by decide +kernel
theorem dX5_become_30 : decode cX5_become 30 = .ok (.aload_n 1, 1) := by decide +kernel
theorem dX5_become_31 : decode cX5_become 31 = .ok (.getfield 18, 3) := by decide +kernel
theorem dX5_become_34 : decode cX5_become 34 = .ok (.iconst 0, 1) := by decide +kernel
theorem dX5_become_35 : decode cX5_become 35 = .ok (.aload_n 0, 1) := by decide +kernel
theorem dX5_become_36 : decode cX5_become 36 = .ok (.getfield 18, 3) := by decide +kernel
theorem dX5_become_39 : decode cX5_become 39 = .ok (.iconst 0, 1) := by decide +kernel
theorem dX5_become_40 : decode cX5_become 40 = .ok (.bipush 8, 2) := by decide +kernel
theorem dX5_become_42 : decode cX5_become 42 = .ok (.invokestatic 40, 3) := by decide +kernel
theorem dX5_become_45 : decode cX5_become 45 = .ok (.aload_n 1, 1) := by decide +kernel
theorem dX5_become_46 : decode cX5_become 46 = .ok (.getfield 21, 3) := by decide +kernel
theorem dX5_become_49 : decode cX5_become 49 = .ok (.iconst 0, 1) := by decide +kernel
theorem dX5_become_50 : decode cX5_become 50 = .ok (.aload_n 0, 1) := by decide +kernel
theorem dX5_become_51 : decode cX5_become 51 = .ok (.getfield 21, 3) := by decide +kernel
theorem dX5_become_54 : decode cX5_become 54 = .ok (.iconst 0, 1) := by decide +kernel
theorem dX5_become_55 : decode cX5_become 55 = .ok (.bipush 8, 2) := by decide +kernel
theorem dX5_become_57 : decode cX5_become 57 = .ok (.invokestatic 40, 3) := by decide +kernel
theorem dX5_become_60 : decode cX5_become 60 = .ok (.aload_n 1, 1) := by decide +kernel
theorem dX5_become_61 : decode cX5_become 61 = .ok (.getfield 24, 3) := by decide +kernel
theorem dX5_become_64 : decode cX5_become 64 = .ok (.iconst 0, 1) := by decide +kernel
theorem dX5_become_65 : decode cX5_become 65 = .ok (.aload_n 0, 1) := by decide +kernel
theorem dX5_become_66 : decode cX5_become 66 = .ok (.getfield 24, 3) := by decide +kernel
theorem dX5_become_69 : decode cX5_become 69 = .ok (.iconst 0, 1) := by decide +kernel
theorem dX5_become_70 : decode cX5_become 70 = .ok (.bipush 8, 2) := by decide +kernel
theorem dX5_become_72 : decode cX5_become 72 = .ok (.invokestatic 40, 3) := by decide +kernel
theorem dX5_become_75 : decode cX5_become 75 = .ok (.aload_n 0, 1) := by decide +kernel
theorem dX5_become_76 : decode cX5_become 76 = .ok (.aload_n 1, 1) := by decide +kernel
theorem dX5_become_77 : decode cX5_become 77 = .ok (.getfield 27, 3) := by decide +kernel
theorem dX5_become_80 : decode cX5_become 80 = .ok (.putfield 27, 3) := by decide +kernel
theorem dX5_become_83 : decode cX5_become 83 = .ok (.aload_n 0, 1) := by decide +kernel
theorem dX5_become_84 : decode cX5_become 84 = .ok (.aload_n 1, 1) := by decide +kernel
theorem dX5_become_85 : decode cX5_become 85 = .ok (.getfield 31, 3) := by decide +kernel
theorem dX5_become_88 : decode cX5_become 88 = .ok (.putfield 31, 3) := by decide +kernel
theorem dX5_become_91 : decode cX5_become 91 = .ok (.aload_n 0, 1) := by decide +kernel
theorem dX5_become_92 : decode cX5_become 92 = .ok (.aload_n 1, 1) := by decide +kernel
theorem dX5_become_93 : decode cX5_become 93 = .ok (.getfield 34, 3) := by decide +kernel
theorem dX5_become_96 : decode cX5_become 96 = .ok (.putfield 34, 3) := by decide +kernel
theorem dX5_become_99 : decode cX5_become 99 = .ok (.aload_n 0, 1) := by decide +kernel
theorem dX5_become_100 : decode cX5_become 100 = .ok (.aload_n 1, 1) := by decide +kernel
theorem dX5_become_101 : decode cX5_become 101 = .ok (.getfield 37, 3) := by decide +kernel
theorem dX5_become_104 : decode cX5_become 104 = .ok (.putfield 37, 3) := by decide +kernel
theorem dX5_become_107 : decode cX5_become 107 = .ok (.return_, 1) := by decide +kernel
theorem dX5_layRope_0 : decode cX5_layRope 0 = .ok (.aload_n 0, 1) := by decide +kernel
theorem dX5_layRope_1 : decode cX5_layRope 1 = .ok (.getfield 18, 3) := by decide +kernel
theorem dX5_layRope_4 : decode cX5_layRope 4 = .ok (.iload_n 1, 1) := by decide +kernel
theorem dX5_layRope_5 : decode cX5_layRope 5 = .ok (.iload_n 2, 1) := by decide +kernel
theorem dX5_layRope_6 : decode cX5_layRope 6 = .ok (.iastore, 1) := by decide +kernel
theorem dX5_layRope_7 : decode cX5_layRope 7 = .ok (.aload_n 0, 1) := by decide +kernel
theorem dX5_layRope_8 : decode cX5_layRope 8 = .ok (.getfield 21, 3) := by decide +kernel
theorem dX5_layRope_11 : decode cX5_layRope 11 = .ok (.iload_n 1, 1) := by decide +kernel
theorem dX5_layRope_12 : decode cX5_layRope 12 = .ok (.iload_n 3, 1) := by decide +kernel
theorem dX5_layRope_13 : decode cX5_layRope 13 = .ok (.iastore, 1) := by decide +kernel
theorem dX5_layRope_14 : decode cX5_layRope 14 = .ok (.aload_n 0, 1) := by decide +kernel
theorem dX5_layRope_15 : decode cX5_layRope 15 = .ok (.getfield 24, 3) := by decide +kernel
theorem dX5_layRope_18 : decode cX5_layRope 18 = .ok (.iload_n 1, 1) := by decide +kernel
theorem dX5_layRope_19 : decode cX5_layRope 19 = .ok (.iload 4, 2) := by decide +kernel
theorem dX5_layRope_21 : decode cX5_layRope 21 = .ok (.iastore, 1) := by decide +kernel
theorem dX5_layRope_22 : decode cX5_layRope 22 = .ok (.return_, 1) := by decide +kernel
theorem dX5_hasBell_0 : decode cX5_hasBell 0 = .ok (.iload_n 1, 1) := by decide +kernel
theorem dX5_hasBell_1 : decode cX5_hasBell 1 = .ok (.ifCond .lt 15, 3) := by decide +kernel
theorem dX5_hasBell_4 : decode cX5_hasBell 4 = .ok (.iload_n 1, 1) := by decide +kernel
theorem dX5_hasBell_5 : decode cX5_hasBell 5 = .ok (.aload_n 0, 1) := by decide +kernel
theorem dX5_hasBell_6 : decode cX5_hasBell 6 = .ok (.getfield 27, 3) := by decide +kernel
theorem dX5_hasBell_9 : decode cX5_hasBell 9 = .ok (.if_icmp .ge 7, 3) := by decide +kernel
theorem dX5_hasBell_12 : decode cX5_hasBell 12 = .ok (.iconst 1, 1) := by decide +kernel
theorem dX5_hasBell_13 : decode cX5_hasBell 13 = .ok (.goto 4, 3) := by decide +kernel
theorem dX5_hasBell_16 : decode cX5_hasBell 16 = .ok (.iconst 0, 1) := by decide +kernel
theorem dX5_hasBell_17 : decode cX5_hasBell 17 = .ok (.ireturn, 1) := by decide +kernel
theorem dX5_isTied_0 : decode cX5_isTied 0 = .ok (.aload_n 0, 1) := by decide +kernel
theorem dX5_isTied_1 : decode cX5_isTied 1 = .ok (.getfield 37, 3) := by decide +kernel
theorem dX5_isTied_4 : decode cX5_isTied 4 = .ok (.iload_n 1, 1) := by decide +kernel
theorem dX5_isTied_5 : decode cX5_isTied 5 = .ok (.ishr, 1) := by decide +kernel
theorem dX5_isTied_6 : decode cX5_isTied 6 = .ok (.iconst 1, 1) := by decide +kernel
theorem dX5_isTied_7 : decode cX5_isTied 7 = .ok (.iand, 1) := by decide +kernel
theorem dX5_isTied_8 : decode cX5_isTied 8 = .ok (.ifCond .eq 7, 3) := by decide +kernel
theorem dX5_isTied_11 : decode cX5_isTied 11 = .ok (.iconst 1, 1) := by decide +kernel
theorem dX5_isTied_12 : decode cX5_isTied 12 = .ok (.goto 4, 3) := by decide +kernel
theorem dX5_isTied_15 : decode cX5_isTied 15 = .ok (.iconst 0, 1) := by decide +kernel
theorem dX5_isTied_16 : decode cX5_isTied 16 = .ok (.ireturn, 1) := by decide +kernel
theorem dX5_allBells_0 : decode cX5_allBells 0 = .ok (.iconst 1, 1) := by decide +kernel
theorem dX5_allBells_1 : decode cX5_allBells 1 = .ok (.aload_n 0, 1) := by decide +kernel
theorem dX5_allBells_2 : decode cX5_allBells 2 = .ok (.getfield 27, 3) := by decide +kernel
theorem dX5_allBells_5 : decode cX5_allBells 5 = .ok (.ishl, 1) := by decide +kernel
theorem dX5_allBells_6 : decode cX5_allBells 6 = .ok (.iconst 1, 1) := by decide +kernel
theorem dX5_allBells_7 : decode cX5_allBells 7 = .ok (.isub, 1) := by decide +kernel
theorem dX5_allBells_8 : decode cX5_allBells 8 = .ok (.ireturn, 1) := by decide +kernel
theorem dX5_allRopes_0 : decode cX5_allRopes 0 = .ok (.iconst 1, 1) := by decide +kernel
theorem dX5_allRopes_1 : decode cX5_allRopes 1 = .ok (.aload_n 0, 1) := by decide +kernel
theorem dX5_allRopes_2 : decode cX5_allRopes 2 = .ok (.getfield 31, 3) := by decide +kernel
theorem dX5_allRopes_5 : decode cX5_allRopes 5 = .ok (.ishl, 1) := by decide +kernel
theorem dX5_allRopes_6 : decode cX5_allRopes 6 = .ok (.iconst 1, 1) := by decide +kernel
theorem dX5_allRopes_7 : decode cX5_allRopes 7 = .ok (.isub, 1) := by decide +kernel
theorem dX5_allRopes_8 : decode cX5_allRopes 8 = .ok (.ireturn, 1) := by decide +kernel
theorem dX5_swingsFor_0 : decode cX5_swingsFor 0 = .ok (.aload_n 0, 1) := by decide +kernel
theorem dX5_swingsFor_1 : decode cX5_swingsFor 1 = .ok (.getfield 9, 3) := by decide +kernel
theorem dX5_swingsFor_4 : decode cX5_swingsFor 4 = .ok (.iload_n 1, 1) := by decide +kernel
theorem dX5_swingsFor_5 : decode cX5_swingsFor 5 = .ok (.iaload, 1) := by decide +kernel
theorem dX5_swingsFor_6 : decode cX5_swingsFor 6 = .ok (.ifCond .ne 12, 3) := by decide +kernel
theorem dX5_swingsFor_9 : decode cX5_swingsFor 9 = .ok (.aload_n 0, 1) := by decide +kernel
theorem dX5_swingsFor_10 : decode cX5_swingsFor 10 = .ok (.getfield 15, 3) := by decide +kernel
theorem dX5_swingsFor_13 : decode cX5_swingsFor 13 = .ok (.iload_n 1, 1) := by decide +kernel
theorem dX5_swingsFor_14 : decode cX5_swingsFor 14 = .ok (.iaload, 1) := by decide +kernel
theorem dX5_swingsFor_15 : decode cX5_swingsFor 15 = .ok (.goto 11, 3) := by decide +kernel
theorem dX5_swingsFor_18 : decode cX5_swingsFor 18 = .ok (.aload_n 0, 1) := by decide +kernel
theorem dX5_swingsFor_19 : decode cX5_swingsFor 19 = .ok (.getfield 15, 3) := by decide +kernel
theorem dX5_swingsFor_22 : decode cX5_swingsFor 22 = .ok (.iload_n 1, 1) := by decide +kernel
theorem dX5_swingsFor_23 : decode cX5_swingsFor 23 = .ok (.iaload, 1) := by decide +kernel
theorem dX5_swingsFor_24 : decode cX5_swingsFor 24 = .ok (.iconst 1, 1) := by decide +kernel
theorem dX5_swingsFor_25 : decode cX5_swingsFor 25 = .ok (.iadd, 1) := by decide +kernel
theorem dX5_swingsFor_26 : decode cX5_swingsFor 26 = .ok (.ireturn, 1) := by decide +kernel
theorem dX6_init_0 : decode cX6_init 0 = .ok (.aload_n 0, 1) := by decide +kernel
theorem dX6_init_1 : decode cX6_init 1 = .ok (.invokespecial 3, 3) := by decide +kernel
theorem dX6_init_4 : decode cX6_init 4 = .ok (.aload_n 0, 1) := by decide +kernel
theorem dX6_init_5 : decode cX6_init 5 = .ok (.new 9, 3) := by decide +kernel
theorem dX6_init_8 : decode cX6_init 8 = .ok (.dup, 1) := by decide +kernel
theorem dX6_init_9 : decode cX6_init 9 = .ok (.invokespecial 11, 3) := by decide +kernel
theorem dX6_init_12 : decode cX6_init 12 = .ok (.putfield 12, 3) := by decide +kernel
theorem dX6_init_15 : decode cX6_init 15 = .ok (.aload_n 0, 1) := by decide +kernel
theorem dX6_init_16 : decode cX6_init 16 = .ok (.new 18, 3) := by decide +kernel
theorem dX6_init_19 : decode cX6_init 19 = .ok (.dup, 1) := by decide +kernel
theorem dX6_init_20 : decode cX6_init 20 = .ok (.invokespecial 20, 3) := by decide +kernel
theorem dX6_init_23 : decode cX6_init 23 = .ok (.putfield 21, 3) := by decide +kernel
theorem dX6_init_26 : decode cX6_init 26 = .ok (.aload_n 0, 1) := by decide +kernel
theorem dX6_init_27 : decode cX6_init 27 = .ok (.new 25, 3) := by decide +kernel
theorem dX6_init_30 : decode cX6_init 30 = .ok (.dup, 1) := by decide +kernel
theorem dX6_init_31 : decode cX6_init 31 = .ok (.invokespecial 27, 3) := by decide +kernel
theorem dX6_init_34 : decode cX6_init 34 = .ok (.putfield 28, 3) := by decide +kernel
theorem dX6_init_37 : decode cX6_init 37 = .ok (.aload_n 0, 1) := by decide +kernel
theorem dX6_init_38 : decode cX6_init 38 = .ok (.new 25, 3) := by decide +kernel
theorem dX6_init_41 : decode cX6_init 41 = .ok (.dup, 1) := by decide +kernel
theorem dX6_init_42 : decode cX6_init 42 = .ok (.invokespecial 27, 3) := by decide +kernel
theorem dX6_init_45 : decode cX6_init 45 = .ok (.putfield 32, 3) := by decide +kernel
theorem dX6_init_48 : decode cX6_init 48 = .ok (.aload_n 0, 1) := by decide +kernel
theorem dX6_init_49 : decode cX6_init 49 = .ok (.new 35, 3) := by decide +kernel
theorem dX6_init_52 : decode cX6_init 52 = .ok (.dup, 1) := by decide +kernel
theorem dX6_init_53 : decode cX6_init 53 = .ok (.invokespecial 37, 3) := by decide +kernel
theorem dX6_init_56 : decode cX6_init 56 = .ok (.putfield 38, 3) := by decide +kernel
theorem dX6_init_59 : decode cX6_init 59 = .ok (.aload_n 0, 1) := by decide +kernel
theorem dX6_init_60 : decode cX6_init 60 = .ok (.new 42, 3) := by decide +kernel
theorem dX6_init_63 : decode cX6_init 63 = .ok (.dup, 1) := by decide +kernel
theorem dX6_init_64 : decode cX6_init 64 = .ok (.aload_n 0, 1) := by decide +kernel
theorem dX6_init_65 : decode cX6_init 65 = .ok (.getfield 12, 3) := by decide +kernel
theorem dX6_init_68 : decode cX6_init 68 = .ok (.invokespecial 44, 3) := by decide +kernel
theorem dX6_init_71 : decode cX6_init 71 = .ok (.putfield 47, 3) := by decide +kernel
theorem dX6_init_74 : decode cX6_init 74 = .ok (.aload_n 0, 1) := by decide +kernel
theorem dX6_init_75 : decode cX6_init 75 = .ok (.new 42, 3) := by decide +kernel
theorem dX6_init_78 : decode cX6_init 78 = .ok (.dup, 1) := by decide +kernel
theorem dX6_init_79 : decode cX6_init 79 = .ok (.aload_n 0, 1) := by decide +kernel
theorem dX6_init_80 : decode cX6_init 80 = .ok (.getfield 12, 3) := by decide +kernel
theorem dX6_init_83 : decode cX6_init 83 = .ok (.invokespecial 44, 3) := by decide +kernel
theorem dX6_init_86 : decode cX6_init 86 = .ok (.putfield 51, 3) := by decide +kernel
theorem dX6_init_89 : decode cX6_init 89 = .ok (.aload_n 0, 1) := by decide +kernel
theorem dX6_init_90 : decode cX6_init 90 = .ok (.iconst 4, 1) := by decide +kernel
theorem dX6_init_91 : decode cX6_init 91 = .ok (.anewarray 54, 3) := by decide +kernel
theorem dX6_init_94 : decode cX6_init 94 = .ok (.putfield 56, 3) := by decide +kernel
theorem dX6_init_97 : decode cX6_init 97 = .ok (.iconst 0, 1) := by decide +kernel
theorem dX6_init_98 : decode cX6_init 98 = .ok (.istore_n 1, 1) := by decide +kernel
theorem dX6_init_99 : decode cX6_init 99 = .ok (.iload_n 1, 1) := by decide +kernel
theorem dX6_init_100 : decode cX6_init 100 = .ok (.iconst 4, 1) := by decide +kernel
theorem dX6_init_101 : decode cX6_init 101 = .ok (.if_icmp .ge 22, 3) := by decide +kernel
theorem dX6_init_104 : decode cX6_init 104 = .ok (.aload_n 0, 1) := by decide +kernel
theorem dX6_init_105 : decode cX6_init 105 = .ok (.getfield 56, 3) := by decide +kernel
theorem dX6_init_108 : decode cX6_init 108 = .ok (.iload_n 1, 1) := by decide +kernel
theorem dX6_init_109 : decode cX6_init 109 = .ok (.new 54, 3) := by decide +kernel
theorem dX6_init_112 : decode cX6_init 112 = .ok (.dup, 1) := by decide +kernel
theorem dX6_init_113 : decode cX6_init 113 = .ok (.invokespecial 60, 3) := by decide +kernel
theorem dX6_init_116 : decode cX6_init 116 = .ok (.aastore, 1) := by decide +kernel
theorem dX6_init_117 : decode cX6_init 117 = .ok (.iinc 1 1, 3) := by decide +kernel
theorem dX6_init_120 : decode cX6_init 120 = .ok (.goto (-21), 3) := by decide +kernel
theorem dX6_init_123 : decode cX6_init 123 = .ok (.return_, 1) := by decide +kernel
theorem dX6_valley_0 : decode cX6_valley 0 = .ok (.aload_n 0, 1) := by decide +kernel
theorem dX6_valley_1 : decode cX6_valley 1 = .ok (.iconst 0, 1) := by decide +kernel
theorem dX6_valley_2 : decode cX6_valley 2 = .ok (.putfield 61, 3) := by decide +kernel
theorem dX6_valley_5 : decode cX6_valley 5 = .ok (.iload_n 1, 1) := by decide +kernel
theorem dX6_valley_6 : decode cX6_valley 6 = .ok (.invokestatic 65, 3) := by decide +kernel
theorem dX6_valley_9 : decode cX6_valley 9 = .ok (.ifCond .ne 5, 3) := by decide +kernel
theorem dX6_valley_12 : decode cX6_valley 12 = .ok (.iconst (-1), 1) := by decide +kernel
theorem dX6_valley_13 : decode cX6_valley 13 = .ok (.ireturn, 1) := by decide +kernel
theorem dX6_valley_14 : decode cX6_valley 14 = .ok (.iload_n 2, 1) := by decide +kernel
theorem dX6_valley_15 : decode cX6_valley 15 = .ok (.invokestatic 69, 3) := by decide +kernel
theorem dX6_valley_18 : decode cX6_valley 18 = .ok (.ifCond .ne 6, 3) := by decide +kernel
theorem dX6_valley_21 : decode cX6_valley 21 = .ok (.bipush (-2), 2) := by decide +kernel
theorem dX6_valley_23 : decode cX6_valley 23 = .ok (.ireturn, 1) := by decide +kernel
theorem dX6_valley_24 : decode cX6_valley 24 = .ok (.aload_n 0, 1) := by decide +kernel
theorem dX6_valley_25 : decode cX6_valley 25 = .ok (.getfield 56, 3) := by decide +kernel
theorem dX6_valley_28 : decode cX6_valley 28 = .ok (.iload_n 1, 1) := by decide +kernel
theorem dX6_valley_29 : decode cX6_valley 29 = .ok (.aaload, 1) := by decide +kernel
theorem dX6_valley_30 : decode cX6_valley 30 = .ok (.iload_n 2, 1) := by decide +kernel
theorem dX6_valley_31 : decode cX6_valley 31 = .ok (.iload_n 3, 1) := by decide +kernel
theorem dX6_valley_32 : decode cX6_valley 32 = .ok (.iload 4, 2) := by decide +kernel
theorem dX6_valley_34 : decode cX6_valley 34 = .ok (.invokevirtual 72, 3) := by decide +kernel
theorem dX6_valley_37 : decode cX6_valley 37 = .ok (.istore 5, 2) := by decide +kernel
theorem dX6_valley_39 : decode cX6_valley 39 = .ok (.iload 5, 2) := by decide +kernel
theorem dX6_valley_41 : decode cX6_valley 41 = .ok (.ifCond .eq 10, 3) := by decide +kernel
theorem dX6_valley_44 : decode cX6_valley 44 = .ok (.aload_n 0, 1) := by decide +kernel
theorem dX6_valley_45 : decode cX6_valley 45 = .ok (.iload 5, 2) := by decide +kernel
theorem dX6_valley_47 : decode cX6_valley 47 = .ok (.invokevirtual 76, 3) := by decide +kernel
theorem dX6_valley_50 : decode cX6_valley 50 = .ok (.ireturn, 1) := by decide +kernel
theorem dX6_valley_51 : decode cX6_valley 51 = .ok (.aload_n 0, 1) := by decide +kernel
theorem dX6_valley_52 : decode cX6_valley 52 = .ok (.getfield 21, 3) := by decide +kernel
theorem dX6_valley_55 : decode cX6_valley 55 = .ok (.aload_n 0, 1) := by decide +kernel
theorem dX6_valley_56 : decode cX6_valley 56 = .ok (.getfield 56, 3) := by decide +kernel
theorem dX6_valley_59 : decode cX6_valley 59 = .ok (.iload_n 1, 1) := by decide +kernel
theorem dX6_valley_60 : decode cX6_valley 60 = .ok (.aaload, 1) := by decide +kernel
theorem dX6_valley_61 : decode cX6_valley 61 = .ok (.getfield 80, 3) := by decide +kernel
theorem dX6_valley_64 : decode cX6_valley 64 = .ok (.iload_n 3, 1) := by decide +kernel
theorem dX6_valley_65 : decode cX6_valley 65 = .ok (.iload 4, 2) := by decide +kernel
theorem dX6_valley_67 : decode cX6_valley 67 = .ok (.invokevirtual 84, 3) := by decide +kernel
theorem dX6_valley_70 : decode cX6_valley 70 = .ok (.istore 6, 2) := by decide +kernel
theorem dX6_valley_72 : decode cX6_valley 72 = .ok (.iload 6, 2) := by decide +kernel
theorem dX6_valley_74 : decode cX6_valley 74 = .ok (.bipush (-9), 2) := by decide +kernel
theorem dX6_valley_76 : decode cX6_valley 76 = .ok (.if_icmp .eq 9, 3) := by decide +kernel
theorem dX6_valley_79 : decode cX6_valley 79 = .ok (.bipush (-100), 2) := by decide +kernel
theorem dX6_valley_81 : decode cX6_valley 81 = .ok (.iload 6, 2) := by decide +kernel
theorem dX6_valley_83 : decode cX6_valley 83 = .ok (.isub, 1) := by decide +kernel
theorem dX6_valley_84 : decode cX6_valley 84 = .ok (.ireturn, 1) := by decide +kernel
theorem dX6_valley_85 : decode cX6_valley 85 = .ok (.aload_n 0, 1) := by decide +kernel
theorem dX6_valley_86 : decode cX6_valley 86 = .ok (.getfield 12, 3) := by decide +kernel
theorem dX6_valley_89 : decode cX6_valley 89 = .ok (.aload_n 0, 1) := by decide +kernel
theorem dX6_valley_90 : decode cX6_valley 90 = .ok (.getfield 21, 3) := by decide +kernel
theorem dX6_valley_93 : decode cX6_valley 93 = .ok (.getfield 88, 3) := by decide +kernel
theorem dX6_valley_96 : decode cX6_valley 96 = .ok (.invokevirtual 91, 3) := by decide +kernel
theorem dX6_valley_99 : decode cX6_valley 99 = .ok (.aload_n 0, 1) := by decide +kernel
theorem dX6_valley_100 : decode cX6_valley 100 = .ok (.getfield 28, 3) := by decide +kernel
theorem dX6_valley_103 : decode cX6_valley 103 = .ok (.iconst 0, 1) := by decide +kernel
theorem dX6_valley_104 : decode cX6_valley 104 = .ok (.putfield 94, 3) := by decide +kernel
theorem dX6_valley_107 : decode cX6_valley 107 = .ok (.aload_n 0, 1) := by decide +kernel
theorem dX6_valley_108 : decode cX6_valley 108 = .ok (.getfield 38, 3) := by decide +kernel
theorem dX6_valley_111 : decode cX6_valley 111 = .ok (.iconst 0, 1) := by decide +kernel
theorem dX6_valley_112 : decode cX6_valley 112 = .ok (.putfield 97, 3) := by decide +kernel
theorem dX6_valley_115 : decode cX6_valley 115 = .ok (.aload_n 0, 1) := by decide +kernel
theorem dX6_valley_116 : decode cX6_valley 116 = .ok (.iconst 0, 1) := by decide +kernel
theorem dX6_valley_117 : decode cX6_valley 117 = .ok (.putfield 98, 3) := by decide +kernel
theorem dX6_valley_120 : decode cX6_valley 120 = .ok (.aload_n 0, 1) := by decide +kernel
theorem dX6_valley_121 : decode cX6_valley 121 = .ok (.getfield 12, 3) := by decide +kernel
theorem dX6_valley_124 : decode cX6_valley 124 = .ok (.getfield 102, 3) := by decide +kernel
theorem dX6_valley_127 : decode cX6_valley 127 = .ok (.ireturn, 1) := by decide +kernel
theorem dX6_ofBell_0 : decode cX6_ofBell 0 = .ok (.aload_n 0, 1) := by decide +kernel
theorem dX6_ofBell_1 : decode cX6_ofBell 1 = .ok (.getfield 12, 3) := by decide +kernel
theorem dX6_ofBell_4 : decode cX6_ofBell 4 = .ok (.iload_n 1, 1) := by decide +kernel
theorem dX6_ofBell_5 : decode cX6_ofBell 5 = .ok (.invokevirtual 105, 3) := by decide +kernel
theorem dX6_ofBell_8 : decode cX6_ofBell 8 = .ok (.ifCond .ne 5, 3) := by decide +kernel
theorem dX6_ofBell_11 : decode cX6_ofBell 11 = .ok (.iconst (-1), 1) := by decide +kernel
theorem dX6_ofBell_12 : decode cX6_ofBell 12 = .ok (.ireturn, 1) := by decide +kernel
theorem dX6_ofBell_13 : decode cX6_ofBell 13 = .ok (.iload_n 2, 1) := by decide +kernel
theorem dX6_ofBell_14 : decode cX6_ofBell 14 = .ok (.tableswitch 76 0 3 #[30, 40, 50, 59], 30) := by decide +kernel
theorem dX6_ofBell_44 : decode cX6_ofBell 44 = .ok (.aload_n 0, 1) := by decide +kernel
theorem dX6_ofBell_45 : decode cX6_ofBell 45 = .ok (.getfield 12, 3) := by decide +kernel
theorem dX6_ofBell_48 : decode cX6_ofBell 48 = .ok (.getfield 108, 3) := by decide +kernel
theorem dX6_ofBell_51 : decode cX6_ofBell 51 = .ok (.iload_n 1, 1) := by decide +kernel
theorem dX6_ofBell_52 : decode cX6_ofBell 52 = .ok (.iaload, 1) := by decide +kernel
theorem dX6_ofBell_53 : decode cX6_ofBell 53 = .ok (.ireturn, 1) := by decide +kernel
theorem dX6_ofBell_54 : decode cX6_ofBell 54 = .ok (.aload_n 0, 1) := by decide +kernel
theorem dX6_ofBell_55 : decode cX6_ofBell 55 = .ok (.getfield 12, 3) := by decide +kernel
theorem dX6_ofBell_58 : decode cX6_ofBell 58 = .ok (.getfield 111, 3) := by decide +kernel
theorem dX6_ofBell_61 : decode cX6_ofBell 61 = .ok (.iload_n 1, 1) := by decide +kernel
theorem dX6_ofBell_62 : decode cX6_ofBell 62 = .ok (.iaload, 1) := by decide +kernel
theorem dX6_ofBell_63 : decode cX6_ofBell 63 = .ok (.ireturn, 1) := by decide +kernel
theorem dX6_ofBell_64 : decode cX6_ofBell 64 = .ok (.aload_n 0, 1) := by decide +kernel
theorem dX6_ofBell_65 : decode cX6_ofBell 65 = .ok (.getfield 12, 3) := by decide +kernel
theorem dX6_ofBell_68 : decode cX6_ofBell 68 = .ok (.iload_n 1, 1) := by decide +kernel
theorem dX6_ofBell_69 : decode cX6_ofBell 69 = .ok (.invokevirtual 114, 3) := by decide +kernel
theorem dX6_ofBell_72 : decode cX6_ofBell 72 = .ok (.ireturn, 1) := by decide +kernel
theorem dX6_ofBell_73 : decode cX6_ofBell 73 = .ok (.aload_n 0, 1) := by decide +kernel
theorem dX6_ofBell_74 : decode cX6_ofBell 74 = .ok (.getfield 12, 3) := by decide +kernel
theorem dX6_ofBell_77 : decode cX6_ofBell 77 = .ok (.iload_n 1, 1) := by decide +kernel
theorem dX6_ofBell_78 : decode cX6_ofBell 78 = .ok (.invokevirtual 117, 3) := by decide +kernel
theorem dX6_ofBell_81 : decode cX6_ofBell 81 = .ok (.ifCond .eq 7, 3) := by decide +kernel
theorem dX6_ofBell_84 : decode cX6_ofBell 84 = .ok (.iconst 1, 1) := by decide +kernel
theorem dX6_ofBell_85 : decode cX6_ofBell 85 = .ok (.goto 4, 3) := by decide +kernel
theorem dX6_ofBell_88 : decode cX6_ofBell 88 = .ok (.iconst 0, 1) := by decide +kernel
theorem dX6_ofBell_89 : decode cX6_ofBell 89 = .ok (.ireturn, 1) := by decide +kernel
theorem dX6_ofBell_90 : decode cX6_ofBell 90 = .ok (.bipush (-2), 2) := by decide +kernel
theorem dX6_ofBell_92 : decode cX6_ofBell 92 = .ok (.ireturn, 1) := by decide +kernel
theorem dX6_ofRope_0 : decode cX6_ofRope 0 = .ok (.iload_n 1, 1) := by decide +kernel
theorem dX6_ofRope_1 : decode cX6_ofRope 1 = .ok (.ifCond .lt 14, 3) := by decide +kernel
theorem dX6_ofRope_4 : decode cX6_ofRope 4 = .ok (.iload_n 1, 1) := by decide +kernel
theorem dX6_ofRope_5 : decode cX6_ofRope 5 = .ok (.aload_n 0, 1) := by decide +kernel
theorem dX6_ofRope_6 : decode cX6_ofRope 6 = .ok (.getfield 12, 3) := by decide +kernel
theorem dX6_ofRope_9 : decode cX6_ofRope 9 = .ok (.getfield 120, 3) := by decide +kernel
theorem dX6_ofRope_12 : decode cX6_ofRope 12 = .ok (.if_icmp .lt 5, 3) := by decide +kernel
theorem dX6_ofRope_15 : decode cX6_ofRope 15 = .ok (.iconst (-1), 1) := by decide +kernel
theorem dX6_ofRope_16 : decode cX6_ofRope 16 = .ok (.ireturn, 1) := by decide +kernel
theorem dX6_ofRope_17 : decode cX6_ofRope 17 = .ok (.iload_n 2, 1) := by decide +kernel
theorem dX6_ofRope_18 : decode cX6_ofRope 18 = .ok (.tableswitch 56 0 2 #[26, 36, 46], 26) := by decide +kernel
theorem dX6_ofRope_44 : decode cX6_ofRope 44 = .ok (.aload_n 0, 1) := by decide +kernel
theorem dX6_ofRope_45 : decode cX6_ofRope 45 = .ok (.getfield 12, 3) := by decide +kernel
theorem dX6_ofRope_48 : decode cX6_ofRope 48 = .ok (.getfield 123, 3) := by decide +kernel
theorem dX6_ofRope_51 : decode cX6_ofRope 51 = .ok (.iload_n 1, 1) := by decide +kernel
theorem dX6_ofRope_52 : decode cX6_ofRope 52 = .ok (.iaload, 1) := by decide +kernel
theorem dX6_ofRope_53 : decode cX6_ofRope 53 = .ok (.ireturn, 1) := by decide +kernel
theorem dX6_ofRope_54 : decode cX6_ofRope 54 = .ok (.aload_n 0, 1) := by decide +kernel
theorem dX6_ofRope_55 : decode cX6_ofRope 55 = .ok (.getfield 12, 3) := by decide +kernel
theorem dX6_ofRope_58 : decode cX6_ofRope 58 = .ok (.getfield 126, 3) := by decide +kernel
theorem dX6_ofRope_61 : decode cX6_ofRope 61 = .ok (.iload_n 1, 1) := by decide +kernel
theorem dX6_ofRope_62 : decode cX6_ofRope 62 = .ok (.iaload, 1) := by decide +kernel
theorem dX6_ofRope_63 : decode cX6_ofRope 63 = .ok (.ireturn, 1) := by decide +kernel
theorem dX6_ofRope_64 : decode cX6_ofRope 64 = .ok (.aload_n 0, 1) := by decide +kernel
theorem dX6_ofRope_65 : decode cX6_ofRope 65 = .ok (.getfield 12, 3) := by decide +kernel
theorem dX6_ofRope_68 : decode cX6_ofRope 68 = .ok (.getfield 129, 3) := by decide +kernel
theorem dX6_ofRope_71 : decode cX6_ofRope 71 = .ok (.iload_n 1, 1) := by decide +kernel
theorem dX6_ofRope_72 : decode cX6_ofRope 72 = .ok (.iaload, 1) := by decide +kernel
theorem dX6_ofRope_73 : decode cX6_ofRope 73 = .ok (.ireturn, 1) := by decide +kernel
theorem dX6_ofRope_74 : decode cX6_ofRope 74 = .ok (.bipush (-2), 2) := by decide +kernel
theorem dX6_ofRope_76 : decode cX6_ofRope 76 = .ok (.ireturn, 1) := by decide +kernel
theorem dX6_tie_0 : decode cX6_tie 0 = .ok (.aload_n 0, 1) := by decide +kernel
theorem dX6_tie_1 : decode cX6_tie 1 = .ok (.getfield 12, 3) := by decide +kernel
theorem dX6_tie_4 : decode cX6_tie 4 = .ok (.iload_n 1, 1) := by decide +kernel
theorem dX6_tie_5 : decode cX6_tie 5 = .ok (.invokevirtual 105, 3) := by decide +kernel
theorem dX6_tie_8 : decode cX6_tie 8 = .ok (.ifCond .ne 5, 3) := by decide +kernel
theorem dX6_tie_11 : decode cX6_tie 11 = .ok (.iconst (-1), 1) := by decide +kernel
theorem dX6_tie_12 : decode cX6_tie 12 = .ok (.ireturn, 1) := by decide +kernel
theorem dX6_tie_13 : decode cX6_tie 13 = .ok (.aload_n 0, 1) := by decide +kernel
theorem dX6_tie_14 : decode cX6_tie 14 = .ok (.getfield 12, 3) := by decide +kernel
theorem dX6_tie_17 : decode cX6_tie 17 = .ok (.iload_n 1, 1) := by decide +kernel
theorem dX6_tie_18 : decode cX6_tie 18 = .ok (.invokevirtual 117, 3) := by decide +kernel
theorem dX6_tie_21 : decode cX6_tie 21 = .ok (.iload_n 2, 1) := by decide +kernel
theorem dX6_tie_22 : decode cX6_tie 22 = .ok (.if_icmp .ne 5, 3) := by decide +kernel
theorem dX6_tie_25 : decode cX6_tie 25 = .ok (.iconst 0, 1) := by decide +kernel
theorem dX6_tie_26 : decode cX6_tie 26 = .ok (.ireturn, 1) := by decide +kernel
theorem dX6_tie_27 : decode cX6_tie 27 = .ok (.aload_n 0, 1) := by decide +kernel
theorem dX6_tie_28 : decode cX6_tie 28 = .ok (.getfield 12, 3) := by decide +kernel
theorem dX6_tie_31 : decode cX6_tie 31 = .ok (.dup, 1) := by decide +kernel
theorem dX6_tie_32 : decode cX6_tie 32 = .ok (.getfield 132, 3) := by decide +kernel
theorem dX6_tie_35 : decode cX6_tie 35 = .ok (.iconst 1, 1) := by decide +kernel
theorem dX6_tie_36 : decode cX6_tie 36 = .ok (.iload_n 1, 1) := by decide +kernel
theorem dX6_tie_37 : decode cX6_tie 37 = .ok (.ishl, 1) := by decide +kernel
theorem dX6_tie_38 : decode cX6_tie 38 = .ok (.ixor, 1) := by decide +kernel
theorem dX6_tie_39 : decode cX6_tie 39 = .ok (.putfield 132, 3) := by decide +kernel
theorem dX6_tie_42 : decode cX6_tie 42 = .ok (.aload_n 0, 1) := by decide +kernel
theorem dX6_tie_43 : decode cX6_tie 43 = .ok (.iconst 0, 1) := by decide +kernel
theorem dX6_tie_44 : decode cX6_tie 44 = .ok (.putfield 98, 3) := by decide +kernel
theorem dX6_tie_47 : decode cX6_tie 47 = .ok (.iconst 1, 1) := by decide +kernel
theorem dX6_tie_48 : decode cX6_tie 48 = .ok (.ireturn, 1) := by decide +kernel
theorem dX6_span_0 : decode cX6_span 0 = .ok (.iload_n 1, 1) := by decide +kernel
theorem dX6_span_1 : decode cX6_span 1 = .ok (.ifCond .lt 8, 3) := by decide +kernel
theorem dX6_span_4 : decode cX6_span 4 = .ok (.iload_n 1, 1) := by decide +kernel
theorem dX6_span_5 : decode cX6_span 5 = .ok (.iconst 5, 1) := by decide +kernel
theorem dX6_span_6 : decode cX6_span 6 = .ok (.if_icmp .le 6, 3) := by decide +kernel
theorem dX6_span_9 : decode cX6_span 9 = .ok (.bipush (-2), 2) := by decide +kernel
theorem dX6_span_11 : decode cX6_span 11 = .ok (.ireturn, 1) := by decide +kernel
theorem dX6_span_12 : decode cX6_span 12 = .ok (.aload_n 0, 1) := by decide +kernel
theorem dX6_span_13 : decode cX6_span 13 = .ok (.invokevirtual 135, 3) := by decide +kernel
theorem dX6_span_16 : decode cX6_span 16 = .ok (.ifCond .eq 6, 3) := by decide +kernel
theorem dX6_span_19 : decode cX6_span 19 = .ok (.bipush (-3), 2) := by decide +kernel
theorem dX6_span_21 : decode cX6_span 21 = .ok (.ireturn, 1) := by decide +kernel
theorem dX6_span_22 : decode cX6_span 22 = .ok (.aload_n 0, 1) := by decide +kernel
theorem dX6_span_23 : decode cX6_span 23 = .ok (.getfield 12, 3) := by decide +kernel
theorem dX6_span_26 : decode cX6_span 26 = .ok (.getfield 139, 3) := by decide +kernel
theorem dX6_span_29 : decode cX6_span 29 = .ok (.istore_n 2, 1) := by decide +kernel
theorem dX6_span_30 : decode cX6_span 30 = .ok (.aload_n 0, 1) := by decide +kernel
theorem dX6_span_31 : decode cX6_span 31 = .ok (.getfield 12, 3) := by decide +kernel
theorem dX6_span_34 : decode cX6_span 34 = .ok (.iload_n 1, 1) := by decide +kernel
theorem dX6_span_35 : decode cX6_span 35 = .ok (.putfield 139, 3) := by decide +kernel
theorem dX6_span_38 : decode cX6_span 38 = .ok (.aload_n 0, 1) := by decide +kernel
theorem dX6_span_39 : decode cX6_span 39 = .ok (.iconst 0, 1) := by decide +kernel
theorem dX6_span_40 : decode cX6_span 40 = .ok (.putfield 98, 3) := by decide +kernel
theorem dX6_span_43 : decode cX6_span 43 = .ok (.iload_n 2, 1) := by decide +kernel
theorem dX6_span_44 : decode cX6_span 44 = .ok (.ireturn, 1) := by decide +kernel
theorem dX6_pull_0 : decode cX6_pull 0 = .ok (.aload_n 0, 1) := by decide +kernel
theorem dX6_pull_1 : decode cX6_pull 1 = .ok (.getfield 12, 3) := by decide +kernel
theorem dX6_pull_4 : decode cX6_pull 4 = .ok (.iload_n 1, 1) := by decide +kernel
theorem dX6_pull_5 : decode cX6_pull 5 = .ok (.invokevirtual 105, 3) := by decide +kernel
theorem dX6_pull_8 : decode cX6_pull 8 = .ok (.ifCond .ne 5, 3) := by decide +kernel
theorem dX6_pull_11 : decode cX6_pull 11 = .ok (.iconst (-1), 1) := by decide +kernel
theorem dX6_pull_12 : decode cX6_pull 12 = .ok (.ireturn, 1) := by decide +kernel
theorem dX6_pull_13 : decode cX6_pull 13 = .ok (.iload_n 2, 1) := by decide +kernel
theorem dX6_pull_14 : decode cX6_pull 14 = .ok (.ifCond .lt 9, 3) := by decide +kernel
theorem dX6_pull_17 : decode cX6_pull 17 = .ok (.iload_n 2, 1) := by decide +kernel
theorem dX6_pull_18 : decode cX6_pull 18 = .ok (.bipush 100, 2) := by decide +kernel
theorem dX6_pull_20 : decode cX6_pull 20 = .ok (.if_icmp .lt 6, 3) := by decide +kernel
theorem dX6_pull_23 : decode cX6_pull 23 = .ok (.bipush (-2), 2) := by decide +kernel
theorem dX6_pull_25 : decode cX6_pull 25 = .ok (.ireturn, 1) := by decide +kernel
theorem dX6_pull_26 : decode cX6_pull 26 = .ok (.aload_n 0, 1) := by decide +kernel
theorem dX6_pull_27 : decode cX6_pull 27 = .ok (.getfield 28, 3) := by decide +kernel
theorem dX6_pull_30 : decode cX6_pull 30 = .ok (.getfield 94, 3) := by decide +kernel
theorem dX6_pull_33 : decode cX6_pull 33 = .ok (.bipush 6, 2) := by decide +kernel
theorem dX6_pull_35 : decode cX6_pull 35 = .ok (.if_icmp .lt 6, 3) := by decide +kernel
theorem dX6_pull_38 : decode cX6_pull 38 = .ok (.bipush (-4), 2) := by decide +kernel
theorem dX6_pull_40 : decode cX6_pull 40 = .ok (.ireturn, 1) := by decide +kernel
theorem dX6_pull_41 : decode cX6_pull 41 = .ok (.aload_n 0, 1) := by decide +kernel
theorem dX6_pull_42 : decode cX6_pull 42 = .ok (.getfield 28, 3) := by decide +kernel
theorem dX6_pull_45 : decode cX6_pull 45 = .ok (.iload_n 1, 1) := by decide +kernel
theorem dX6_pull_46 : decode cX6_pull 46 = .ok (.iload_n 2, 1) := by decide +kernel
theorem dX6_pull_47 : decode cX6_pull 47 = .ok (.iconst 1, 1) := by decide +kernel
theorem dX6_pull_48 : decode cX6_pull 48 = .ok (.invokevirtual 142, 3) := by decide +kernel
theorem dX6_pull_51 : decode cX6_pull 51 = .ok (.aload_n 0, 1) := by decide +kernel
theorem dX6_pull_52 : decode cX6_pull 52 = .ok (.iconst 0, 1) := by decide +kernel
theorem dX6_pull_53 : decode cX6_pull 53 = .ok (.putfield 98, 3) := by decide +kernel
theorem dX6_pull_56 : decode cX6_pull 56 = .ok (.aload_n 0, 1) := by decide +kernel
theorem dX6_pull_57 : decode cX6_pull 57 = .ok (.getfield 28, 3) := by decide +kernel
theorem dX6_pull_60 : decode cX6_pull 60 = .ok (.getfield 94, 3) := by decide +kernel
theorem dX6_pull_63 : decode cX6_pull 63 = .ok (.iconst 1, 1) := by decide +kernel
theorem dX6_pull_64 : decode cX6_pull 64 = .ok (.isub, 1) := by decide +kernel
theorem dX6_pull_65 : decode cX6_pull 65 = .ok (.ireturn, 1) := by decide +kernel
theorem dX6_undo_0 : decode cX6_undo 0 = .ok (.iload_n 1, 1) := by decide +kernel
theorem dX6_undo_1 : decode cX6_undo 1 = .ok (.ifCond .lt 14, 3) := by decide +kernel
theorem dX6_undo_4 : decode cX6_undo 4 = .ok (.iload_n 1, 1) := by decide +kernel
theorem dX6_undo_5 : decode cX6_undo 5 = .ok (.aload_n 0, 1) := by decide +kernel
theorem dX6_undo_6 : decode cX6_undo 6 = .ok (.getfield 28, 3) := by decide +kernel
theorem dX6_undo_9 : decode cX6_undo 9 = .ok (.getfield 94, 3) := by decide +kernel
theorem dX6_undo_12 : decode cX6_undo 12 = .ok (.if_icmp .le 6, 3) := by decide +kernel
theorem dX6_undo_15 : decode cX6_undo 15 = .ok (.bipush (-2), 2) := by decide +kernel
theorem dX6_undo_17 : decode cX6_undo 17 = .ok (.ireturn, 1) := by decide +kernel
theorem dX6_undo_18 : decode cX6_undo 18 = .ok (.aload_n 0, 1) := by decide +kernel
theorem dX6_undo_19 : decode cX6_undo 19 = .ok (.getfield 28, 3) := by decide +kernel
theorem dX6_undo_22 : decode cX6_undo 22 = .ok (.dup, 1) := by decide +kernel
theorem dX6_undo_23 : decode cX6_undo 23 = .ok (.getfield 94, 3) := by decide +kernel
theorem dX6_undo_26 : decode cX6_undo 26 = .ok (.iload_n 1, 1) := by decide +kernel
theorem dX6_undo_27 : decode cX6_undo 27 = .ok (.isub, 1) := by decide +kernel
theorem dX6_undo_28 : decode cX6_undo 28 = .ok (.putfield 94, 3) := by decide +kernel
theorem dX6_undo_31 : decode cX6_undo 31 = .ok (.aload_n 0, 1) := by decide +kernel
theorem dX6_undo_32 : decode cX6_undo 32 = .ok (.iconst 0, 1) := by decide +kernel
theorem dX6_undo_33 : decode cX6_undo 33 = .ok (.putfield 98, 3) := by decide +kernel
theorem dX6_undo_36 : decode cX6_undo 36 = .ok (.aload_n 0, 1) := by decide +kernel
theorem dX6_undo_37 : decode cX6_undo 37 = .ok (.getfield 28, 3) := by decide +kernel
theorem dX6_undo_40 : decode cX6_undo 40 = .ok (.getfield 94, 3) := by decide +kernel
theorem dX6_undo_43 : decode cX6_undo 43 = .ok (.ireturn, 1) := by decide +kernel
theorem dX6_rings_0 : decode cX6_rings 0 = .ok (.aload_n 0, 1) := by decide +kernel
theorem dX6_rings_1 : decode cX6_rings 1 = .ok (.getfield 12, 3) := by decide +kernel
theorem dX6_rings_4 : decode cX6_rings 4 = .ok (.iload_n 1, 1) := by decide +kernel
theorem dX6_rings_5 : decode cX6_rings 5 = .ok (.invokevirtual 105, 3) := by decide +kernel
theorem dX6_rings_8 : decode cX6_rings 8 = .ok (.ifCond .ne 5, 3) := by decide +kernel
theorem dX6_rings_11 : decode cX6_rings 11 = .ok (.iconst (-1), 1) := by decide +kernel
theorem dX6_rings_12 : decode cX6_rings 12 = .ok (.ireturn, 1) := by decide +kernel
theorem dX6_rings_13 : decode cX6_rings 13 = .ok (.aload_n 0, 1) := by decide +kernel
theorem dX6_rings_14 : decode cX6_rings 14 = .ok (.invokevirtual 146, 3) := by decide +kernel
theorem dX6_rings_17 : decode cX6_rings 17 = .ok (.astore_n 2, 1) := by decide +kernel
theorem dX6_rings_18 : decode cX6_rings 18 = .ok (.iconst 0, 1) := by decide +kernel
theorem dX6_rings_19 : decode cX6_rings 19 = .ok (.istore_n 3, 1) := by decide +kernel
theorem dX6_rings_20 : decode cX6_rings 20 = .ok (.iconst 0, 1) := by decide +kernel
theorem dX6_rings_21 : decode cX6_rings 21 = .ok (.istore 4, 2) := by decide +kernel
theorem dX6_rings_23 : decode cX6_rings 23 = .ok (.iload 4, 2) := by decide +kernel
theorem dX6_rings_25 : decode cX6_rings 25 = .ok (.sipush 400, 3) := by decide +kernel
theorem dX6_rings_28 : decode cX6_rings 28 = .ok (.if_icmp .ge 22, 3) := by decide +kernel
theorem dX6_rings_31 : decode cX6_rings 31 = .ok (.aload_n 2, 1) := by decide +kernel
theorem dX6_rings_32 : decode cX6_rings 32 = .ok (.iload_n 1, 1) := by decide +kernel
theorem dX6_rings_33 : decode cX6_rings 33 = .ok (.iload 4, 2) := by decide +kernel
theorem dX6_rings_35 : decode cX6_rings 35 = .ok (.invokevirtual 150, 3) := by decide +kernel
theorem dX6_rings_38 : decode cX6_rings 38 = .ok (.ifCond .eq 6, 3) := by decide +kernel
theorem dX6_rings_41 : decode cX6_rings 41 = .ok (.iinc 3 1, 3) := by decide +kernel
theorem dX6_rings_44 : decode cX6_rings 44 = .ok (.iinc 4 1, 3) := by decide +kernel
theorem dX6_rings_47 : decode cX6_rings 47 = .ok (.goto (-24), 3) := by decide +kernel
theorem dX6_rings_50 : decode cX6_rings 50 = .ok (.iload_n 3, 1) := by decide +kernel
theorem dX6_rings_51 : decode cX6_rings 51 = .ok (.ireturn, 1) := by decide +kernel
theorem dX6_ringsAt_0 : decode cX6_ringsAt 0 = .ok (.aload_n 0, 1) := by decide +kernel
theorem dX6_ringsAt_1 : decode cX6_ringsAt 1 = .ok (.getfield 12, 3) := by decide +kernel
theorem dX6_ringsAt_4 : decode cX6_ringsAt 4 = .ok (.iload_n 1, 1) := by decide +kernel
theorem dX6_ringsAt_5 : decode cX6_ringsAt 5 = .ok (.invokevirtual 105, 3) := by decide +kernel
theorem dX6_ringsAt_8 : decode cX6_ringsAt 8 = .ok (.ifCond .eq 7, 3) := by decide +kernel
theorem dX6_ringsAt_11 : decode cX6_ringsAt 11 = .ok (.iload_n 2, 1) := by decide +kernel
theorem dX6_ringsAt_12 : decode cX6_ringsAt 12 = .ok (.ifCond .ge 5, 3) := by decide +kernel
theorem dX6_ringsAt_15 : decode cX6_ringsAt 15 = .ok (.iconst (-1), 1) := by decide +kernel
theorem dX6_ringsAt_16 : decode cX6_ringsAt 16 = .ok (.ireturn, 1) := by decide +kernel
theorem dX6_ringsAt_17 : decode cX6_ringsAt 17 = .ok (.aload_n 0, 1) := by decide +kernel
theorem dX6_ringsAt_18 : decode cX6_ringsAt 18 = .ok (.invokevirtual 146, 3) := by decide +kernel
theorem dX6_ringsAt_21 : decode cX6_ringsAt 21 = .ok (.astore_n 3, 1) := by decide +kernel
theorem dX6_ringsAt_22 : decode cX6_ringsAt 22 = .ok (.iload_n 2, 1) := by decide +kernel
theorem dX6_ringsAt_23 : decode cX6_ringsAt 23 = .ok (.istore 4, 2) := by decide +kernel
theorem dX6_ringsAt_25 : decode cX6_ringsAt 25 = .ok (.iconst 0, 1) := by decide +kernel
theorem dX6_ringsAt_26 : decode cX6_ringsAt 26 = .ok (.istore 5, 2) := by decide +kernel
theorem dX6_ringsAt_28 : decode cX6_ringsAt 28 = .ok (.iload 5, 2) := by decide +kernel
theorem dX6_ringsAt_30 : decode cX6_ringsAt 30 = .ok (.sipush 400, 3) := by decide +kernel
theorem dX6_ringsAt_33 : decode cX6_ringsAt 33 = .ok (.if_icmp .ge 30, 3) := by decide +kernel
theorem dX6_ringsAt_36 : decode cX6_ringsAt 36 = .ok (.aload_n 3, 1) := by decide +kernel
theorem dX6_ringsAt_37 : decode cX6_ringsAt 37 = .ok (.iload_n 1, 1) := by decide +kernel
theorem dX6_ringsAt_38 : decode cX6_ringsAt 38 = .ok (.iload 5, 2) := by decide +kernel
theorem dX6_ringsAt_40 : decode cX6_ringsAt 40 = .ok (.invokevirtual 150, 3) := by decide +kernel
theorem dX6_ringsAt_43 : decode cX6_ringsAt 43 = .ok (.ifCond .eq 14, 3) := by decide +kernel
theorem dX6_ringsAt_46 : decode cX6_ringsAt 46 = .ok (.iload 4, 2) := by decide +kernel
theorem dX6_ringsAt_48 : decode cX6_ringsAt 48 = .ok (.ifCond .ne 6, 3) := by decide +kernel
theorem dX6_ringsAt_51 : decode cX6_ringsAt 51 = .ok (.iload 5, 2) := by decide +kernel
theorem dX6_ringsAt_53 : decode cX6_ringsAt 53 = .ok (.ireturn, 1) := by decide +kernel
theorem dX6_ringsAt_54 : decode cX6_ringsAt 54 = .ok (.iinc 4 (-1), 3) := by decide +kernel
theorem dX6_ringsAt_57 : decode cX6_ringsAt 57 = .ok (.iinc 5 1, 3) := by decide +kernel
theorem dX6_ringsAt_60 : decode cX6_ringsAt 60 = .ok (.goto (-32), 3) := by decide +kernel
theorem dX6_ringsAt_63 : decode cX6_ringsAt 63 = .ok (.bipush (-9), 2) := by decide +kernel
theorem dX6_ringsAt_65 : decode cX6_ringsAt 65 = .ok (.ireturn, 1) := by decide +kernel
theorem dX6_peal_0 : decode cX6_peal 0 = .ok (.iload_n 1, 1) := by decide +kernel
theorem dX6_peal_1 : decode cX6_peal 1 = .ok (.ifCond .lt 10, 3) := by decide +kernel
theorem dX6_peal_4 : decode cX6_peal 4 = .ok (.iload_n 1, 1) := by decide +kernel
theorem dX6_peal_5 : decode cX6_peal 5 = .ok (.sipush 400, 3) := by decide +kernel
theorem dX6_peal_8 : decode cX6_peal 8 = .ok (.if_icmp .lt 6, 3) := by decide +kernel
theorem dX6_peal_11 : decode cX6_peal 11 = .ok (.bipush (-2), 2) := by decide +kernel
theorem dX6_peal_13 : decode cX6_peal 13 = .ok (.ireturn, 1) := by decide +kernel
theorem dX6_peal_14 : decode cX6_peal 14 = .ok (.aload_n 0, 1) := by decide +kernel
theorem dX6_peal_15 : decode cX6_peal 15 = .ok (.invokevirtual 135, 3) := by decide +kernel
theorem dX6_peal_18 : decode cX6_peal 18 = .ok (.ifCond .eq 6, 3) := by decide +kernel
theorem dX6_peal_21 : decode cX6_peal 21 = .ok (.bipush (-3), 2) := by decide +kernel
theorem dX6_peal_23 : decode cX6_peal 23 = .ok (.ireturn, 1) := by decide +kernel
theorem dX6_peal_24 : decode cX6_peal 24 = .ok (.aload_n 0, 1) := by decide +kernel
theorem dX6_peal_25 : decode cX6_peal 25 = .ok (.invokevirtual 146, 3) := by decide +kernel
theorem dX6_peal_28 : decode cX6_peal 28 = .ok (.getfield 154, 3) := by decide +kernel
theorem dX6_peal_31 : decode cX6_peal 31 = .ok (.iload_n 1, 1) := by decide +kernel
theorem dX6_peal_32 : decode cX6_peal 32 = .ok (.iaload, 1) := by decide +kernel
theorem dX6_peal_33 : decode cX6_peal 33 = .ok (.ireturn, 1) := by decide +kernel
theorem dX6_stops_0 : decode cX6_stops 0 = .ok (.aload_n 0, 1) := by decide +kernel
theorem dX6_stops_1 : decode cX6_stops 1 = .ok (.invokevirtual 135, 3) := by decide +kernel
theorem dX6_stops_4 : decode cX6_stops 4 = .ok (.ifCond .eq 6, 3) := by decide +kernel
theorem dX6_stops_7 : decode cX6_stops 7 = .ok (.bipush (-3), 2) := by decide +kernel
theorem dX6_stops_9 : decode cX6_stops 9 = .ok (.ireturn, 1) := by decide +kernel
theorem dX6_stops_10 : decode cX6_stops 10 = .ok (.aload_n 0, 1) := by decide +kernel
theorem dX6_stops_11 : decode cX6_stops 11 = .ok (.invokevirtual 146, 3) := by decide +kernel
theorem dX6_stops_14 : decode cX6_stops 14 = .ok (.invokevirtual 157, 3) := by decide +kernel
theorem dX6_stops_17 : decode cX6_stops 17 = .ok (.ireturn, 1) := by decide +kernel
theorem dX6_fewest_0 : decode cX6_fewest 0 = .ok (.iload_n 1, 1) := by decide +kernel
theorem dX6_fewest_1 : decode cX6_fewest 1 = .ok (.aload_n 0, 1) := by decide +kernel
theorem dX6_fewest_2 : decode cX6_fewest 2 = .ok (.getfield 12, 3) := by decide +kernel
theorem dX6_fewest_5 : decode cX6_fewest 5 = .ok (.invokevirtual 161, 3) := by decide +kernel
theorem dX6_fewest_8 : decode cX6_fewest 8 = .ok (.iconst (-1), 1) := by decide +kernel
theorem dX6_fewest_9 : decode cX6_fewest 9 = .ok (.ixor, 1) := by decide +kernel
theorem dX6_fewest_10 : decode cX6_fewest 10 = .ok (.iand, 1) := by decide +kernel
theorem dX6_fewest_11 : decode cX6_fewest 11 = .ok (.ifCond .eq 6, 3) := by decide +kernel
theorem dX6_fewest_14 : decode cX6_fewest 14 = .ok (.bipush (-2), 2) := by decide +kernel
theorem dX6_fewest_16 : decode cX6_fewest 16 = .ok (.ireturn, 1) := by decide +kernel
theorem dX6_fewest_17 : decode cX6_fewest 17 = .ok (.aload_n 0, 1) := by decide +kernel
theorem dX6_fewest_18 : decode cX6_fewest 18 = .ok (.invokevirtual 135, 3) := by decide +kernel
theorem dX6_fewest_21 : decode cX6_fewest 21 = .ok (.ifCond .eq 6, 3) := by decide +kernel
theorem dX6_fewest_24 : decode cX6_fewest 24 = .ok (.bipush (-3), 2) := by decide +kernel
theorem dX6_fewest_26 : decode cX6_fewest 26 = .ok (.ireturn, 1) := by decide +kernel
theorem dX6_fewest_27 : decode cX6_fewest 27 = .ok (.bipush (-9), 2) := by decide +kernel
theorem dX6_fewest_29 : decode cX6_fewest 29 = .ok (.istore_n 2, 1) := by decide +kernel
theorem dX6_fewest_30 : decode cX6_fewest 30 = .ok (.iconst 0, 1) := by decide +kernel
theorem dX6_fewest_31 : decode cX6_fewest 31 = .ok (.istore_n 3, 1) := by decide +kernel
theorem dX6_fewest_32 : decode cX6_fewest 32 = .ok (.iload_n 3, 1) := by decide +kernel
theorem dX6_fewest_33 : decode cX6_fewest 33 = .ok (.aload_n 0, 1) := by decide +kernel
theorem dX6_fewest_34 : decode cX6_fewest 34 = .ok (.getfield 12, 3) := by decide +kernel
theorem dX6_fewest_37 : decode cX6_fewest 37 = .ok (.invokevirtual 161, 3) := by decide +kernel
theorem dX6_fewest_40 : decode cX6_fewest 40 = .ok (.if_icmp .gt 31, 3) := by decide +kernel
theorem dX6_fewest_43 : decode cX6_fewest 43 = .ok (.iload_n 3, 1) := by decide +kernel
theorem dX6_fewest_44 : decode cX6_fewest 44 = .ok (.iload_n 2, 1) := by decide +kernel
theorem dX6_fewest_45 : decode cX6_fewest 45 = .ok (.invokestatic 164, 3) := by decide +kernel
theorem dX6_fewest_48 : decode cX6_fewest 48 = .ok (.ifCond .eq 17, 3) := by decide +kernel
theorem dX6_fewest_51 : decode cX6_fewest 51 = .ok (.iload_n 1, 1) := by decide +kernel
theorem dX6_fewest_52 : decode cX6_fewest 52 = .ok (.aload_n 0, 1) := by decide +kernel
theorem dX6_fewest_53 : decode cX6_fewest 53 = .ok (.iload_n 3, 1) := by decide +kernel
theorem dX6_fewest_54 : decode cX6_fewest 54 = .ok (.invokevirtual 167, 3) := by decide +kernel
theorem dX6_fewest_57 : decode cX6_fewest 57 = .ok (.iconst (-1), 1) := by decide +kernel
theorem dX6_fewest_58 : decode cX6_fewest 58 = .ok (.ixor, 1) := by decide +kernel
theorem dX6_fewest_59 : decode cX6_fewest 59 = .ok (.iand, 1) := by decide +kernel
theorem dX6_fewest_60 : decode cX6_fewest 60 = .ok (.ifCond .ne 5, 3) := by decide +kernel
theorem dX6_fewest_63 : decode cX6_fewest 63 = .ok (.iload_n 3, 1) := by decide +kernel
theorem dX6_fewest_64 : decode cX6_fewest 64 = .ok (.istore_n 2, 1) := by decide +kernel
theorem dX6_fewest_65 : decode cX6_fewest 65 = .ok (.iinc 3 1, 3) := by decide +kernel
theorem dX6_fewest_68 : decode cX6_fewest 68 = .ok (.goto (-36), 3) := by decide +kernel
theorem dX6_fewest_71 : decode cX6_fewest 71 = .ok (.iload_n 2, 1) := by decide +kernel
theorem dX6_fewest_72 : decode cX6_fewest 72 = .ok (.ireturn, 1) := by decide +kernel
theorem dX6_still_0 : decode cX6_still 0 = .ok (.iload_n 1, 1) := by decide +kernel
theorem dX6_still_1 : decode cX6_still 1 = .ok (.ifCond .lt 10, 3) := by decide +kernel
theorem dX6_still_4 : decode cX6_still 4 = .ok (.iload_n 1, 1) := by decide +kernel
theorem dX6_still_5 : decode cX6_still 5 = .ok (.sipush 399, 3) := by decide +kernel
theorem dX6_still_8 : decode cX6_still 8 = .ok (.if_icmp .lt 6, 3) := by decide +kernel
theorem dX6_still_11 : decode cX6_still 11 = .ok (.bipush (-2), 2) := by decide +kernel
theorem dX6_still_13 : decode cX6_still 13 = .ok (.ireturn, 1) := by decide +kernel
theorem dX6_still_14 : decode cX6_still 14 = .ok (.aload_n 0, 1) := by decide +kernel
theorem dX6_still_15 : decode cX6_still 15 = .ok (.invokevirtual 135, 3) := by decide +kernel
theorem dX6_still_18 : decode cX6_still 18 = .ok (.ifCond .eq 6, 3) := by decide +kernel
theorem dX6_still_21 : decode cX6_still 21 = .ok (.bipush (-3), 2) := by decide +kernel
theorem dX6_still_23 : decode cX6_still 23 = .ok (.ireturn, 1) := by decide +kernel
theorem dX6_still_24 : decode cX6_still 24 = .ok (.bipush (-9), 2) := by decide +kernel
theorem dX6_still_26 : decode cX6_still 26 = .ok (.istore_n 2, 1) := by decide +kernel
theorem dX6_still_27 : decode cX6_still 27 = .ok (.iconst 0, 1) := by decide +kernel
theorem dX6_still_28 : decode cX6_still 28 = .ok (.istore_n 3, 1) := by decide +kernel
theorem dX6_still_29 : decode cX6_still 29 = .ok (.iload_n 3, 1) := by decide +kernel
theorem dX6_still_30 : decode cX6_still 30 = .ok (.aload_n 0, 1) := by decide +kernel
theorem dX6_still_31 : decode cX6_still 31 = .ok (.getfield 12, 3) := by decide +kernel
theorem dX6_still_34 : decode cX6_still 34 = .ok (.invokevirtual 161, 3) := by decide +kernel
theorem dX6_still_37 : decode cX6_still 37 = .ok (.if_icmp .gt 28, 3) := by decide +kernel
theorem dX6_still_40 : decode cX6_still 40 = .ok (.iload_n 3, 1) := by decide +kernel
theorem dX6_still_41 : decode cX6_still 41 = .ok (.iload_n 2, 1) := by decide +kernel
theorem dX6_still_42 : decode cX6_still 42 = .ok (.invokestatic 164, 3) := by decide +kernel
theorem dX6_still_45 : decode cX6_still 45 = .ok (.ifCond .eq 14, 3) := by decide +kernel
theorem dX6_still_48 : decode cX6_still 48 = .ok (.aload_n 0, 1) := by decide +kernel
theorem dX6_still_49 : decode cX6_still 49 = .ok (.iload_n 3, 1) := by decide +kernel
theorem dX6_still_50 : decode cX6_still 50 = .ok (.invokevirtual 170, 3) := by decide +kernel
theorem dX6_still_53 : decode cX6_still 53 = .ok (.iload_n 1, 1) := by decide +kernel
theorem dX6_still_54 : decode cX6_still 54 = .ok (.if_icmp .gt 5, 3) := by decide +kernel
theorem dX6_still_57 : decode cX6_still 57 = .ok (.iload_n 3, 1) := by decide +kernel
theorem dX6_still_58 : decode cX6_still 58 = .ok (.istore_n 2, 1) := by decide +kernel
theorem dX6_still_59 : decode cX6_still 59 = .ok (.iinc 3 1, 3) := by decide +kernel
theorem dX6_still_62 : decode cX6_still 62 = .ok (.goto (-33), 3) := by decide +kernel
theorem dX6_still_65 : decode cX6_still 65 = .ok (.iload_n 2, 1) := by decide +kernel
theorem dX6_still_66 : decode cX6_still 66 = .ok (.ireturn, 1) := by decide +kernel
theorem dX6_hung_0 : decode cX6_hung 0 = .ok (.iload_n 1, 1) := by decide +kernel
theorem dX6_hung_1 : decode cX6_hung 1 = .ok (.ifCond .lt 8, 3) := by decide +kernel
theorem dX6_hung_4 : decode cX6_hung 4 = .ok (.iload_n 1, 1) := by decide +kernel
theorem dX6_hung_5 : decode cX6_hung 5 = .ok (.iconst 1, 1) := by decide +kernel
theorem dX6_hung_6 : decode cX6_hung 6 = .ok (.if_icmp .le 6, 3) := by decide +kernel
theorem dX6_hung_9 : decode cX6_hung 9 = .ok (.bipush (-2), 2) := by decide +kernel
theorem dX6_hung_11 : decode cX6_hung 11 = .ok (.ireturn, 1) := by decide +kernel
theorem dX6_hung_12 : decode cX6_hung 12 = .ok (.aload_n 0, 1) := by decide +kernel
theorem dX6_hung_13 : decode cX6_hung 13 = .ok (.invokevirtual 135, 3) := by decide +kernel
theorem dX6_hung_16 : decode cX6_hung 16 = .ok (.ifCond .eq 6, 3) := by decide +kernel
theorem dX6_hung_19 : decode cX6_hung 19 = .ok (.bipush (-3), 2) := by decide +kernel
theorem dX6_hung_21 : decode cX6_hung 21 = .ok (.ireturn, 1) := by decide +kernel
theorem dX6_hung_22 : decode cX6_hung 22 = .ok (.aload_n 0, 1) := by decide +kernel
theorem dX6_hung_23 : decode cX6_hung 23 = .ok (.invokevirtual 146, 3) := by decide +kernel
theorem dX6_hung_26 : decode cX6_hung 26 = .ok (.bipush 100, 2) := by decide +kernel
theorem dX6_hung_28 : decode cX6_hung 28 = .ok (.invokevirtual 173, 3) := by decide +kernel
theorem dX6_hung_31 : decode cX6_hung 31 = .ok (.istore_n 2, 1) := by decide +kernel
theorem dX6_hung_32 : decode cX6_hung 32 = .ok (.iload_n 2, 1) := by decide +kernel
theorem dX6_hung_33 : decode cX6_hung 33 = .ok (.invokestatic 176, 3) := by decide +kernel
theorem dX6_hung_36 : decode cX6_hung 36 = .ok (.istore_n 3, 1) := by decide +kernel
theorem dX6_hung_37 : decode cX6_hung 37 = .ok (.bipush (-9), 2) := by decide +kernel
theorem dX6_hung_39 : decode cX6_hung 39 = .ok (.istore 4, 2) := by decide +kernel
theorem dX6_hung_41 : decode cX6_hung 41 = .ok (.iconst 0, 1) := by decide +kernel
theorem dX6_hung_42 : decode cX6_hung 42 = .ok (.istore 5, 2) := by decide +kernel
theorem dX6_hung_44 : decode cX6_hung 44 = .ok (.iload 5, 2) := by decide +kernel
theorem dX6_hung_46 : decode cX6_hung 46 = .ok (.aload_n 0, 1) := by decide +kernel
theorem dX6_hung_47 : decode cX6_hung 47 = .ok (.getfield 12, 3) := by decide +kernel
theorem dX6_hung_50 : decode cX6_hung 50 = .ok (.getfield 102, 3) := by decide +kernel
theorem dX6_hung_53 : decode cX6_hung 53 = .ok (.if_icmp .ge 94, 3) := by decide +kernel
theorem dX6_hung_56 : decode cX6_hung 56 = .ok (.iload_n 2, 1) := by decide +kernel
theorem dX6_hung_57 : decode cX6_hung 57 = .ok (.iload 5, 2) := by decide +kernel
theorem dX6_hung_59 : decode cX6_hung 59 = .ok (.ishr, 1) := by decide +kernel
theorem dX6_hung_60 : decode cX6_hung 60 = .ok (.iconst 1, 1) := by decide +kernel
theorem dX6_hung_61 : decode cX6_hung 61 = .ok (.iand, 1) := by decide +kernel
theorem dX6_hung_62 : decode cX6_hung 62 = .ok (.ifCond .ne 6, 3) := by decide +kernel
theorem dX6_hung_65 : decode cX6_hung 65 = .ok (.goto 76, 3) := by decide +kernel
theorem dX6_hung_68 : decode cX6_hung 68 = .ok (.iconst 0, 1) := by decide +kernel
theorem dX6_hung_69 : decode cX6_hung 69 = .ok (.istore 6, 2) := by decide +kernel
theorem dX6_hung_71 : decode cX6_hung 71 = .ok (.iload 6, 2) := by decide +kernel
theorem dX6_hung_73 : decode cX6_hung 73 = .ok (.aload_n 0, 1) := by decide +kernel
theorem dX6_hung_74 : decode cX6_hung 74 = .ok (.getfield 12, 3) := by decide +kernel
theorem dX6_hung_77 : decode cX6_hung 77 = .ok (.getfield 102, 3) := by decide +kernel
theorem dX6_hung_80 : decode cX6_hung 80 = .ok (.if_icmp .ge 61, 3) := by decide +kernel
theorem dX6_hung_83 : decode cX6_hung 83 = .ok (.iconst 1, 1) := by decide +kernel
theorem dX6_hung_84 : decode cX6_hung 84 = .ok (.istore 7, 2) := by decide +kernel
theorem dX6_hung_86 : decode cX6_hung 86 = .ok (.iload 7, 2) := by decide +kernel
theorem dX6_hung_88 : decode cX6_hung 88 = .ok (.iconst 3, 1) := by decide +kernel
theorem dX6_hung_89 : decode cX6_hung 89 = .ok (.if_icmp .gt 46, 3) := by decide +kernel
theorem dX6_hung_92 : decode cX6_hung 92 = .ok (.aload_n 0, 1) := by decide +kernel
theorem dX6_hung_93 : decode cX6_hung 93 = .ok (.iload 5, 2) := by decide +kernel
theorem dX6_hung_95 : decode cX6_hung 95 = .ok (.iload 6, 2) := by decide +kernel
theorem dX6_hung_97 : decode cX6_hung 97 = .ok (.iload 7, 2) := by decide +kernel
theorem dX6_hung_99 : decode cX6_hung 99 = .ok (.invokevirtual 181, 3) := by decide +kernel
theorem dX6_hung_102 : decode cX6_hung 102 = .ok (.istore 8, 2) := by decide +kernel
theorem dX6_hung_104 : decode cX6_hung 104 = .ok (.iload 8, 2) := by decide +kernel
theorem dX6_hung_106 : decode cX6_hung 106 = .ok (.iload_n 3, 1) := by decide +kernel
theorem dX6_hung_107 : decode cX6_hung 107 = .ok (.if_icmp .le 22, 3) := by decide +kernel
theorem dX6_hung_110 : decode cX6_hung 110 = .ok (.iload 8, 2) := by decide +kernel
theorem dX6_hung_112 : decode cX6_hung 112 = .ok (.istore_n 3, 1) := by decide +kernel
theorem dX6_hung_113 : decode cX6_hung 113 = .ok (.bipush 100, 2) := by decide +kernel
theorem dX6_hung_115 : decode cX6_hung 115 = .ok (.iload 5, 2) := by decide +kernel
theorem dX6_hung_117 : decode cX6_hung 117 = .ok (.imul, 1) := by decide +kernel
theorem dX6_hung_118 : decode cX6_hung 118 = .ok (.bipush 10, 2) := by decide +kernel
theorem dX6_hung_120 : decode cX6_hung 120 = .ok (.iload 6, 2) := by decide +kernel
theorem dX6_hung_122 : decode cX6_hung 122 = .ok (.imul, 1) := by decide +kernel
theorem dX6_hung_123 : decode cX6_hung 123 = .ok (.iadd, 1) := by decide +kernel
theorem dX6_hung_124 : decode cX6_hung 124 = .ok (.iload 7, 2) := by decide +kernel
theorem dX6_hung_126 : decode cX6_hung 126 = .ok (.iadd, 1) := by decide +kernel
theorem dX6_hung_127 : decode cX6_hung 127 = .ok (.istore 4, 2) := by decide +kernel
theorem dX6_hung_129 : decode cX6_hung 129 = .ok (.iinc 7 1, 3) := by decide +kernel
theorem dX6_hung_132 : decode cX6_hung 132 = .ok (.goto (-46), 3) := by decide +kernel
theorem dX6_hung_135 : decode cX6_hung 135 = .ok (.iinc 6 1, 3) := by decide +kernel
theorem dX6_hung_138 : decode cX6_hung 138 = .ok (.goto (-67), 3) := by decide +kernel
theorem dX6_hung_141 : decode cX6_hung 141 = .ok (.iinc 5 1, 3) := by decide +kernel
theorem dX6_hung_144 : decode cX6_hung 144 = .ok (.goto (-100), 3) := by decide +kernel
theorem dX6_hung_147 : decode cX6_hung 147 = .ok (.iload_n 1, 1) := by decide +kernel
theorem dX6_hung_148 : decode cX6_hung 148 = .ok (.ifCond .ne 8, 3) := by decide +kernel
theorem dX6_hung_151 : decode cX6_hung 151 = .ok (.iload 4, 2) := by decide +kernel
theorem dX6_hung_153 : decode cX6_hung 153 = .ok (.goto 4, 3) := by decide +kernel
theorem dX6_hung_156 : decode cX6_hung 156 = .ok (.iload_n 3, 1) := by decide +kernel
theorem dX6_hung_157 : decode cX6_hung 157 = .ok (.ireturn, 1) := by decide +kernel
theorem dX6_cut_0 : decode cX6_cut 0 = .ok (.aload_n 0, 1) := by decide +kernel
theorem dX6_cut_1 : decode cX6_cut 1 = .ok (.invokevirtual 135, 3) := by decide +kernel
theorem dX6_cut_4 : decode cX6_cut 4 = .ok (.ifCond .eq 6, 3) := by decide +kernel
theorem dX6_cut_7 : decode cX6_cut 7 = .ok (.bipush (-3), 2) := by decide +kernel
theorem dX6_cut_9 : decode cX6_cut 9 = .ok (.ireturn, 1) := by decide +kernel
theorem dX6_cut_10 : decode cX6_cut 10 = .ok (.aload_n 0, 1) := by decide +kernel
theorem dX6_cut_11 : decode cX6_cut 11 = .ok (.invokevirtual 146, 3) := by decide +kernel
theorem dX6_cut_14 : decode cX6_cut 14 = .ok (.bipush 100, 2) := by decide +kernel
theorem dX6_cut_16 : decode cX6_cut 16 = .ok (.invokevirtual 173, 3) := by decide +kernel
theorem dX6_cut_19 : decode cX6_cut 19 = .ok (.invokestatic 176, 3) := by decide +kernel
theorem dX6_cut_22 : decode cX6_cut 22 = .ok (.istore_n 1, 1) := by decide +kernel
theorem dX6_cut_23 : decode cX6_cut 23 = .ok (.iconst 0, 1) := by decide +kernel
theorem dX6_cut_24 : decode cX6_cut 24 = .ok (.istore_n 2, 1) := by decide +kernel
theorem dX6_cut_25 : decode cX6_cut 25 = .ok (.iconst 0, 1) := by decide +kernel
theorem dX6_cut_26 : decode cX6_cut 26 = .ok (.istore_n 3, 1) := by decide +kernel
theorem dX6_cut_27 : decode cX6_cut 27 = .ok (.iload_n 3, 1) := by decide +kernel
theorem dX6_cut_28 : decode cX6_cut 28 = .ok (.aload_n 0, 1) := by decide +kernel
theorem dX6_cut_29 : decode cX6_cut 29 = .ok (.getfield 12, 3) := by decide +kernel
theorem dX6_cut_32 : decode cX6_cut 32 = .ok (.getfield 120, 3) := by decide +kernel
theorem dX6_cut_35 : decode cX6_cut 35 = .ok (.if_icmp .ge 38, 3) := by decide +kernel
theorem dX6_cut_38 : decode cX6_cut 38 = .ok (.aload_n 0, 1) := by decide +kernel
theorem dX6_cut_39 : decode cX6_cut 39 = .ok (.iload_n 3, 1) := by decide +kernel
theorem dX6_cut_40 : decode cX6_cut 40 = .ok (.bipush 100, 2) := by decide +kernel
theorem dX6_cut_42 : decode cX6_cut 42 = .ok (.invokevirtual 184, 3) := by decide +kernel
theorem dX6_cut_45 : decode cX6_cut 45 = .ok (.aload_n 0, 1) := by decide +kernel
theorem dX6_cut_46 : decode cX6_cut 46 = .ok (.getfield 51, 3) := by decide +kernel
theorem dX6_cut_49 : decode cX6_cut 49 = .ok (.bipush 100, 2) := by decide +kernel
theorem dX6_cut_51 : decode cX6_cut 51 = .ok (.invokevirtual 173, 3) := by decide +kernel
theorem dX6_cut_54 : decode cX6_cut 54 = .ok (.invokestatic 176, 3) := by decide +kernel
theorem dX6_cut_57 : decode cX6_cut 57 = .ok (.iload_n 1, 1) := by decide +kernel
theorem dX6_cut_58 : decode cX6_cut 58 = .ok (.if_icmp .ge 9, 3) := by decide +kernel
theorem dX6_cut_61 : decode cX6_cut 61 = .ok (.iload_n 2, 1) := by decide +kernel
theorem dX6_cut_62 : decode cX6_cut 62 = .ok (.iconst 1, 1) := by decide +kernel
theorem dX6_cut_63 : decode cX6_cut 63 = .ok (.iload_n 3, 1) := by decide +kernel
theorem dX6_cut_64 : decode cX6_cut 64 = .ok (.ishl, 1) := by decide +kernel
theorem dX6_cut_65 : decode cX6_cut 65 = .ok (.ior, 1) := by decide +kernel
theorem dX6_cut_66 : decode cX6_cut 66 = .ok (.istore_n 2, 1) := by decide +kernel
theorem dX6_cut_67 : decode cX6_cut 67 = .ok (.iinc 3 1, 3) := by decide +kernel
theorem dX6_cut_70 : decode cX6_cut 70 = .ok (.goto (-43), 3) := by decide +kernel
theorem dX6_cut_73 : decode cX6_cut 73 = .ok (.iload_n 2, 1) := by decide +kernel
theorem dX6_cut_74 : decode cX6_cut 74 = .ok (.ireturn, 1) := by decide +kernel
theorem dX6_reading_0 : decode cX6_reading 0 = .ok (.aload_n 0, 1) := by decide +kernel
theorem dX6_reading_1 : decode cX6_reading 1 = .ok (.getfield 12, 3) := by decide +kernel
theorem dX6_reading_4 : decode cX6_reading 4 = .ok (.iload_n 1, 1) := by decide +kernel
theorem dX6_reading_5 : decode cX6_reading 5 = .ok (.invokevirtual 105, 3) := by decide +kernel
theorem dX6_reading_8 : decode cX6_reading 8 = .ok (.ifCond .ne 5, 3) := by decide +kernel
theorem dX6_reading_11 : decode cX6_reading 11 = .ok (.iconst (-1), 1) := by decide +kernel
theorem dX6_reading_12 : decode cX6_reading 12 = .ok (.ireturn, 1) := by decide +kernel
theorem dX6_reading_13 : decode cX6_reading 13 = .ok (.iload_n 2, 1) := by decide +kernel
theorem dX6_reading_14 : decode cX6_reading 14 = .ok (.ifCond .lt 10, 3) := by decide +kernel
theorem dX6_reading_17 : decode cX6_reading 17 = .ok (.iload_n 2, 1) := by decide +kernel
theorem dX6_reading_18 : decode cX6_reading 18 = .ok (.sipush 400, 3) := by decide +kernel
theorem dX6_reading_21 : decode cX6_reading 21 = .ok (.if_icmp .lt 6, 3) := by decide +kernel
theorem dX6_reading_24 : decode cX6_reading 24 = .ok (.bipush (-2), 2) := by decide +kernel
theorem dX6_reading_26 : decode cX6_reading 26 = .ok (.ireturn, 1) := by decide +kernel
theorem dX6_reading_27 : decode cX6_reading 27 = .ok (.aload_n 0, 1) := by decide +kernel
theorem dX6_reading_28 : decode cX6_reading 28 = .ok (.getfield 38, 3) := by decide +kernel
theorem dX6_reading_31 : decode cX6_reading 31 = .ok (.getfield 97, 3) := by decide +kernel
theorem dX6_reading_34 : decode cX6_reading 34 = .ok (.bipush 6, 2) := by decide +kernel
theorem dX6_reading_36 : decode cX6_reading 36 = .ok (.if_icmp .lt 6, 3) := by decide +kernel
theorem dX6_reading_39 : decode cX6_reading 39 = .ok (.bipush (-4), 2) := by decide +kernel
theorem dX6_reading_41 : decode cX6_reading 41 = .ok (.ireturn, 1) := by decide +kernel
theorem dX6_reading_42 : decode cX6_reading 42 = .ok (.aload_n 0, 1) := by decide +kernel
theorem dX6_reading_43 : decode cX6_reading 43 = .ok (.getfield 38, 3) := by decide +kernel
theorem dX6_reading_46 : decode cX6_reading 46 = .ok (.iload_n 1, 1) := by decide +kernel
theorem dX6_reading_47 : decode cX6_reading 47 = .ok (.iload_n 2, 1) := by decide +kernel
theorem dX6_reading_48 : decode cX6_reading 48 = .ok (.iload_n 3, 1) := by decide +kernel
theorem dX6_reading_49 : decode cX6_reading 49 = .ok (.invokevirtual 188, 3) := by decide +kernel
theorem dX6_reading_52 : decode cX6_reading 52 = .ok (.aload_n 0, 1) := by decide +kernel
theorem dX6_reading_53 : decode cX6_reading 53 = .ok (.getfield 38, 3) := by decide +kernel
theorem dX6_reading_56 : decode cX6_reading 56 = .ok (.getfield 97, 3) := by decide +kernel
theorem dX6_reading_59 : decode cX6_reading 59 = .ok (.iconst 1, 1) := by decide +kernel
theorem dX6_reading_60 : decode cX6_reading 60 = .ok (.isub, 1) := by decide +kernel
theorem dX6_reading_61 : decode cX6_reading 61 = .ok (.ireturn, 1) := by decide +kernel
theorem dX6_back_0 : decode cX6_back 0 = .ok (.iload_n 1, 1) := by decide +kernel
theorem dX6_back_1 : decode cX6_back 1 = .ok (.ifCond .lt 14, 3) := by decide +kernel
theorem dX6_back_4 : decode cX6_back 4 = .ok (.iload_n 1, 1) := by decide +kernel
theorem dX6_back_5 : decode cX6_back 5 = .ok (.aload_n 0, 1) := by decide +kernel
theorem dX6_back_6 : decode cX6_back 6 = .ok (.getfield 38, 3) := by decide +kernel
theorem dX6_back_9 : decode cX6_back 9 = .ok (.getfield 97, 3) := by decide +kernel
theorem dX6_back_12 : decode cX6_back 12 = .ok (.if_icmp .le 6, 3) := by decide +kernel
theorem dX6_back_15 : decode cX6_back 15 = .ok (.bipush (-2), 2) := by decide +kernel
theorem dX6_back_17 : decode cX6_back 17 = .ok (.ireturn, 1) := by decide +kernel
theorem dX6_back_18 : decode cX6_back 18 = .ok (.aload_n 0, 1) := by decide +kernel
theorem dX6_back_19 : decode cX6_back 19 = .ok (.getfield 38, 3) := by decide +kernel
theorem dX6_back_22 : decode cX6_back 22 = .ok (.dup, 1) := by decide +kernel
theorem dX6_back_23 : decode cX6_back 23 = .ok (.getfield 97, 3) := by decide +kernel
theorem dX6_back_26 : decode cX6_back 26 = .ok (.iload_n 1, 1) := by decide +kernel
theorem dX6_back_27 : decode cX6_back 27 = .ok (.isub, 1) := by decide +kernel
theorem dX6_back_28 : decode cX6_back 28 = .ok (.putfield 97, 3) := by decide +kernel
theorem dX6_back_31 : decode cX6_back 31 = .ok (.aload_n 0, 1) := by decide +kernel
theorem dX6_back_32 : decode cX6_back 32 = .ok (.getfield 38, 3) := by decide +kernel
theorem dX6_back_35 : decode cX6_back 35 = .ok (.getfield 97, 3) := by decide +kernel
theorem dX6_back_38 : decode cX6_back 38 = .ok (.ireturn, 1) := by decide +kernel
theorem dX6_first_0 : decode cX6_first 0 = .ok (.aload_n 0, 1) := by decide +kernel
theorem dX6_first_1 : decode cX6_first 1 = .ok (.invokevirtual 135, 3) := by decide +kernel
theorem dX6_first_4 : decode cX6_first 4 = .ok (.ifCond .eq 6, 3) := by decide +kernel
theorem dX6_first_7 : decode cX6_first 7 = .ok (.bipush (-3), 2) := by decide +kernel
theorem dX6_first_9 : decode cX6_first 9 = .ok (.ireturn, 1) := by decide +kernel
theorem dX6_first_10 : decode cX6_first 10 = .ok (.iconst 0, 1) := by decide +kernel
theorem dX6_first_11 : decode cX6_first 11 = .ok (.istore_n 1, 1) := by decide +kernel
theorem dX6_first_12 : decode cX6_first 12 = .ok (.iconst 0, 1) := by decide +kernel
theorem dX6_first_13 : decode cX6_first 13 = .ok (.istore_n 2, 1) := by decide +kernel
theorem dX6_first_14 : decode cX6_first 14 = .ok (.iload_n 2, 1) := by decide +kernel
theorem dX6_first_15 : decode cX6_first 15 = .ok (.aload_n 0, 1) := by decide +kernel
theorem dX6_first_16 : decode cX6_first 16 = .ok (.getfield 12, 3) := by decide +kernel
theorem dX6_first_19 : decode cX6_first 19 = .ok (.getfield 102, 3) := by decide +kernel
theorem dX6_first_22 : decode cX6_first 22 = .ok (.if_icmp .ge 39, 3) := by decide +kernel
theorem dX6_first_25 : decode cX6_first 25 = .ok (.aload_n 0, 1) := by decide +kernel
theorem dX6_first_26 : decode cX6_first 26 = .ok (.iconst 1, 1) := by decide +kernel
theorem dX6_first_27 : decode cX6_first 27 = .ok (.iload_n 2, 1) := by decide +kernel
theorem dX6_first_28 : decode cX6_first 28 = .ok (.ishl, 1) := by decide +kernel
theorem dX6_first_29 : decode cX6_first 29 = .ok (.sipush 400, 3) := by decide +kernel
theorem dX6_first_32 : decode cX6_first 32 = .ok (.invokevirtual 191, 3) := by decide +kernel
theorem dX6_first_35 : decode cX6_first 35 = .ok (.aload_n 0, 1) := by decide +kernel
theorem dX6_first_36 : decode cX6_first 36 = .ok (.getfield 38, 3) := by decide +kernel
theorem dX6_first_39 : decode cX6_first 39 = .ok (.aload_n 0, 1) := by decide +kernel
theorem dX6_first_40 : decode cX6_first 40 = .ok (.getfield 51, 3) := by decide +kernel
theorem dX6_first_43 : decode cX6_first 43 = .ok (.invokevirtual 194, 3) := by decide +kernel
theorem dX6_first_46 : decode cX6_first 46 = .ok (.ifCond .eq 9, 3) := by decide +kernel
theorem dX6_first_49 : decode cX6_first 49 = .ok (.iload_n 1, 1) := by decide +kernel
theorem dX6_first_50 : decode cX6_first 50 = .ok (.iconst 1, 1) := by decide +kernel
theorem dX6_first_51 : decode cX6_first 51 = .ok (.iload_n 2, 1) := by decide +kernel
theorem dX6_first_52 : decode cX6_first 52 = .ok (.ishl, 1) := by decide +kernel
theorem dX6_first_53 : decode cX6_first 53 = .ok (.ior, 1) := by decide +kernel
theorem dX6_first_54 : decode cX6_first 54 = .ok (.istore_n 1, 1) := by decide +kernel
theorem dX6_first_55 : decode cX6_first 55 = .ok (.iinc 2 1, 3) := by decide +kernel
theorem dX6_first_58 : decode cX6_first 58 = .ok (.goto (-44), 3) := by decide +kernel
theorem dX6_first_61 : decode cX6_first 61 = .ok (.iload_n 1, 1) := by decide +kernel
theorem dX6_first_62 : decode cX6_first 62 = .ok (.ireturn, 1) := by decide +kernel
theorem dX6_gone_0 : decode cX6_gone 0 = .ok (.aload_n 0, 1) := by decide +kernel
theorem dX6_gone_1 : decode cX6_gone 1 = .ok (.invokevirtual 135, 3) := by decide +kernel
theorem dX6_gone_4 : decode cX6_gone 4 = .ok (.ifCond .eq 6, 3) := by decide +kernel
theorem dX6_gone_7 : decode cX6_gone 7 = .ok (.bipush (-3), 2) := by decide +kernel
theorem dX6_gone_9 : decode cX6_gone 9 = .ok (.ireturn, 1) := by decide +kernel
theorem dX6_gone_10 : decode cX6_gone 10 = .ok (.iconst 0, 1) := by decide +kernel
theorem dX6_gone_11 : decode cX6_gone 11 = .ok (.istore_n 1, 1) := by decide +kernel
theorem dX6_gone_12 : decode cX6_gone 12 = .ok (.iconst 0, 1) := by decide +kernel
theorem dX6_gone_13 : decode cX6_gone 13 = .ok (.istore_n 2, 1) := by decide +kernel
theorem dX6_gone_14 : decode cX6_gone 14 = .ok (.iload_n 2, 1) := by decide +kernel
theorem dX6_gone_15 : decode cX6_gone 15 = .ok (.aload_n 0, 1) := by decide +kernel
theorem dX6_gone_16 : decode cX6_gone 16 = .ok (.getfield 12, 3) := by decide +kernel
theorem dX6_gone_19 : decode cX6_gone 19 = .ok (.getfield 120, 3) := by decide +kernel
theorem dX6_gone_22 : decode cX6_gone 22 = .ok (.if_icmp .ge 37, 3) := by decide +kernel
theorem dX6_gone_25 : decode cX6_gone 25 = .ok (.aload_n 0, 1) := by decide +kernel
theorem dX6_gone_26 : decode cX6_gone 26 = .ok (.iload_n 2, 1) := by decide +kernel
theorem dX6_gone_27 : decode cX6_gone 27 = .ok (.sipush 400, 3) := by decide +kernel
theorem dX6_gone_30 : decode cX6_gone 30 = .ok (.invokevirtual 184, 3) := by decide +kernel
theorem dX6_gone_33 : decode cX6_gone 33 = .ok (.aload_n 0, 1) := by decide +kernel
theorem dX6_gone_34 : decode cX6_gone 34 = .ok (.getfield 38, 3) := by decide +kernel
theorem dX6_gone_37 : decode cX6_gone 37 = .ok (.aload_n 0, 1) := by decide +kernel
theorem dX6_gone_38 : decode cX6_gone 38 = .ok (.getfield 51, 3) := by decide +kernel
theorem dX6_gone_41 : decode cX6_gone 41 = .ok (.invokevirtual 194, 3) := by decide +kernel
theorem dX6_gone_44 : decode cX6_gone 44 = .ok (.ifCond .eq 9, 3) := by decide +kernel
theorem dX6_gone_47 : decode cX6_gone 47 = .ok (.iload_n 1, 1) := by decide +kernel
theorem dX6_gone_48 : decode cX6_gone 48 = .ok (.iconst 1, 1) := by decide +kernel
theorem dX6_gone_49 : decode cX6_gone 49 = .ok (.iload_n 2, 1) := by decide +kernel
theorem dX6_gone_50 : decode cX6_gone 50 = .ok (.ishl, 1) := by decide +kernel
theorem dX6_gone_51 : decode cX6_gone 51 = .ok (.ior, 1) := by decide +kernel
theorem dX6_gone_52 : decode cX6_gone 52 = .ok (.istore_n 1, 1) := by decide +kernel
theorem dX6_gone_53 : decode cX6_gone 53 = .ok (.iinc 2 1, 3) := by decide +kernel
theorem dX6_gone_56 : decode cX6_gone 56 = .ok (.goto (-42), 3) := by decide +kernel
theorem dX6_gone_59 : decode cX6_gone 59 = .ok (.iload_n 1, 1) := by decide +kernel
theorem dX6_gone_60 : decode cX6_gone 60 = .ok (.ireturn, 1) := by decide +kernel
theorem dX6_sneezes_0 : decode cX6_sneezes 0 = .ok (.iload_n 1, 1) := by decide +kernel
theorem dX6_sneezes_1 : decode cX6_sneezes 1 = .ok (.ifCond .lt 15, 3) := by decide +kernel
theorem dX6_sneezes_4 : decode cX6_sneezes 4 = .ok (.iload_n 1, 1) := by decide +kernel
theorem dX6_sneezes_5 : decode cX6_sneezes 5 = .ok (.iconst 1, 1) := by decide +kernel
theorem dX6_sneezes_6 : decode cX6_sneezes 6 = .ok (.if_icmp .gt 10, 3) := by decide +kernel
theorem dX6_sneezes_9 : decode cX6_sneezes 9 = .ok (.aload_n 0, 1) := by decide +kernel
theorem dX6_sneezes_10 : decode cX6_sneezes 10 = .ok (.invokevirtual 135, 3) := by decide +kernel
theorem dX6_sneezes_13 : decode cX6_sneezes 13 = .ok (.ifCond .eq 7, 3) := by decide +kernel
theorem dX6_sneezes_16 : decode cX6_sneezes 16 = .ok (.ldc2_w 198, 3) := by decide +kernel
theorem dX6_sneezes_19 : decode cX6_sneezes 19 = .ok (.lreturn, 1) := by decide +kernel
theorem dX6_sneezes_20 : decode cX6_sneezes 20 = .ok (.aload_n 0, 1) := by decide +kernel
theorem dX6_sneezes_21 : decode cX6_sneezes 21 = .ok (.getfield 12, 3) := by decide +kernel
theorem dX6_sneezes_24 : decode cX6_sneezes 24 = .ok (.invokevirtual 161, 3) := by decide +kernel
theorem dX6_sneezes_27 : decode cX6_sneezes 27 = .ok (.aload_n 0, 1) := by decide +kernel
theorem dX6_sneezes_28 : decode cX6_sneezes 28 = .ok (.getfield 12, 3) := by decide +kernel
theorem dX6_sneezes_31 : decode cX6_sneezes 31 = .ok (.getfield 132, 3) := by decide +kernel
theorem dX6_sneezes_34 : decode cX6_sneezes 34 = .ok (.iconst (-1), 1) := by decide +kernel
theorem dX6_sneezes_35 : decode cX6_sneezes 35 = .ok (.ixor, 1) := by decide +kernel
theorem dX6_sneezes_36 : decode cX6_sneezes 36 = .ok (.iand, 1) := by decide +kernel
theorem dX6_sneezes_37 : decode cX6_sneezes 37 = .ok (.istore_n 2, 1) := by decide +kernel
theorem dX6_sneezes_38 : decode cX6_sneezes 38 = .ok (.iconst 0, 1) := by decide +kernel
theorem dX6_sneezes_39 : decode cX6_sneezes 39 = .ok (.istore_n 3, 1) := by decide +kernel
theorem dX6_sneezes_40 : decode cX6_sneezes 40 = .ok (.iconst 0, 1) := by decide +kernel
theorem dX6_sneezes_41 : decode cX6_sneezes 41 = .ok (.istore 4, 2) := by decide +kernel
theorem dX6_sneezes_43 : decode cX6_sneezes 43 = .ok (.iload 4, 2) := by decide +kernel
theorem dX6_sneezes_45 : decode cX6_sneezes 45 = .ok (.aload_n 0, 1) := by decide +kernel
theorem dX6_sneezes_46 : decode cX6_sneezes 46 = .ok (.getfield 12, 3) := by decide +kernel
theorem dX6_sneezes_49 : decode cX6_sneezes 49 = .ok (.invokevirtual 161, 3) := by decide +kernel
theorem dX6_sneezes_52 : decode cX6_sneezes 52 = .ok (.if_icmp .gt 25, 3) := by decide +kernel
theorem dX6_sneezes_55 : decode cX6_sneezes 55 = .ok (.iload_n 2, 1) := by decide +kernel
theorem dX6_sneezes_56 : decode cX6_sneezes 56 = .ok (.aload_n 0, 1) := by decide +kernel
theorem dX6_sneezes_57 : decode cX6_sneezes 57 = .ok (.iload 4, 2) := by decide +kernel
theorem dX6_sneezes_59 : decode cX6_sneezes 59 = .ok (.invokevirtual 167, 3) := by decide +kernel
theorem dX6_sneezes_62 : decode cX6_sneezes 62 = .ok (.iconst (-1), 1) := by decide +kernel
theorem dX6_sneezes_63 : decode cX6_sneezes 63 = .ok (.ixor, 1) := by decide +kernel
theorem dX6_sneezes_64 : decode cX6_sneezes 64 = .ok (.iand, 1) := by decide +kernel
theorem dX6_sneezes_65 : decode cX6_sneezes 65 = .ok (.ifCond .ne 6, 3) := by decide +kernel
theorem dX6_sneezes_68 : decode cX6_sneezes 68 = .ok (.iinc 3 1, 3) := by decide +kernel
theorem dX6_sneezes_71 : decode cX6_sneezes 71 = .ok (.iinc 4 1, 3) := by decide +kernel
theorem dX6_sneezes_74 : decode cX6_sneezes 74 = .ok (.goto (-31), 3) := by decide +kernel
theorem dX6_sneezes_77 : decode cX6_sneezes 77 = .ok (.aload_n 0, 1) := by decide +kernel
theorem dX6_sneezes_78 : decode cX6_sneezes 78 = .ok (.getfield 12, 3) := by decide +kernel
theorem dX6_sneezes_81 : decode cX6_sneezes 81 = .ok (.invokevirtual 161, 3) := by decide +kernel
theorem dX6_sneezes_84 : decode cX6_sneezes 84 = .ok (.iconst 1, 1) := by decide +kernel
theorem dX6_sneezes_85 : decode cX6_sneezes 85 = .ok (.iadd, 1) := by decide +kernel
theorem dX6_sneezes_86 : decode cX6_sneezes 86 = .ok (.istore 4, 2) := by decide +kernel
theorem dX6_sneezes_88 : decode cX6_sneezes 88 = .ok (.iload 4, 2) := by decide +kernel
theorem dX6_sneezes_90 : decode cX6_sneezes 90 = .ok (.iconst 1, 1) := by decide +kernel
theorem dX6_sneezes_91 : decode cX6_sneezes 91 = .ok (.if_icmp .le 22, 3) := by decide +kernel
theorem dX6_sneezes_94 : decode cX6_sneezes 94 = .ok (.iload_n 3, 1) := by decide +kernel
theorem dX6_sneezes_95 : decode cX6_sneezes 95 = .ok (.iconst 2, 1) := by decide +kernel
theorem dX6_sneezes_96 : decode cX6_sneezes 96 = .ok (.irem, 1) := by decide +kernel
theorem dX6_sneezes_97 : decode cX6_sneezes 97 = .ok (.ifCond .ne 16, 3) := by decide +kernel
theorem dX6_sneezes_100 : decode cX6_sneezes 100 = .ok (.iload_n 3, 1) := by decide +kernel
theorem dX6_sneezes_101 : decode cX6_sneezes 101 = .ok (.iconst 2, 1) := by decide +kernel
theorem dX6_sneezes_102 : decode cX6_sneezes 102 = .ok (.idiv, 1) := by decide +kernel
theorem dX6_sneezes_103 : decode cX6_sneezes 103 = .ok (.istore_n 3, 1) := by decide +kernel
theorem dX6_sneezes_104 : decode cX6_sneezes 104 = .ok (.iload 4, 2) := by decide +kernel
theorem dX6_sneezes_106 : decode cX6_sneezes 106 = .ok (.iconst 2, 1) := by decide +kernel
theorem dX6_sneezes_107 : decode cX6_sneezes 107 = .ok (.idiv, 1) := by decide +kernel
theorem dX6_sneezes_108 : decode cX6_sneezes 108 = .ok (.istore 4, 2) := by decide +kernel
theorem dX6_sneezes_110 : decode cX6_sneezes 110 = .ok (.goto (-22), 3) := by decide +kernel
theorem dX6_sneezes_113 : decode cX6_sneezes 113 = .ok (.iload_n 1, 1) := by decide +kernel
theorem dX6_sneezes_114 : decode cX6_sneezes 114 = .ok (.ifCond .ne 8, 3) := by decide +kernel
theorem dX6_sneezes_117 : decode cX6_sneezes 117 = .ok (.iload_n 3, 1) := by decide +kernel
theorem dX6_sneezes_118 : decode cX6_sneezes 118 = .ok (.i2l, 1) := by decide +kernel
theorem dX6_sneezes_119 : decode cX6_sneezes 119 = .ok (.goto 6, 3) := by decide +kernel
theorem dX6_sneezes_122 : decode cX6_sneezes 122 = .ok (.iload 4, 2) := by decide +kernel
theorem dX6_sneezes_124 : decode cX6_sneezes 124 = .ok (.i2l, 1) := by decide +kernel
theorem dX6_sneezes_125 : decode cX6_sneezes 125 = .ok (.lreturn, 1) := by decide +kernel
theorem dX6_tune_0 : decode cX6_tune 0 = .ok (.aload_n 0, 1) := by decide +kernel
theorem dX6_tune_1 : decode cX6_tune 1 = .ok (.iconst 0, 1) := by decide +kernel
theorem dX6_tune_2 : decode cX6_tune 2 = .ok (.putfield 61, 3) := by decide +kernel
theorem dX6_tune_5 : decode cX6_tune 5 = .ok (.iload_n 1, 1) := by decide +kernel
theorem dX6_tune_6 : decode cX6_tune 6 = .ok (.invokestatic 65, 3) := by decide +kernel
theorem dX6_tune_9 : decode cX6_tune 9 = .ok (.ifCond .ne 5, 3) := by decide +kernel
theorem dX6_tune_12 : decode cX6_tune 12 = .ok (.iconst (-1), 1) := by decide +kernel
theorem dX6_tune_13 : decode cX6_tune 13 = .ok (.ireturn, 1) := by decide +kernel
theorem dX6_tune_14 : decode cX6_tune 14 = .ok (.iload_n 2, 1) := by decide +kernel
theorem dX6_tune_15 : decode cX6_tune 15 = .ok (.invokestatic 69, 3) := by decide +kernel
theorem dX6_tune_18 : decode cX6_tune 18 = .ok (.ifCond .ne 6, 3) := by decide +kernel
theorem dX6_tune_21 : decode cX6_tune 21 = .ok (.bipush (-2), 2) := by decide +kernel
theorem dX6_tune_23 : decode cX6_tune 23 = .ok (.ireturn, 1) := by decide +kernel
theorem dX6_tune_24 : decode cX6_tune 24 = .ok (.aload_n 0, 1) := by decide +kernel
theorem dX6_tune_25 : decode cX6_tune 25 = .ok (.invokevirtual 135, 3) := by decide +kernel
theorem dX6_tune_28 : decode cX6_tune 28 = .ok (.ifCond .eq 6, 3) := by decide +kernel
theorem dX6_tune_31 : decode cX6_tune 31 = .ok (.bipush (-3), 2) := by decide +kernel
theorem dX6_tune_33 : decode cX6_tune 33 = .ok (.ireturn, 1) := by decide +kernel
theorem dX6_tune_34 : decode cX6_tune 34 = .ok (.aload_n 0, 1) := by decide +kernel
theorem dX6_tune_35 : decode cX6_tune 35 = .ok (.getfield 56, 3) := by decide +kernel
theorem dX6_tune_38 : decode cX6_tune 38 = .ok (.iload_n 1, 1) := by decide +kernel
theorem dX6_tune_39 : decode cX6_tune 39 = .ok (.aaload, 1) := by decide +kernel
theorem dX6_tune_40 : decode cX6_tune 40 = .ok (.iload_n 2, 1) := by decide +kernel
theorem dX6_tune_41 : decode cX6_tune 41 = .ok (.iload_n 3, 1) := by decide +kernel
theorem dX6_tune_42 : decode cX6_tune 42 = .ok (.iload 4, 2) := by decide +kernel
theorem dX6_tune_44 : decode cX6_tune 44 = .ok (.invokevirtual 72, 3) := by decide +kernel
theorem dX6_tune_47 : decode cX6_tune 47 = .ok (.istore 5, 2) := by decide +kernel
theorem dX6_tune_49 : decode cX6_tune 49 = .ok (.iload 5, 2) := by decide +kernel
theorem dX6_tune_51 : decode cX6_tune 51 = .ok (.ifCond .eq 10, 3) := by decide +kernel
theorem dX6_tune_54 : decode cX6_tune 54 = .ok (.aload_n 0, 1) := by decide +kernel
theorem dX6_tune_55 : decode cX6_tune 55 = .ok (.iload 5, 2) := by decide +kernel
theorem dX6_tune_57 : decode cX6_tune 57 = .ok (.invokevirtual 76, 3) := by decide +kernel
theorem dX6_tune_60 : decode cX6_tune 60 = .ok (.ireturn, 1) := by decide +kernel
theorem dX6_tune_61 : decode cX6_tune 61 = .ok (.iload 4, 2) := by decide +kernel
theorem dX6_tune_63 : decode cX6_tune 63 = .ok (.iconst 1, 1) := by decide +kernel
theorem dX6_tune_64 : decode cX6_tune 64 = .ok (.if_icmp .lt 10, 3) := by decide +kernel
theorem dX6_tune_67 : decode cX6_tune 67 = .ok (.iload 4, 2) := by decide +kernel
theorem dX6_tune_69 : decode cX6_tune 69 = .ok (.bipush 8, 2) := by decide +kernel
theorem dX6_tune_71 : decode cX6_tune 71 = .ok (.if_icmp .le 6, 3) := by decide +kernel
theorem dX6_tune_74 : decode cX6_tune 74 = .ok (.bipush (-2), 2) := by decide +kernel
theorem dX6_tune_76 : decode cX6_tune 76 = .ok (.ireturn, 1) := by decide +kernel
theorem dX6_tune_77 : decode cX6_tune 77 = .ok (.iconst 0, 1) := by decide +kernel
theorem dX6_tune_78 : decode cX6_tune 78 = .ok (.istore 6, 2) := by decide +kernel
theorem dX6_tune_80 : decode cX6_tune 80 = .ok (.iload 6, 2) := by decide +kernel
theorem dX6_tune_82 : decode cX6_tune 82 = .ok (.iload 4, 2) := by decide +kernel
theorem dX6_tune_84 : decode cX6_tune 84 = .ok (.if_icmp .ge 35, 3) := by decide +kernel
theorem dX6_tune_87 : decode cX6_tune 87 = .ok (.aload_n 0, 1) := by decide +kernel
theorem dX6_tune_88 : decode cX6_tune 88 = .ok (.getfield 12, 3) := by decide +kernel
theorem dX6_tune_91 : decode cX6_tune 91 = .ok (.aload_n 0, 1) := by decide +kernel
theorem dX6_tune_92 : decode cX6_tune 92 = .ok (.getfield 56, 3) := by decide +kernel
theorem dX6_tune_95 : decode cX6_tune 95 = .ok (.iload_n 1, 1) := by decide +kernel
theorem dX6_tune_96 : decode cX6_tune 96 = .ok (.aaload, 1) := by decide +kernel
theorem dX6_tune_97 : decode cX6_tune 97 = .ok (.getfield 80, 3) := by decide +kernel
theorem dX6_tune_100 : decode cX6_tune 100 = .ok (.iload_n 3, 1) := by decide +kernel
theorem dX6_tune_101 : decode cX6_tune 101 = .ok (.iload 6, 2) := by decide +kernel
theorem dX6_tune_103 : decode cX6_tune 103 = .ok (.iadd, 1) := by decide +kernel
theorem dX6_tune_104 : decode cX6_tune 104 = .ok (.iaload, 1) := by decide +kernel
theorem dX6_tune_105 : decode cX6_tune 105 = .ok (.invokevirtual 105, 3) := by decide +kernel
theorem dX6_tune_108 : decode cX6_tune 108 = .ok (.ifCond .ne 5, 3) := by decide +kernel
theorem dX6_tune_111 : decode cX6_tune 111 = .ok (.iconst (-1), 1) := by decide +kernel
theorem dX6_tune_112 : decode cX6_tune 112 = .ok (.ireturn, 1) := by decide +kernel
theorem dX6_tune_113 : decode cX6_tune 113 = .ok (.iinc 6 1, 3) := by decide +kernel
theorem dX6_tune_116 : decode cX6_tune 116 = .ok (.goto (-36), 3) := by decide +kernel
theorem dX6_tune_119 : decode cX6_tune 119 = .ok (.aload_n 0, 1) := by decide +kernel
theorem dX6_tune_120 : decode cX6_tune 120 = .ok (.aload_n 0, 1) := by decide +kernel
theorem dX6_tune_121 : decode cX6_tune 121 = .ok (.getfield 56, 3) := by decide +kernel
theorem dX6_tune_124 : decode cX6_tune 124 = .ok (.iload_n 1, 1) := by decide +kernel
theorem dX6_tune_125 : decode cX6_tune 125 = .ok (.aaload, 1) := by decide +kernel
theorem dX6_tune_126 : decode cX6_tune 126 = .ok (.getfield 80, 3) := by decide +kernel
theorem dX6_tune_129 : decode cX6_tune 129 = .ok (.iload_n 3, 1) := by decide +kernel
theorem dX6_tune_130 : decode cX6_tune 130 = .ok (.iload 4, 2) := by decide +kernel
theorem dX6_tune_132 : decode cX6_tune 132 = .ok (.invokevirtual 200, 3) := by decide +kernel
theorem dX6_tune_135 : decode cX6_tune 135 = .ok (.ireturn, 1) := by decide +kernel
theorem dX6_sheet_0 : decode cX6_sheet 0 = .ok (.aload_n 0, 1) := by decide +kernel
theorem dX6_sheet_1 : decode cX6_sheet 1 = .ok (.iconst 0, 1) := by decide +kernel
theorem dX6_sheet_2 : decode cX6_sheet 2 = .ok (.putfield 61, 3) := by decide +kernel
theorem dX6_sheet_5 : decode cX6_sheet 5 = .ok (.iload_n 1, 1) := by decide +kernel
theorem dX6_sheet_6 : decode cX6_sheet 6 = .ok (.invokestatic 65, 3) := by decide +kernel
theorem dX6_sheet_9 : decode cX6_sheet 9 = .ok (.ifCond .ne 5, 3) := by decide +kernel
theorem dX6_sheet_12 : decode cX6_sheet 12 = .ok (.iconst (-1), 1) := by decide +kernel
theorem dX6_sheet_13 : decode cX6_sheet 13 = .ok (.ireturn, 1) := by decide +kernel
theorem dX6_sheet_14 : decode cX6_sheet 14 = .ok (.iload_n 2, 1) := by decide +kernel
theorem dX6_sheet_15 : decode cX6_sheet 15 = .ok (.invokestatic 69, 3) := by decide +kernel
theorem dX6_sheet_18 : decode cX6_sheet 18 = .ok (.ifCond .eq 9, 3) := by decide +kernel
theorem dX6_sheet_21 : decode cX6_sheet 21 = .ok (.iload_n 3, 1) := by decide +kernel
theorem dX6_sheet_22 : decode cX6_sheet 22 = .ok (.bipush 60, 2) := by decide +kernel
theorem dX6_sheet_24 : decode cX6_sheet 24 = .ok (.if_icmp .le 6, 3) := by decide +kernel
theorem dX6_sheet_27 : decode cX6_sheet 27 = .ok (.bipush (-2), 2) := by decide +kernel
theorem dX6_sheet_29 : decode cX6_sheet 29 = .ok (.ireturn, 1) := by decide +kernel
theorem dX6_sheet_30 : decode cX6_sheet 30 = .ok (.iload_n 3, 1) := by decide +kernel
theorem dX6_sheet_31 : decode cX6_sheet 31 = .ok (.ifCond .ge 9, 3) := by decide +kernel
theorem dX6_sheet_34 : decode cX6_sheet 34 = .ok (.aload_n 0, 1) := by decide +kernel
theorem dX6_sheet_35 : decode cX6_sheet 35 = .ok (.iconst 4, 1) := by decide +kernel
theorem dX6_sheet_36 : decode cX6_sheet 36 = .ok (.invokevirtual 76, 3) := by decide +kernel
theorem dX6_sheet_39 : decode cX6_sheet 39 = .ok (.ireturn, 1) := by decide +kernel
theorem dX6_sheet_40 : decode cX6_sheet 40 = .ok (.aload_n 0, 1) := by decide +kernel
theorem dX6_sheet_41 : decode cX6_sheet 41 = .ok (.getfield 56, 3) := by decide +kernel
theorem dX6_sheet_44 : decode cX6_sheet 44 = .ok (.iload_n 1, 1) := by decide +kernel
theorem dX6_sheet_45 : decode cX6_sheet 45 = .ok (.aaload, 1) := by decide +kernel
theorem dX6_sheet_46 : decode cX6_sheet 46 = .ok (.iload_n 2, 1) := by decide +kernel
theorem dX6_sheet_47 : decode cX6_sheet 47 = .ok (.iload_n 3, 1) := by decide +kernel
theorem dX6_sheet_48 : decode cX6_sheet 48 = .ok (.invokevirtual 203, 3) := by decide +kernel
theorem dX6_sheet_51 : decode cX6_sheet 51 = .ok (.iconst 1, 1) := by decide +kernel
theorem dX6_sheet_52 : decode cX6_sheet 52 = .ok (.ireturn, 1) := by decide +kernel
theorem dX6_lose_0 : decode cX6_lose 0 = .ok (.iload_n 1, 1) := by decide +kernel
theorem dX6_lose_1 : decode cX6_lose 1 = .ok (.invokestatic 65, 3) := by decide +kernel
theorem dX6_lose_4 : decode cX6_lose 4 = .ok (.ifCond .ne 5, 3) := by decide +kernel
theorem dX6_lose_7 : decode cX6_lose 7 = .ok (.iconst (-1), 1) := by decide +kernel
theorem dX6_lose_8 : decode cX6_lose 8 = .ok (.ireturn, 1) := by decide +kernel
theorem dX6_lose_9 : decode cX6_lose 9 = .ok (.aload_n 0, 1) := by decide +kernel
theorem dX6_lose_10 : decode cX6_lose 10 = .ok (.getfield 56, 3) := by decide +kernel
theorem dX6_lose_13 : decode cX6_lose 13 = .ok (.iload_n 1, 1) := by decide +kernel
theorem dX6_lose_14 : decode cX6_lose 14 = .ok (.aaload, 1) := by decide +kernel
theorem dX6_lose_15 : decode cX6_lose 15 = .ok (.invokevirtual 206, 3) := by decide +kernel
theorem dX6_lose_18 : decode cX6_lose 18 = .ok (.ifCond .ne 5, 3) := by decide +kernel
theorem dX6_lose_21 : decode cX6_lose 21 = .ok (.iconst 0, 1) := by decide +kernel
theorem dX6_lose_22 : decode cX6_lose 22 = .ok (.ireturn, 1) := by decide +kernel
theorem dX6_lose_23 : decode cX6_lose 23 = .ok (.aload_n 0, 1) := by decide +kernel
theorem dX6_lose_24 : decode cX6_lose 24 = .ok (.getfield 56, 3) := by decide +kernel
theorem dX6_lose_27 : decode cX6_lose 27 = .ok (.iload_n 1, 1) := by decide +kernel
theorem dX6_lose_28 : decode cX6_lose 28 = .ok (.aaload, 1) := by decide +kernel
theorem dX6_lose_29 : decode cX6_lose 29 = .ok (.iconst (-1), 1) := by decide +kernel
theorem dX6_lose_30 : decode cX6_lose 30 = .ok (.putfield 209, 3) := by decide +kernel
theorem dX6_lose_33 : decode cX6_lose 33 = .ok (.iconst 1, 1) := by decide +kernel
theorem dX6_lose_34 : decode cX6_lose 34 = .ok (.ireturn, 1) := by decide +kernel
theorem dX6_put_0 : decode cX6_put 0 = .ok (.aload_n 0, 1) := by decide +kernel
theorem dX6_put_1 : decode cX6_put 1 = .ok (.iconst 0, 1) := by decide +kernel
theorem dX6_put_2 : decode cX6_put 2 = .ok (.putfield 61, 3) := by decide +kernel
theorem dX6_put_5 : decode cX6_put 5 = .ok (.iload_n 1, 1) := by decide +kernel
theorem dX6_put_6 : decode cX6_put 6 = .ok (.invokestatic 65, 3) := by decide +kernel
theorem dX6_put_9 : decode cX6_put 9 = .ok (.ifCond .ne 5, 3) := by decide +kernel
theorem dX6_put_12 : decode cX6_put 12 = .ok (.iconst (-1), 1) := by decide +kernel
theorem dX6_put_13 : decode cX6_put 13 = .ok (.ireturn, 1) := by decide +kernel
theorem dX6_put_14 : decode cX6_put 14 = .ok (.aload_n 0, 1) := by decide +kernel
theorem dX6_put_15 : decode cX6_put 15 = .ok (.getfield 56, 3) := by decide +kernel
theorem dX6_put_18 : decode cX6_put 18 = .ok (.iload_n 1, 1) := by decide +kernel
theorem dX6_put_19 : decode cX6_put 19 = .ok (.aaload, 1) := by decide +kernel
theorem dX6_put_20 : decode cX6_put 20 = .ok (.invokevirtual 206, 3) := by decide +kernel
theorem dX6_put_23 : decode cX6_put 23 = .ok (.ifCond .ne 9, 3) := by decide +kernel
theorem dX6_put_26 : decode cX6_put 26 = .ok (.aload_n 0, 1) := by decide +kernel
theorem dX6_put_27 : decode cX6_put 27 = .ok (.iconst 1, 1) := by decide +kernel
theorem dX6_put_28 : decode cX6_put 28 = .ok (.invokevirtual 76, 3) := by decide +kernel
theorem dX6_put_31 : decode cX6_put 31 = .ok (.ireturn, 1) := by decide +kernel
theorem dX6_put_32 : decode cX6_put 32 = .ok (.aload_n 0, 1) := by decide +kernel
theorem dX6_put_33 : decode cX6_put 33 = .ok (.getfield 56, 3) := by decide +kernel
theorem dX6_put_36 : decode cX6_put 36 = .ok (.iload_n 1, 1) := by decide +kernel
theorem dX6_put_37 : decode cX6_put 37 = .ok (.aaload, 1) := by decide +kernel
theorem dX6_put_38 : decode cX6_put 38 = .ok (.iload_n 2, 1) := by decide +kernel
theorem dX6_put_39 : decode cX6_put 39 = .ok (.invokevirtual 212, 3) := by decide +kernel
theorem dX6_put_42 : decode cX6_put 42 = .ok (.ifCond .ne 9, 3) := by decide +kernel
theorem dX6_put_45 : decode cX6_put 45 = .ok (.aload_n 0, 1) := by decide +kernel
theorem dX6_put_46 : decode cX6_put 46 = .ok (.iconst 3, 1) := by decide +kernel
theorem dX6_put_47 : decode cX6_put 47 = .ok (.invokevirtual 76, 3) := by decide +kernel
theorem dX6_put_50 : decode cX6_put 50 = .ok (.ireturn, 1) := by decide +kernel
theorem dX6_put_51 : decode cX6_put 51 = .ok (.aload_n 0, 1) := by decide +kernel
theorem dX6_put_52 : decode cX6_put 52 = .ok (.getfield 56, 3) := by decide +kernel
theorem dX6_put_55 : decode cX6_put 55 = .ok (.iload_n 1, 1) := by decide +kernel
theorem dX6_put_56 : decode cX6_put 56 = .ok (.aaload, 1) := by decide +kernel
theorem dX6_put_57 : decode cX6_put 57 = .ok (.getfield 80, 3) := by decide +kernel
theorem dX6_put_60 : decode cX6_put 60 = .ok (.iload_n 2, 1) := by decide +kernel
theorem dX6_put_61 : decode cX6_put 61 = .ok (.aload_n 0, 1) := by decide +kernel
theorem dX6_put_62 : decode cX6_put 62 = .ok (.getfield 56, 3) := by decide +kernel
theorem dX6_put_65 : decode cX6_put 65 = .ok (.iload_n 1, 1) := by decide +kernel
theorem dX6_put_66 : decode cX6_put 66 = .ok (.aaload, 1) := by decide +kernel
theorem dX6_put_67 : decode cX6_put 67 = .ok (.iload_n 3, 1) := by decide +kernel
theorem dX6_put_68 : decode cX6_put 68 = .ok (.invokevirtual 215, 3) := by decide +kernel
theorem dX6_put_71 : decode cX6_put 71 = .ok (.iastore, 1) := by decide +kernel
theorem dX6_put_72 : decode cX6_put 72 = .ok (.iconst 1, 1) := by decide +kernel
theorem dX6_put_73 : decode cX6_put 73 = .ok (.ireturn, 1) := by decide +kernel
theorem dX6_cell_0 : decode cX6_cell 0 = .ok (.aload_n 0, 1) := by decide +kernel
theorem dX6_cell_1 : decode cX6_cell 1 = .ok (.iconst 0, 1) := by decide +kernel
theorem dX6_cell_2 : decode cX6_cell 2 = .ok (.putfield 61, 3) := by decide +kernel
theorem dX6_cell_5 : decode cX6_cell 5 = .ok (.iload_n 1, 1) := by decide +kernel
theorem dX6_cell_6 : decode cX6_cell 6 = .ok (.invokestatic 65, 3) := by decide +kernel
theorem dX6_cell_9 : decode cX6_cell 9 = .ok (.ifCond .eq 10, 3) := by decide +kernel
theorem dX6_cell_12 : decode cX6_cell 12 = .ok (.iload_n 3, 1) := by decide +kernel
theorem dX6_cell_13 : decode cX6_cell 13 = .ok (.invokestatic 69, 3) := by decide +kernel
theorem dX6_cell_16 : decode cX6_cell 16 = .ok (.ifCond .ne 7, 3) := by decide +kernel
theorem dX6_cell_19 : decode cX6_cell 19 = .ok (.ldc2_w 198, 3) := by decide +kernel
theorem dX6_cell_22 : decode cX6_cell 22 = .ok (.lreturn, 1) := by decide +kernel
theorem dX6_cell_23 : decode cX6_cell 23 = .ok (.aload_n 0, 1) := by decide +kernel
theorem dX6_cell_24 : decode cX6_cell 24 = .ok (.aload_n 0, 1) := by decide +kernel
theorem dX6_cell_25 : decode cX6_cell 25 = .ok (.getfield 56, 3) := by decide +kernel
theorem dX6_cell_28 : decode cX6_cell 28 = .ok (.iload_n 1, 1) := by decide +kernel
theorem dX6_cell_29 : decode cX6_cell 29 = .ok (.aaload, 1) := by decide +kernel
theorem dX6_cell_30 : decode cX6_cell 30 = .ok (.iload_n 3, 1) := by decide +kernel
theorem dX6_cell_31 : decode cX6_cell 31 = .ok (.invokevirtual 218, 3) := by decide +kernel
theorem dX6_cell_34 : decode cX6_cell 34 = .ok (.putfield 61, 3) := by decide +kernel
theorem dX6_cell_37 : decode cX6_cell 37 = .ok (.aload_n 0, 1) := by decide +kernel
theorem dX6_cell_38 : decode cX6_cell 38 = .ok (.getfield 61, 3) := by decide +kernel
theorem dX6_cell_41 : decode cX6_cell 41 = .ok (.ifCond .ne 21, 3) := by decide +kernel
theorem dX6_cell_44 : decode cX6_cell 44 = .ok (.aload_n 0, 1) := by decide +kernel
theorem dX6_cell_45 : decode cX6_cell 45 = .ok (.getfield 56, 3) := by decide +kernel
theorem dX6_cell_48 : decode cX6_cell 48 = .ok (.iload_n 1, 1) := by decide +kernel
theorem dX6_cell_49 : decode cX6_cell 49 = .ok (.aaload, 1) := by decide +kernel
theorem dX6_cell_50 : decode cX6_cell 50 = .ok (.iload_n 2, 1) := by decide +kernel
theorem dX6_cell_51 : decode cX6_cell 51 = .ok (.invokevirtual 212, 3) := by decide +kernel
theorem dX6_cell_54 : decode cX6_cell 54 = .ok (.ifCond .ne 8, 3) := by decide +kernel
theorem dX6_cell_57 : decode cX6_cell 57 = .ok (.aload_n 0, 1) := by decide +kernel
theorem dX6_cell_58 : decode cX6_cell 58 = .ok (.iconst 3, 1) := by decide +kernel
theorem dX6_cell_59 : decode cX6_cell 59 = .ok (.putfield 61, 3) := by decide +kernel
theorem dX6_cell_62 : decode cX6_cell 62 = .ok (.aload_n 0, 1) := by decide +kernel
theorem dX6_cell_63 : decode cX6_cell 63 = .ok (.getfield 61, 3) := by decide +kernel
theorem dX6_cell_66 : decode cX6_cell 66 = .ok (.ifCond .ne 18, 3) := by decide +kernel
theorem dX6_cell_69 : decode cX6_cell 69 = .ok (.aload_n 0, 1) := by decide +kernel
theorem dX6_cell_70 : decode cX6_cell 70 = .ok (.getfield 56, 3) := by decide +kernel
theorem dX6_cell_73 : decode cX6_cell 73 = .ok (.iload_n 1, 1) := by decide +kernel
theorem dX6_cell_74 : decode cX6_cell 74 = .ok (.aaload, 1) := by decide +kernel
theorem dX6_cell_75 : decode cX6_cell 75 = .ok (.getfield 80, 3) := by decide +kernel
theorem dX6_cell_78 : decode cX6_cell 78 = .ok (.iload_n 2, 1) := by decide +kernel
theorem dX6_cell_79 : decode cX6_cell 79 = .ok (.iaload, 1) := by decide +kernel
theorem dX6_cell_80 : decode cX6_cell 80 = .ok (.i2l, 1) := by decide +kernel
theorem dX6_cell_81 : decode cX6_cell 81 = .ok (.goto 6, 3) := by decide +kernel
theorem dX6_cell_84 : decode cX6_cell 84 = .ok (.ldc2_w 198, 3) := by decide +kernel
theorem dX6_cell_87 : decode cX6_cell 87 = .ok (.lreturn, 1) := by decide +kernel
theorem dX6_copy_0 : decode cX6_copy 0 = .ok (.aload_n 0, 1) := by decide +kernel
theorem dX6_copy_1 : decode cX6_copy 1 = .ok (.iconst 0, 1) := by decide +kernel
theorem dX6_copy_2 : decode cX6_copy 2 = .ok (.putfield 61, 3) := by decide +kernel
theorem dX6_copy_5 : decode cX6_copy 5 = .ok (.iload_n 1, 1) := by decide +kernel
theorem dX6_copy_6 : decode cX6_copy 6 = .ok (.invokestatic 65, 3) := by decide +kernel
theorem dX6_copy_9 : decode cX6_copy 9 = .ok (.ifCond .eq 10, 3) := by decide +kernel
theorem dX6_copy_12 : decode cX6_copy 12 = .ok (.iload_n 3, 1) := by decide +kernel
theorem dX6_copy_13 : decode cX6_copy 13 = .ok (.invokestatic 65, 3) := by decide +kernel
theorem dX6_copy_16 : decode cX6_copy 16 = .ok (.ifCond .ne 5, 3) := by decide +kernel
theorem dX6_copy_19 : decode cX6_copy 19 = .ok (.iconst (-1), 1) := by decide +kernel
theorem dX6_copy_20 : decode cX6_copy 20 = .ok (.ireturn, 1) := by decide +kernel
theorem dX6_copy_21 : decode cX6_copy 21 = .ok (.aload_n 0, 1) := by decide +kernel
theorem dX6_copy_22 : decode cX6_copy 22 = .ok (.getfield 56, 3) := by decide +kernel
theorem dX6_copy_25 : decode cX6_copy 25 = .ok (.iload_n 1, 1) := by decide +kernel
theorem dX6_copy_26 : decode cX6_copy 26 = .ok (.aaload, 1) := by decide +kernel
theorem dX6_copy_27 : decode cX6_copy 27 = .ok (.astore 6, 2) := by decide +kernel
theorem dX6_copy_29 : decode cX6_copy 29 = .ok (.aload_n 0, 1) := by decide +kernel
theorem dX6_copy_30 : decode cX6_copy 30 = .ok (.getfield 56, 3) := by decide +kernel
theorem dX6_copy_33 : decode cX6_copy 33 = .ok (.iload_n 3, 1) := by decide +kernel
theorem dX6_copy_34 : decode cX6_copy 34 = .ok (.aaload, 1) := by decide +kernel
theorem dX6_copy_35 : decode cX6_copy 35 = .ok (.astore 7, 2) := by decide +kernel
theorem dX6_copy_37 : decode cX6_copy 37 = .ok (.aload 6, 2) := by decide +kernel
theorem dX6_copy_39 : decode cX6_copy 39 = .ok (.invokevirtual 206, 3) := by decide +kernel
theorem dX6_copy_42 : decode cX6_copy 42 = .ok (.ifCond .eq 11, 3) := by decide +kernel
theorem dX6_copy_45 : decode cX6_copy 45 = .ok (.aload 7, 2) := by decide +kernel
theorem dX6_copy_47 : decode cX6_copy 47 = .ok (.invokevirtual 206, 3) := by decide +kernel
theorem dX6_copy_50 : decode cX6_copy 50 = .ok (.ifCond .ne 9, 3) := by decide +kernel
theorem dX6_copy_53 : decode cX6_copy 53 = .ok (.aload_n 0, 1) := by decide +kernel
theorem dX6_copy_54 : decode cX6_copy 54 = .ok (.iconst 1, 1) := by decide +kernel
theorem dX6_copy_55 : decode cX6_copy 55 = .ok (.invokevirtual 76, 3) := by decide +kernel
theorem dX6_copy_58 : decode cX6_copy 58 = .ok (.ireturn, 1) := by decide +kernel
theorem dX6_copy_59 : decode cX6_copy 59 = .ok (.aload 6, 2) := by decide +kernel
theorem dX6_copy_61 : decode cX6_copy 61 = .ok (.getfield 221, 3) := by decide +kernel
theorem dX6_copy_64 : decode cX6_copy 64 = .ok (.aload 7, 2) := by decide +kernel
theorem dX6_copy_66 : decode cX6_copy 66 = .ok (.getfield 221, 3) := by decide +kernel
theorem dX6_copy_69 : decode cX6_copy 69 = .ok (.if_icmp .eq 9, 3) := by decide +kernel
theorem dX6_copy_72 : decode cX6_copy 72 = .ok (.aload_n 0, 1) := by decide +kernel
theorem dX6_copy_73 : decode cX6_copy 73 = .ok (.iconst 2, 1) := by decide +kernel
theorem dX6_copy_74 : decode cX6_copy 74 = .ok (.invokevirtual 76, 3) := by decide +kernel
theorem dX6_copy_77 : decode cX6_copy 77 = .ok (.ireturn, 1) := by decide +kernel
theorem dX6_copy_78 : decode cX6_copy 78 = .ok (.aload 6, 2) := by decide +kernel
theorem dX6_copy_80 : decode cX6_copy 80 = .ok (.iload_n 2, 1) := by decide +kernel
theorem dX6_copy_81 : decode cX6_copy 81 = .ok (.iload 5, 2) := by decide +kernel
theorem dX6_copy_83 : decode cX6_copy 83 = .ok (.invokevirtual 224, 3) := by decide +kernel
theorem dX6_copy_86 : decode cX6_copy 86 = .ok (.ifCond .eq 15, 3) := by decide +kernel
theorem dX6_copy_89 : decode cX6_copy 89 = .ok (.aload 7, 2) := by decide +kernel
theorem dX6_copy_91 : decode cX6_copy 91 = .ok (.iload 4, 2) := by decide +kernel
theorem dX6_copy_93 : decode cX6_copy 93 = .ok (.iload 5, 2) := by decide +kernel
theorem dX6_copy_95 : decode cX6_copy 95 = .ok (.invokevirtual 224, 3) := by decide +kernel
theorem dX6_copy_98 : decode cX6_copy 98 = .ok (.ifCond .ne 9, 3) := by decide +kernel
theorem dX6_copy_101 : decode cX6_copy 101 = .ok (.aload_n 0, 1) := by decide +kernel
theorem dX6_copy_102 : decode cX6_copy 102 = .ok (.iconst 3, 1) := by decide +kernel
theorem dX6_copy_103 : decode cX6_copy 103 = .ok (.invokevirtual 76, 3) := by decide +kernel
theorem dX6_copy_106 : decode cX6_copy 106 = .ok (.ireturn, 1) := by decide +kernel
theorem dX6_copy_107 : decode cX6_copy 107 = .ok (.aload 6, 2) := by decide +kernel
theorem dX6_copy_109 : decode cX6_copy 109 = .ok (.getfield 80, 3) := by decide +kernel
theorem dX6_copy_112 : decode cX6_copy 112 = .ok (.iload_n 2, 1) := by decide +kernel
theorem dX6_copy_113 : decode cX6_copy 113 = .ok (.aload 7, 2) := by decide +kernel
theorem dX6_copy_115 : decode cX6_copy 115 = .ok (.getfield 80, 3) := by decide +kernel
theorem dX6_copy_118 : decode cX6_copy 118 = .ok (.iload 4, 2) := by decide +kernel
theorem dX6_copy_120 : decode cX6_copy 120 = .ok (.iload 5, 2) := by decide +kernel
theorem dX6_copy_122 : decode cX6_copy 122 = .ok (.invokestatic 227, 3) := by decide +kernel
theorem dX6_copy_125 : decode cX6_copy 125 = .ok (.iload 5, 2) := by decide +kernel
theorem dX6_copy_127 : decode cX6_copy 127 = .ok (.ireturn, 1) := by decide +kernel
theorem dX6_tell_0 : decode cX6_tell 0 = .ok (.aload_n 0, 1) := by decide +kernel
theorem dX6_tell_1 : decode cX6_tell 1 = .ok (.getfield 12, 3) := by decide +kernel
theorem dX6_tell_4 : decode cX6_tell 4 = .ok (.iload_n 1, 1) := by decide +kernel
theorem dX6_tell_5 : decode cX6_tell 5 = .ok (.invokevirtual 105, 3) := by decide +kernel
theorem dX6_tell_8 : decode cX6_tell 8 = .ok (.ifCond .ne 5, 3) := by decide +kernel
theorem dX6_tell_11 : decode cX6_tell 11 = .ok (.iconst (-1), 1) := by decide +kernel
theorem dX6_tell_12 : decode cX6_tell 12 = .ok (.ireturn, 1) := by decide +kernel
theorem dX6_tell_13 : decode cX6_tell 13 = .ok (.aload_n 0, 1) := by decide +kernel
theorem dX6_tell_14 : decode cX6_tell 14 = .ok (.getfield 12, 3) := by decide +kernel
theorem dX6_tell_17 : decode cX6_tell 17 = .ok (.getfield 108, 3) := by decide +kernel
theorem dX6_tell_20 : decode cX6_tell 20 = .ok (.iload_n 1, 1) := by decide +kernel
theorem dX6_tell_21 : decode cX6_tell 21 = .ok (.iaload, 1) := by decide +kernel
theorem dX6_tell_22 : decode cX6_tell 22 = .ok (.lookupswitch 38 #[(1, 26), (2, 32)], 26) := by decide +kernel
theorem dX6_tell_48 : decode cX6_tell 48 = .ok (.aload_n 0, 1) := by decide +kernel
theorem dX6_tell_49 : decode cX6_tell 49 = .ok (.iload_n 1, 1) := by decide +kernel
theorem dX6_tell_50 : decode cX6_tell 50 = .ok (.invokevirtual 233, 3) := by decide +kernel
theorem dX6_tell_53 : decode cX6_tell 53 = .ok (.ireturn, 1) := by decide +kernel
theorem dX6_tell_54 : decode cX6_tell 54 = .ok (.aload_n 0, 1) := by decide +kernel
theorem dX6_tell_55 : decode cX6_tell 55 = .ok (.iload_n 1, 1) := by decide +kernel
theorem dX6_tell_56 : decode cX6_tell 56 = .ok (.invokevirtual 236, 3) := by decide +kernel
theorem dX6_tell_59 : decode cX6_tell 59 = .ok (.ireturn, 1) := by decide +kernel
theorem dX6_tell_60 : decode cX6_tell 60 = .ok (.aload_n 0, 1) := by decide +kernel
theorem dX6_tell_61 : decode cX6_tell 61 = .ok (.iload_n 1, 1) := by decide +kernel
theorem dX6_tell_62 : decode cX6_tell 62 = .ok (.invokevirtual 239, 3) := by decide +kernel
theorem dX6_tell_65 : decode cX6_tell 65 = .ok (.ireturn, 1) := by decide +kernel
theorem dX6_hail_0 : decode cX6_hail 0 = .ok (.aload_n 0, 1) := by decide +kernel
theorem dX6_hail_1 : decode cX6_hail 1 = .ok (.getfield 12, 3) := by decide +kernel
theorem dX6_hail_4 : decode cX6_hail 4 = .ok (.iload_n 1, 1) := by decide +kernel
theorem dX6_hail_5 : decode cX6_hail 5 = .ok (.invokevirtual 105, 3) := by decide +kernel
theorem dX6_hail_8 : decode cX6_hail 8 = .ok (.ifCond .ne 5, 3) := by decide +kernel
theorem dX6_hail_11 : decode cX6_hail 11 = .ok (.iconst (-1), 1) := by decide +kernel
theorem dX6_hail_12 : decode cX6_hail 12 = .ok (.ireturn, 1) := by decide +kernel
theorem dX6_hail_13 : decode cX6_hail 13 = .ok (.aload_n 0, 1) := by decide +kernel
theorem dX6_hail_14 : decode cX6_hail 14 = .ok (.getfield 12, 3) := by decide +kernel
theorem dX6_hail_17 : decode cX6_hail 17 = .ok (.getfield 108, 3) := by decide +kernel
theorem dX6_hail_20 : decode cX6_hail 20 = .ok (.iload_n 1, 1) := by decide +kernel
theorem dX6_hail_21 : decode cX6_hail 21 = .ok (.iaload, 1) := by decide +kernel
theorem dX6_hail_22 : decode cX6_hail 22 = .ok (.iconst 2, 1) := by decide +kernel
theorem dX6_hail_23 : decode cX6_hail 23 = .ok (.if_icmp .ne 10, 3) := by decide +kernel
theorem dX6_hail_26 : decode cX6_hail 26 = .ok (.aload_n 0, 1) := by decide +kernel
theorem dX6_hail_27 : decode cX6_hail 27 = .ok (.invokevirtual 242, 3) := by decide +kernel
theorem dX6_hail_30 : decode cX6_hail 30 = .ok (.goto 8, 3) := by decide +kernel
theorem dX6_hail_33 : decode cX6_hail 33 = .ok (.aload_n 0, 1) := by decide +kernel
theorem dX6_hail_34 : decode cX6_hail 34 = .ok (.iload_n 1, 1) := by decide +kernel
theorem dX6_hail_35 : decode cX6_hail 35 = .ok (.invokevirtual 245, 3) := by decide +kernel
theorem dX6_hail_38 : decode cX6_hail 38 = .ok (.ireturn, 1) := by decide +kernel
theorem dX6_as_0 : decode cX6_as 0 = .ok (.aload_n 0, 1) := by decide +kernel
theorem dX6_as_1 : decode cX6_as 1 = .ok (.iconst 0, 1) := by decide +kernel
theorem dX6_as_2 : decode cX6_as 2 = .ok (.putfield 61, 3) := by decide +kernel
theorem dX6_as_5 : decode cX6_as 5 = .ok (.aload_n 0, 1) := by decide +kernel
theorem dX6_as_6 : decode cX6_as 6 = .ok (.getfield 12, 3) := by decide +kernel
theorem dX6_as_9 : decode cX6_as 9 = .ok (.iload_n 1, 1) := by decide +kernel
theorem dX6_as_10 : decode cX6_as 10 = .ok (.invokevirtual 105, 3) := by decide +kernel
theorem dX6_as_13 : decode cX6_as 13 = .ok (.ifCond .ne 5, 3) := by decide +kernel
theorem dX6_as_16 : decode cX6_as 16 = .ok (.iconst (-1), 1) := by decide +kernel
theorem dX6_as_17 : decode cX6_as 17 = .ok (.ireturn, 1) := by decide +kernel
theorem dX6_as_18 : decode cX6_as 18 = .ok (.iload_n 2, 1) := by decide +kernel
theorem dX6_as_19 : decode cX6_as 19 = .ok (.ifCond .lt 8, 3) := by decide +kernel
theorem dX6_as_22 : decode cX6_as 22 = .ok (.iload_n 2, 1) := by decide +kernel
theorem dX6_as_23 : decode cX6_as 23 = .ok (.iconst 2, 1) := by decide +kernel
theorem dX6_as_24 : decode cX6_as 24 = .ok (.if_icmp .le 6, 3) := by decide +kernel
theorem dX6_as_27 : decode cX6_as 27 = .ok (.bipush (-2), 2) := by decide +kernel
theorem dX6_as_29 : decode cX6_as 29 = .ok (.ireturn, 1) := by decide +kernel
theorem dX6_as_30 : decode cX6_as 30 = .ok (.aload_n 0, 1) := by decide +kernel
theorem dX6_as_31 : decode cX6_as 31 = .ok (.getfield 12, 3) := by decide +kernel
theorem dX6_as_34 : decode cX6_as 34 = .ok (.getfield 108, 3) := by decide +kernel
theorem dX6_as_37 : decode cX6_as 37 = .ok (.iload_n 1, 1) := by decide +kernel
theorem dX6_as_38 : decode cX6_as 38 = .ok (.iaload, 1) := by decide +kernel
theorem dX6_as_39 : decode cX6_as 39 = .ok (.iload_n 2, 1) := by decide +kernel
theorem dX6_as_40 : decode cX6_as 40 = .ok (.if_icmp .lt 7, 3) := by decide +kernel
theorem dX6_as_43 : decode cX6_as 43 = .ok (.iconst 1, 1) := by decide +kernel
theorem dX6_as_44 : decode cX6_as 44 = .ok (.goto 8, 3) := by decide +kernel
theorem dX6_as_47 : decode cX6_as 47 = .ok (.aload_n 0, 1) := by decide +kernel
theorem dX6_as_48 : decode cX6_as 48 = .ok (.iconst 2, 1) := by decide +kernel
theorem dX6_as_49 : decode cX6_as 49 = .ok (.invokevirtual 76, 3) := by decide +kernel
theorem dX6_as_52 : decode cX6_as 52 = .ok (.ireturn, 1) := by decide +kernel
theorem dX6_trace_0 : decode cX6_trace 0 = .ok (.aload_n 0, 1) := by decide +kernel
theorem dX6_trace_1 : decode cX6_trace 1 = .ok (.getfield 248, 3) := by decide +kernel
theorem dX6_trace_4 : decode cX6_trace 4 = .ok (.ireturn, 1) := by decide +kernel
theorem dX6_fault_0 : decode cX6_fault 0 = .ok (.aload_n 0, 1) := by decide +kernel
theorem dX6_fault_1 : decode cX6_fault 1 = .ok (.getfield 61, 3) := by decide +kernel
theorem dX6_fault_4 : decode cX6_fault 4 = .ok (.ireturn, 1) := by decide +kernel
theorem dX6_many_0 : decode cX6_many 0 = .ok (.iload_n 1, 1) := by decide +kernel
theorem dX6_many_1 : decode cX6_many 1 = .ok (.tableswitch 75 0 4 #[35, 43, 51, 59, 67], 35) := by decide +kernel
theorem dX6_many_36 : decode cX6_many 36 = .ok (.aload_n 0, 1) := by decide +kernel
theorem dX6_many_37 : decode cX6_many 37 = .ok (.getfield 12, 3) := by decide +kernel
theorem dX6_many_40 : decode cX6_many 40 = .ok (.getfield 102, 3) := by decide +kernel
theorem dX6_many_43 : decode cX6_many 43 = .ok (.ireturn, 1) := by decide +kernel
theorem dX6_many_44 : decode cX6_many 44 = .ok (.aload_n 0, 1) := by decide +kernel
theorem dX6_many_45 : decode cX6_many 45 = .ok (.getfield 12, 3) := by decide +kernel
theorem dX6_many_48 : decode cX6_many 48 = .ok (.getfield 120, 3) := by decide +kernel
theorem dX6_many_51 : decode cX6_many 51 = .ok (.ireturn, 1) := by decide +kernel
theorem dX6_many_52 : decode cX6_many 52 = .ok (.aload_n 0, 1) := by decide +kernel
theorem dX6_many_53 : decode cX6_many 53 = .ok (.getfield 28, 3) := by decide +kernel
theorem dX6_many_56 : decode cX6_many 56 = .ok (.getfield 94, 3) := by decide +kernel
theorem dX6_many_59 : decode cX6_many 59 = .ok (.ireturn, 1) := by decide +kernel
theorem dX6_many_60 : decode cX6_many 60 = .ok (.aload_n 0, 1) := by decide +kernel
theorem dX6_many_61 : decode cX6_many 61 = .ok (.getfield 38, 3) := by decide +kernel
theorem dX6_many_64 : decode cX6_many 64 = .ok (.getfield 97, 3) := by decide +kernel
theorem dX6_many_67 : decode cX6_many 67 = .ok (.ireturn, 1) := by decide +kernel
theorem dX6_many_68 : decode cX6_many 68 = .ok (.aload_n 0, 1) := by decide +kernel
theorem dX6_many_69 : decode cX6_many 69 = .ok (.getfield 12, 3) := by decide +kernel
theorem dX6_many_72 : decode cX6_many 72 = .ok (.getfield 139, 3) := by decide +kernel
theorem dX6_many_75 : decode cX6_many 75 = .ok (.ireturn, 1) := by decide +kernel
theorem dX6_many_76 : decode cX6_many 76 = .ok (.bipush (-2), 2) := by decide +kernel
theorem dX6_many_78 : decode cX6_many 78 = .ok (.ireturn, 1) := by decide +kernel
theorem dX6_isSheet_0 : decode cX6_isSheet 0 = .ok (.iload_n 0, 1) := by decide +kernel
theorem dX6_isSheet_1 : decode cX6_isSheet 1 = .ok (.ifCond .lt 12, 3) := by decide +kernel
theorem dX6_isSheet_4 : decode cX6_isSheet 4 = .ok (.iload_n 0, 1) := by decide +kernel
theorem dX6_isSheet_5 : decode cX6_isSheet 5 = .ok (.iconst 4, 1) := by decide +kernel
theorem dX6_isSheet_6 : decode cX6_isSheet 6 = .ok (.if_icmp .ge 7, 3) := by decide +kernel
theorem dX6_isSheet_9 : decode cX6_isSheet 9 = .ok (.iconst 1, 1) := by decide +kernel
theorem dX6_isSheet_10 : decode cX6_isSheet 10 = .ok (.goto 4, 3) := by decide +kernel
theorem dX6_isSheet_13 : decode cX6_isSheet 13 = .ok (.iconst 0, 1) := by decide +kernel
theorem dX6_isSheet_14 : decode cX6_isSheet 14 = .ok (.ireturn, 1) := by decide +kernel
theorem dX6_isLane_0 : decode cX6_isLane 0 = .ok (.iload_n 0, 1) := by decide +kernel
theorem dX6_isLane_1 : decode cX6_isLane 1 = .ok (.ifCond .lt 12, 3) := by decide +kernel
theorem dX6_isLane_4 : decode cX6_isLane 4 = .ok (.iload_n 0, 1) := by decide +kernel
theorem dX6_isLane_5 : decode cX6_isLane 5 = .ok (.iconst 2, 1) := by decide +kernel
theorem dX6_isLane_6 : decode cX6_isLane 6 = .ok (.if_icmp .gt 7, 3) := by decide +kernel
theorem dX6_isLane_9 : decode cX6_isLane 9 = .ok (.iconst 1, 1) := by decide +kernel
theorem dX6_isLane_10 : decode cX6_isLane 10 = .ok (.goto 4, 3) := by decide +kernel
theorem dX6_isLane_13 : decode cX6_isLane 13 = .ok (.iconst 0, 1) := by decide +kernel
theorem dX6_isLane_14 : decode cX6_isLane 14 = .ok (.ireturn, 1) := by decide +kernel
theorem dX6_hasNoValley_0 : decode cX6_hasNoValley 0 = .ok (.aload_n 0, 1) := by decide +kernel
theorem dX6_hasNoValley_1 : decode cX6_hasNoValley 1 = .ok (.getfield 12, 3) := by decide +kernel
theorem dX6_hasNoValley_4 : decode cX6_hasNoValley 4 = .ok (.getfield 102, 3) := by decide +kernel
theorem dX6_hasNoValley_7 : decode cX6_hasNoValley 7 = .ok (.ifCond .ne 7, 3) := by decide +kernel
theorem dX6_hasNoValley_10 : decode cX6_hasNoValley 10 = .ok (.iconst 1, 1) := by decide +kernel
theorem dX6_hasNoValley_11 : decode cX6_hasNoValley 11 = .ok (.goto 4, 3) := by decide +kernel
theorem dX6_hasNoValley_14 : decode cX6_hasNoValley 14 = .ok (.iconst 0, 1) := by decide +kernel
theorem dX6_hasNoValley_15 : decode cX6_hasNoValley 15 = .ok (.ireturn, 1) := by decide +kernel
theorem dX6_faulty_0 : decode cX6_faulty 0 = .ok (.aload_n 0, 1) := by decide +kernel
theorem dX6_faulty_1 : decode cX6_faulty 1 = .ok (.iload_n 1, 1) := by decide +kernel
theorem dX6_faulty_2 : decode cX6_faulty 2 = .ok (.putfield 61, 3) := by decide +kernel
theorem dX6_faulty_5 : decode cX6_faulty 5 = .ok (.bipush (-10), 2) := by decide +kernel
theorem dX6_faulty_7 : decode cX6_faulty 7 = .ok (.iload_n 1, 1) := by decide +kernel
theorem dX6_faulty_8 : decode cX6_faulty 8 = .ok (.isub, 1) := by decide +kernel
theorem dX6_faulty_9 : decode cX6_faulty 9 = .ok (.ireturn, 1) := by decide +kernel
theorem dX6_isFewer_0 : decode cX6_isFewer 0 = .ok (.iload_n 1, 1) := by decide +kernel
theorem dX6_isFewer_1 : decode cX6_isFewer 1 = .ok (.bipush (-9), 2) := by decide +kernel
theorem dX6_isFewer_3 : decode cX6_isFewer 3 = .ok (.if_icmp .eq 14, 3) := by decide +kernel
theorem dX6_isFewer_6 : decode cX6_isFewer 6 = .ok (.iload_n 0, 1) := by decide +kernel
theorem dX6_isFewer_7 : decode cX6_isFewer 7 = .ok (.invokestatic 176, 3) := by decide +kernel
theorem dX6_isFewer_10 : decode cX6_isFewer 10 = .ok (.iload_n 1, 1) := by decide +kernel
theorem dX6_isFewer_11 : decode cX6_isFewer 11 = .ok (.invokestatic 176, 3) := by decide +kernel
theorem dX6_isFewer_14 : decode cX6_isFewer 14 = .ok (.if_icmp .ge 7, 3) := by decide +kernel
theorem dX6_isFewer_17 : decode cX6_isFewer 17 = .ok (.iconst 1, 1) := by decide +kernel
theorem dX6_isFewer_18 : decode cX6_isFewer 18 = .ok (.goto 4, 3) := by decide +kernel
theorem dX6_isFewer_21 : decode cX6_isFewer 21 = .ok (.iconst 0, 1) := by decide +kernel
theorem dX6_isFewer_22 : decode cX6_isFewer 22 = .ok (.ireturn, 1) := by decide +kernel
theorem dX6_heardNow_0 : decode cX6_heardNow 0 = .ok (.aload_n 0, 1) := by decide +kernel
theorem dX6_heardNow_1 : decode cX6_heardNow 1 = .ok (.getfield 98, 3) := by decide +kernel
theorem dX6_heardNow_4 : decode cX6_heardNow 4 = .ok (.ifCond .ne 36, 3) := by decide +kernel
theorem dX6_heardNow_7 : decode cX6_heardNow 7 = .ok (.aload_n 0, 1) := by decide +kernel
theorem dX6_heardNow_8 : decode cX6_heardNow 8 = .ok (.getfield 47, 3) := by decide +kernel
theorem dX6_heardNow_11 : decode cX6_heardNow 11 = .ok (.aload_n 0, 1) := by decide +kernel
theorem dX6_heardNow_12 : decode cX6_heardNow 12 = .ok (.getfield 28, 3) := by decide +kernel
theorem dX6_heardNow_15 : decode cX6_heardNow 15 = .ok (.aload_n 0, 1) := by decide +kernel
theorem dX6_heardNow_16 : decode cX6_heardNow 16 = .ok (.getfield 12, 3) := by decide +kernel
theorem dX6_heardNow_19 : decode cX6_heardNow 19 = .ok (.getfield 132, 3) := by decide +kernel
theorem dX6_heardNow_22 : decode cX6_heardNow 22 = .ok (.aload_n 0, 1) := by decide +kernel
theorem dX6_heardNow_23 : decode cX6_heardNow 23 = .ok (.getfield 12, 3) := by decide +kernel
theorem dX6_heardNow_26 : decode cX6_heardNow 26 = .ok (.invokevirtual 251, 3) := by decide +kernel
theorem dX6_heardNow_29 : decode cX6_heardNow 29 = .ok (.sipush 400, 3) := by decide +kernel
theorem dX6_heardNow_32 : decode cX6_heardNow 32 = .ok (.invokevirtual 254, 3) := by decide +kernel
theorem dX6_heardNow_35 : decode cX6_heardNow 35 = .ok (.aload_n 0, 1) := by decide +kernel
theorem dX6_heardNow_36 : decode cX6_heardNow 36 = .ok (.iconst 1, 1) := by decide +kernel
theorem dX6_heardNow_37 : decode cX6_heardNow 37 = .ok (.putfield 98, 3) := by decide +kernel
theorem dX6_heardNow_40 : decode cX6_heardNow 40 = .ok (.aload_n 0, 1) := by decide +kernel
theorem dX6_heardNow_41 : decode cX6_heardNow 41 = .ok (.getfield 47, 3) := by decide +kernel
theorem dX6_heardNow_44 : decode cX6_heardNow 44 = .ok (.areturn, 1) := by decide +kernel
theorem dX6_playSet_0 : decode cX6_playSet 0 = .ok (.aload_n 0, 1) := by decide +kernel
theorem dX6_playSet_1 : decode cX6_playSet 1 = .ok (.getfield 32, 3) := by decide +kernel
theorem dX6_playSet_4 : decode cX6_playSet 4 = .ok (.iconst 0, 1) := by decide +kernel
theorem dX6_playSet_5 : decode cX6_playSet 5 = .ok (.putfield 94, 3) := by decide +kernel
theorem dX6_playSet_8 : decode cX6_playSet 8 = .ok (.iconst 0, 1) := by decide +kernel
theorem dX6_playSet_9 : decode cX6_playSet 9 = .ok (.istore_n 3, 1) := by decide +kernel
theorem dX6_playSet_10 : decode cX6_playSet 10 = .ok (.iload_n 3, 1) := by decide +kernel
theorem dX6_playSet_11 : decode cX6_playSet 11 = .ok (.aload_n 0, 1) := by decide +kernel
theorem dX6_playSet_12 : decode cX6_playSet 12 = .ok (.getfield 12, 3) := by decide +kernel
theorem dX6_playSet_15 : decode cX6_playSet 15 = .ok (.getfield 102, 3) := by decide +kernel
theorem dX6_playSet_18 : decode cX6_playSet 18 = .ok (.if_icmp .ge 34, 3) := by decide +kernel
theorem dX6_playSet_21 : decode cX6_playSet 21 = .ok (.iload_n 1, 1) := by decide +kernel
theorem dX6_playSet_22 : decode cX6_playSet 22 = .ok (.iload_n 3, 1) := by decide +kernel
theorem dX6_playSet_23 : decode cX6_playSet 23 = .ok (.ishr, 1) := by decide +kernel
theorem dX6_playSet_24 : decode cX6_playSet 24 = .ok (.iconst 1, 1) := by decide +kernel
theorem dX6_playSet_25 : decode cX6_playSet 25 = .ok (.iand, 1) := by decide +kernel
theorem dX6_playSet_26 : decode cX6_playSet 26 = .ok (.ifCond .eq 20, 3) := by decide +kernel
theorem dX6_playSet_29 : decode cX6_playSet 29 = .ok (.aload_n 0, 1) := by decide +kernel
theorem dX6_playSet_30 : decode cX6_playSet 30 = .ok (.getfield 32, 3) := by decide +kernel
theorem dX6_playSet_33 : decode cX6_playSet 33 = .ok (.iload_n 3, 1) := by decide +kernel
theorem dX6_playSet_34 : decode cX6_playSet 34 = .ok (.iconst 0, 1) := by decide +kernel
theorem dX6_playSet_35 : decode cX6_playSet 35 = .ok (.aload_n 0, 1) := by decide +kernel
theorem dX6_playSet_36 : decode cX6_playSet 36 = .ok (.getfield 12, 3) := by decide +kernel
theorem dX6_playSet_39 : decode cX6_playSet 39 = .ok (.iload_n 3, 1) := by decide +kernel
theorem dX6_playSet_40 : decode cX6_playSet 40 = .ok (.invokevirtual 114, 3) := by decide +kernel
theorem dX6_playSet_43 : decode cX6_playSet 43 = .ok (.invokevirtual 142, 3) := by decide +kernel
theorem dX6_playSet_46 : decode cX6_playSet 46 = .ok (.iinc 3 1, 3) := by decide +kernel
theorem dX6_playSet_49 : decode cX6_playSet 49 = .ok (.goto (-39), 3) := by decide +kernel
theorem dX6_playSet_52 : decode cX6_playSet 52 = .ok (.aload_n 0, 1) := by decide +kernel
theorem dX6_playSet_53 : decode cX6_playSet 53 = .ok (.getfield 51, 3) := by decide +kernel
theorem dX6_playSet_56 : decode cX6_playSet 56 = .ok (.aload_n 0, 1) := by decide +kernel
theorem dX6_playSet_57 : decode cX6_playSet 57 = .ok (.getfield 32, 3) := by decide +kernel
theorem dX6_playSet_60 : decode cX6_playSet 60 = .ok (.aload_n 0, 1) := by decide +kernel
theorem dX6_playSet_61 : decode cX6_playSet 61 = .ok (.getfield 12, 3) := by decide +kernel
theorem dX6_playSet_64 : decode cX6_playSet 64 = .ok (.getfield 132, 3) := by decide +kernel
theorem dX6_playSet_67 : decode cX6_playSet 67 = .ok (.aload_n 0, 1) := by decide +kernel
theorem dX6_playSet_68 : decode cX6_playSet 68 = .ok (.getfield 12, 3) := by decide +kernel
theorem dX6_playSet_71 : decode cX6_playSet 71 = .ok (.invokevirtual 251, 3) := by decide +kernel
theorem dX6_playSet_74 : decode cX6_playSet 74 = .ok (.iload_n 2, 1) := by decide +kernel
theorem dX6_playSet_75 : decode cX6_playSet 75 = .ok (.invokevirtual 254, 3) := by decide +kernel
theorem dX6_playSet_78 : decode cX6_playSet 78 = .ok (.return_, 1) := by decide +kernel
theorem dX6_ringEarlyBy_0 : decode cX6_ringEarlyBy 0 = .ok (.aload_n 0, 1) := by decide +kernel
theorem dX6_ringEarlyBy_1 : decode cX6_ringEarlyBy 1 = .ok (.iload_n 1, 1) := by decide +kernel
theorem dX6_ringEarlyBy_2 : decode cX6_ringEarlyBy 2 = .ok (.bipush 100, 2) := by decide +kernel
theorem dX6_ringEarlyBy_4 : decode cX6_ringEarlyBy 4 = .ok (.invokevirtual 191, 3) := by decide +kernel
theorem dX6_ringEarlyBy_7 : decode cX6_ringEarlyBy 7 = .ok (.aload_n 0, 1) := by decide +kernel
theorem dX6_ringEarlyBy_8 : decode cX6_ringEarlyBy 8 = .ok (.getfield 51, 3) := by decide +kernel
theorem dX6_ringEarlyBy_11 : decode cX6_ringEarlyBy 11 = .ok (.bipush 100, 2) := by decide +kernel
theorem dX6_ringEarlyBy_13 : decode cX6_ringEarlyBy 13 = .ok (.invokevirtual 173, 3) := by decide +kernel
theorem dX6_ringEarlyBy_16 : decode cX6_ringEarlyBy 16 = .ok (.ireturn, 1) := by decide +kernel
theorem dX6_lastMinuteTied_0 : decode cX6_lastMinuteTied 0 = .ok (.aload_n 0, 1) := by decide +kernel
theorem dX6_lastMinuteTied_1 : decode cX6_lastMinuteTied 1 = .ok (.getfield 51, 3) := by decide +kernel
theorem dX6_lastMinuteTied_4 : decode cX6_lastMinuteTied 4 = .ok (.aload_n 0, 1) := by decide +kernel
theorem dX6_lastMinuteTied_5 : decode cX6_lastMinuteTied 5 = .ok (.getfield 28, 3) := by decide +kernel
theorem dX6_lastMinuteTied_8 : decode cX6_lastMinuteTied 8 = .ok (.aload_n 0, 1) := by decide +kernel
theorem dX6_lastMinuteTied_9 : decode cX6_lastMinuteTied 9 = .ok (.getfield 12, 3) := by decide +kernel
theorem dX6_lastMinuteTied_12 : decode cX6_lastMinuteTied 12 = .ok (.getfield 132, 3) := by decide +kernel
theorem dX6_lastMinuteTied_15 : decode cX6_lastMinuteTied 15 = .ok (.iload_n 1, 1) := by decide +kernel
theorem dX6_lastMinuteTied_16 : decode cX6_lastMinuteTied 16 = .ok (.ior, 1) := by decide +kernel
theorem dX6_lastMinuteTied_17 : decode cX6_lastMinuteTied 17 = .ok (.aload_n 0, 1) := by decide +kernel
theorem dX6_lastMinuteTied_18 : decode cX6_lastMinuteTied 18 = .ok (.getfield 12, 3) := by decide +kernel
theorem dX6_lastMinuteTied_21 : decode cX6_lastMinuteTied 21 = .ok (.invokevirtual 251, 3) := by decide +kernel
theorem dX6_lastMinuteTied_24 : decode cX6_lastMinuteTied 24 = .ok (.sipush 400, 3) := by decide +kernel
theorem dX6_lastMinuteTied_27 : decode cX6_lastMinuteTied 27 = .ok (.invokevirtual 254, 3) := by decide +kernel
theorem dX6_lastMinuteTied_30 : decode cX6_lastMinuteTied 30 = .ok (.aload_n 0, 1) := by decide +kernel
theorem dX6_lastMinuteTied_31 : decode cX6_lastMinuteTied 31 = .ok (.getfield 51, 3) := by decide +kernel
theorem dX6_lastMinuteTied_34 : decode cX6_lastMinuteTied 34 = .ok (.invokevirtual 157, 3) := by decide +kernel
theorem dX6_lastMinuteTied_37 : decode cX6_lastMinuteTied 37 = .ok (.ireturn, 1) := by decide +kernel
theorem dX6_howManyRingWith_0 : decode cX6_howManyRingWith 0 = .ok (.aload_n 0, 1) := by decide +kernel
theorem dX6_howManyRingWith_1 : decode cX6_howManyRingWith 1 = .ok (.getfield 12, 3) := by decide +kernel
theorem dX6_howManyRingWith_4 : decode cX6_howManyRingWith 4 = .ok (.bipush 8, 2) := by decide +kernel
theorem dX6_howManyRingWith_6 : decode cX6_howManyRingWith 6 = .ok (.iload_n 1, 1) := by decide +kernel
theorem dX6_howManyRingWith_7 : decode cX6_howManyRingWith 7 = .ok (.iload_n 2, 1) := by decide +kernel
theorem dX6_howManyRingWith_8 : decode cX6_howManyRingWith 8 = .ok (.iload_n 3, 1) := by decide +kernel
theorem dX6_howManyRingWith_9 : decode cX6_howManyRingWith 9 = .ok (.invokevirtual 258, 3) := by decide +kernel
theorem dX6_howManyRingWith_12 : decode cX6_howManyRingWith 12 = .ok (.aload_n 0, 1) := by decide +kernel
theorem dX6_howManyRingWith_13 : decode cX6_howManyRingWith 13 = .ok (.getfield 51, 3) := by decide +kernel
theorem dX6_howManyRingWith_16 : decode cX6_howManyRingWith 16 = .ok (.aload_n 0, 1) := by decide +kernel
theorem dX6_howManyRingWith_17 : decode cX6_howManyRingWith 17 = .ok (.getfield 28, 3) := by decide +kernel
theorem dX6_howManyRingWith_20 : decode cX6_howManyRingWith 20 = .ok (.aload_n 0, 1) := by decide +kernel
theorem dX6_howManyRingWith_21 : decode cX6_howManyRingWith 21 = .ok (.getfield 12, 3) := by decide +kernel
theorem dX6_howManyRingWith_24 : decode cX6_howManyRingWith 24 = .ok (.getfield 132, 3) := by decide +kernel
theorem dX6_howManyRingWith_27 : decode cX6_howManyRingWith 27 = .ok (.aload_n 0, 1) := by decide +kernel
theorem dX6_howManyRingWith_28 : decode cX6_howManyRingWith 28 = .ok (.getfield 12, 3) := by decide +kernel
theorem dX6_howManyRingWith_31 : decode cX6_howManyRingWith 31 = .ok (.invokevirtual 251, 3) := by decide +kernel
theorem dX6_howManyRingWith_34 : decode cX6_howManyRingWith 34 = .ok (.sipush 256, 3) := by decide +kernel
theorem dX6_howManyRingWith_37 : decode cX6_howManyRingWith 37 = .ok (.ior, 1) := by decide +kernel
theorem dX6_howManyRingWith_38 : decode cX6_howManyRingWith 38 = .ok (.bipush 100, 2) := by decide +kernel
theorem dX6_howManyRingWith_40 : decode cX6_howManyRingWith 40 = .ok (.invokevirtual 254, 3) := by decide +kernel
theorem dX6_howManyRingWith_43 : decode cX6_howManyRingWith 43 = .ok (.aload_n 0, 1) := by decide +kernel
theorem dX6_howManyRingWith_44 : decode cX6_howManyRingWith 44 = .ok (.getfield 51, 3) := by decide +kernel
theorem dX6_howManyRingWith_47 : decode cX6_howManyRingWith 47 = .ok (.bipush 100, 2) := by decide +kernel
theorem dX6_howManyRingWith_49 : decode cX6_howManyRingWith 49 = .ok (.invokevirtual 173, 3) := by decide +kernel
theorem dX6_howManyRingWith_52 : decode cX6_howManyRingWith 52 = .ok (.invokestatic 176, 3) := by decide +kernel
theorem dX6_howManyRingWith_55 : decode cX6_howManyRingWith 55 = .ok (.ireturn, 1) := by decide +kernel
theorem dX6_playWithout_0 : decode cX6_playWithout 0 = .ok (.aload_n 0, 1) := by decide +kernel
theorem dX6_playWithout_1 : decode cX6_playWithout 1 = .ok (.getfield 51, 3) := by decide +kernel
theorem dX6_playWithout_4 : decode cX6_playWithout 4 = .ok (.aload_n 0, 1) := by decide +kernel
theorem dX6_playWithout_5 : decode cX6_playWithout 5 = .ok (.getfield 28, 3) := by decide +kernel
theorem dX6_playWithout_8 : decode cX6_playWithout 8 = .ok (.aload_n 0, 1) := by decide +kernel
theorem dX6_playWithout_9 : decode cX6_playWithout 9 = .ok (.getfield 12, 3) := by decide +kernel
theorem dX6_playWithout_12 : decode cX6_playWithout 12 = .ok (.getfield 132, 3) := by decide +kernel
theorem dX6_playWithout_15 : decode cX6_playWithout 15 = .ok (.aload_n 0, 1) := by decide +kernel
theorem dX6_playWithout_16 : decode cX6_playWithout 16 = .ok (.getfield 12, 3) := by decide +kernel
theorem dX6_playWithout_19 : decode cX6_playWithout 19 = .ok (.invokevirtual 251, 3) := by decide +kernel
theorem dX6_playWithout_22 : decode cX6_playWithout 22 = .ok (.iconst 1, 1) := by decide +kernel
theorem dX6_playWithout_23 : decode cX6_playWithout 23 = .ok (.iload_n 1, 1) := by decide +kernel
theorem dX6_playWithout_24 : decode cX6_playWithout 24 = .ok (.ishl, 1) := by decide +kernel
theorem dX6_playWithout_25 : decode cX6_playWithout 25 = .ok (.iconst (-1), 1) := by decide +kernel
theorem dX6_playWithout_26 : decode cX6_playWithout 26 = .ok (.ixor, 1) := by decide +kernel
theorem dX6_playWithout_27 : decode cX6_playWithout 27 = .ok (.iand, 1) := by decide +kernel
theorem dX6_playWithout_28 : decode cX6_playWithout 28 = .ok (.iload_n 2, 1) := by decide +kernel
theorem dX6_playWithout_29 : decode cX6_playWithout 29 = .ok (.invokevirtual 254, 3) := by decide +kernel
theorem dX6_playWithout_32 : decode cX6_playWithout 32 = .ok (.return_, 1) := by decide +kernel
theorem dX6_wholeAt_0 : decode cX6_wholeAt 0 = .ok (.aload_n 0, 1) := by decide +kernel
theorem dX6_wholeAt_1 : decode cX6_wholeAt 1 = .ok (.invokevirtual 146, 3) := by decide +kernel
theorem dX6_wholeAt_4 : decode cX6_wholeAt 4 = .ok (.astore 4, 2) := by decide +kernel
theorem dX6_wholeAt_6 : decode cX6_wholeAt 6 = .ok (.iconst 0, 1) := by decide +kernel
theorem dX6_wholeAt_7 : decode cX6_wholeAt 7 = .ok (.istore 5, 2) := by decide +kernel
theorem dX6_wholeAt_9 : decode cX6_wholeAt 9 = .ok (.iconst 0, 1) := by decide +kernel
theorem dX6_wholeAt_10 : decode cX6_wholeAt 10 = .ok (.istore 6, 2) := by decide +kernel
theorem dX6_wholeAt_12 : decode cX6_wholeAt 12 = .ok (.iload 6, 2) := by decide +kernel
theorem dX6_wholeAt_14 : decode cX6_wholeAt 14 = .ok (.sipush 400, 3) := by decide +kernel
theorem dX6_wholeAt_17 : decode cX6_wholeAt 17 = .ok (.if_icmp .ge 37, 3) := by decide +kernel
theorem dX6_wholeAt_20 : decode cX6_wholeAt 20 = .ok (.aload 4, 2) := by decide +kernel
theorem dX6_wholeAt_22 : decode cX6_wholeAt 22 = .ok (.aload_n 1, 1) := by decide +kernel
theorem dX6_wholeAt_23 : decode cX6_wholeAt 23 = .ok (.iload_n 2, 1) := by decide +kernel
theorem dX6_wholeAt_24 : decode cX6_wholeAt 24 = .ok (.iload 5, 2) := by decide +kernel
theorem dX6_wholeAt_26 : decode cX6_wholeAt 26 = .ok (.iadd, 1) := by decide +kernel
theorem dX6_wholeAt_27 : decode cX6_wholeAt 27 = .ok (.iaload, 1) := by decide +kernel
theorem dX6_wholeAt_28 : decode cX6_wholeAt 28 = .ok (.iload 6, 2) := by decide +kernel
theorem dX6_wholeAt_30 : decode cX6_wholeAt 30 = .ok (.invokevirtual 150, 3) := by decide +kernel
theorem dX6_wholeAt_33 : decode cX6_wholeAt 33 = .ok (.ifCond .eq 15, 3) := by decide +kernel
theorem dX6_wholeAt_36 : decode cX6_wholeAt 36 = .ok (.iinc 5 1, 3) := by decide +kernel
theorem dX6_wholeAt_39 : decode cX6_wholeAt 39 = .ok (.iload 5, 2) := by decide +kernel
theorem dX6_wholeAt_41 : decode cX6_wholeAt 41 = .ok (.iload_n 3, 1) := by decide +kernel
theorem dX6_wholeAt_42 : decode cX6_wholeAt 42 = .ok (.if_icmp .ne 6, 3) := by decide +kernel
theorem dX6_wholeAt_45 : decode cX6_wholeAt 45 = .ok (.iload 6, 2) := by decide +kernel
theorem dX6_wholeAt_47 : decode cX6_wholeAt 47 = .ok (.ireturn, 1) := by decide +kernel
theorem dX6_wholeAt_48 : decode cX6_wholeAt 48 = .ok (.iinc 6 1, 3) := by decide +kernel
theorem dX6_wholeAt_51 : decode cX6_wholeAt 51 = .ok (.goto (-39), 3) := by decide +kernel
theorem dX6_wholeAt_54 : decode cX6_wholeAt 54 = .ok (.bipush (-9), 2) := by decide +kernel
theorem dX6_wholeAt_56 : decode cX6_wholeAt 56 = .ok (.ireturn, 1) := by decide +kernel
theorem dX6_leave_0 : decode cX6_leave 0 = .ok (.aload_n 0, 1) := by decide +kernel
theorem dX6_leave_1 : decode cX6_leave 1 = .ok (.bipush 31, 2) := by decide +kernel
theorem dX6_leave_3 : decode cX6_leave 3 = .ok (.aload_n 0, 1) := by decide +kernel
theorem dX6_leave_4 : decode cX6_leave 4 = .ok (.getfield 248, 3) := by decide +kernel
theorem dX6_leave_7 : decode cX6_leave 7 = .ok (.imul, 1) := by decide +kernel
theorem dX6_leave_8 : decode cX6_leave 8 = .ok (.iload_n 1, 1) := by decide +kernel
theorem dX6_leave_9 : decode cX6_leave 9 = .ok (.iadd, 1) := by decide +kernel
theorem dX6_leave_10 : decode cX6_leave 10 = .ok (.putfield 248, 3) := by decide +kernel
theorem dX6_leave_13 : decode cX6_leave 13 = .ok (.return_, 1) := by decide +kernel
theorem dX6_bellTells_0 : decode cX6_bellTells 0 = .ok (.aload_n 0, 1) := by decide +kernel
theorem dX6_bellTells_1 : decode cX6_bellTells 1 = .ok (.iconst 1, 1) := by decide +kernel
theorem dX6_bellTells_2 : decode cX6_bellTells 2 = .ok (.invokevirtual 262, 3) := by decide +kernel
theorem dX6_bellTells_5 : decode cX6_bellTells 5 = .ok (.aload_n 0, 1) := by decide +kernel
theorem dX6_bellTells_6 : decode cX6_bellTells 6 = .ok (.getfield 12, 3) := by decide +kernel
theorem dX6_bellTells_9 : decode cX6_bellTells 9 = .ok (.getfield 111, 3) := by decide +kernel
theorem dX6_bellTells_12 : decode cX6_bellTells 12 = .ok (.iload_n 1, 1) := by decide +kernel
theorem dX6_bellTells_13 : decode cX6_bellTells 13 = .ok (.iaload, 1) := by decide +kernel
theorem dX6_bellTells_14 : decode cX6_bellTells 14 = .ok (.ireturn, 1) := by decide +kernel
theorem dX6_greatTells_0 : decode cX6_greatTells 0 = .ok (.aload_n 0, 1) := by decide +kernel
theorem dX6_greatTells_1 : decode cX6_greatTells 1 = .ok (.iconst 2, 1) := by decide +kernel
theorem dX6_greatTells_2 : decode cX6_greatTells 2 = .ok (.invokevirtual 262, 3) := by decide +kernel
theorem dX6_greatTells_5 : decode cX6_greatTells 5 = .ok (.aload_n 0, 1) := by decide +kernel
theorem dX6_greatTells_6 : decode cX6_greatTells 6 = .ok (.iload_n 1, 1) := by decide +kernel
theorem dX6_greatTells_7 : decode cX6_greatTells 7 = .ok (.invokevirtual 239, 3) := by decide +kernel
theorem dX6_greatTells_10 : decode cX6_greatTells 10 = .ok (.bipush 100, 2) := by decide +kernel
theorem dX6_greatTells_12 : decode cX6_greatTells 12 = .ok (.iadd, 1) := by decide +kernel
theorem dX6_greatTells_13 : decode cX6_greatTells 13 = .ok (.ireturn, 1) := by decide +kernel
theorem dX6_deafTells_0 : decode cX6_deafTells 0 = .ok (.aload_n 0, 1) := by decide +kernel
theorem dX6_deafTells_1 : decode cX6_deafTells 1 = .ok (.iconst 3, 1) := by decide +kernel
theorem dX6_deafTells_2 : decode cX6_deafTells 2 = .ok (.invokevirtual 262, 3) := by decide +kernel
theorem dX6_deafTells_5 : decode cX6_deafTells 5 = .ok (.aload_n 0, 1) := by decide +kernel
theorem dX6_deafTells_6 : decode cX6_deafTells 6 = .ok (.iload_n 1, 1) := by decide +kernel
theorem dX6_deafTells_7 : decode cX6_deafTells 7 = .ok (.invokevirtual 233, 3) := by decide +kernel
theorem dX6_deafTells_10 : decode cX6_deafTells 10 = .ok (.istore_n 2, 1) := by decide +kernel
theorem dX6_deafTells_11 : decode cX6_deafTells 11 = .ok (.iload_n 2, 1) := by decide +kernel
theorem dX6_deafTells_12 : decode cX6_deafTells 12 = .ok (.aload_n 0, 1) := by decide +kernel
theorem dX6_deafTells_13 : decode cX6_deafTells 13 = .ok (.iload_n 1, 1) := by decide +kernel
theorem dX6_deafTells_14 : decode cX6_deafTells 14 = .ok (.invokevirtual 239, 3) := by decide +kernel
theorem dX6_deafTells_17 : decode cX6_deafTells 17 = .ok (.iadd, 1) := by decide +kernel
theorem dX6_deafTells_18 : decode cX6_deafTells 18 = .ok (.ireturn, 1) := by decide +kernel
theorem dX6_lentHailed_0 : decode cX6_lentHailed 0 = .ok (.aload_n 0, 1) := by decide +kernel
theorem dX6_lentHailed_1 : decode cX6_lentHailed 1 = .ok (.iconst 4, 1) := by decide +kernel
theorem dX6_lentHailed_2 : decode cX6_lentHailed 2 = .ok (.invokevirtual 262, 3) := by decide +kernel
theorem dX6_lentHailed_5 : decode cX6_lentHailed 5 = .ok (.iload_n 1, 1) := by decide +kernel
theorem dX6_lentHailed_6 : decode cX6_lentHailed 6 = .ok (.ireturn, 1) := by decide +kernel
theorem dX6_deafHailed_0 : decode cX6_deafHailed 0 = .ok (.aload_n 0, 1) := by decide +kernel
theorem dX6_deafHailed_1 : decode cX6_deafHailed 1 = .ok (.iconst 5, 1) := by decide +kernel
theorem dX6_deafHailed_2 : decode cX6_deafHailed 2 = .ok (.invokevirtual 262, 3) := by decide +kernel
theorem dX6_deafHailed_5 : decode cX6_deafHailed 5 = .ok (.bipush 90, 2) := by decide +kernel
theorem dX6_deafHailed_7 : decode cX6_deafHailed 7 = .ok (.ireturn, 1) := by decide +kernel
theorem dJ6_bitCount_0f7a4_0 : decode cJ6_bitCount_0f7a4 0 = .ok (.iload_n 0, 1) := by decide +kernel
theorem dJ6_bitCount_0f7a4_1 : decode cJ6_bitCount_0f7a4 1 = .ok (.iload_n 0, 1) := by decide +kernel
theorem dJ6_bitCount_0f7a4_2 : decode cJ6_bitCount_0f7a4 2 = .ok (.iconst 1, 1) := by decide +kernel
theorem dJ6_bitCount_0f7a4_3 : decode cJ6_bitCount_0f7a4 3 = .ok (.iushr, 1) := by decide +kernel
theorem dJ6_bitCount_0f7a4_4 : decode cJ6_bitCount_0f7a4 4 = .ok (.ldc_w 265, 3) := by decide +kernel
theorem dJ6_bitCount_0f7a4_7 : decode cJ6_bitCount_0f7a4 7 = .ok (.iand, 1) := by decide +kernel
theorem dJ6_bitCount_0f7a4_8 : decode cJ6_bitCount_0f7a4 8 = .ok (.isub, 1) := by decide +kernel
theorem dJ6_bitCount_0f7a4_9 : decode cJ6_bitCount_0f7a4 9 = .ok (.istore_n 0, 1) := by decide +kernel
theorem dJ6_bitCount_0f7a4_10 : decode cJ6_bitCount_0f7a4 10 = .ok (.iload_n 0, 1) := by decide +kernel
theorem dJ6_bitCount_0f7a4_11 : decode cJ6_bitCount_0f7a4 11 = .ok (.ldc_w 266, 3) := by decide +kernel
theorem dJ6_bitCount_0f7a4_14 : decode cJ6_bitCount_0f7a4 14 = .ok (.iand, 1) := by decide +kernel
theorem dJ6_bitCount_0f7a4_15 : decode cJ6_bitCount_0f7a4 15 = .ok (.iload_n 0, 1) := by decide +kernel
theorem dJ6_bitCount_0f7a4_16 : decode cJ6_bitCount_0f7a4 16 = .ok (.iconst 2, 1) := by decide +kernel
theorem dJ6_bitCount_0f7a4_17 : decode cJ6_bitCount_0f7a4 17 = .ok (.iushr, 1) := by decide +kernel
theorem dJ6_bitCount_0f7a4_18 : decode cJ6_bitCount_0f7a4 18 = .ok (.ldc_w 266, 3) := by decide +kernel
theorem dJ6_bitCount_0f7a4_21 : decode cJ6_bitCount_0f7a4 21 = .ok (.iand, 1) := by decide +kernel
theorem dJ6_bitCount_0f7a4_22 : decode cJ6_bitCount_0f7a4 22 = .ok (.iadd, 1) := by decide +kernel
theorem dJ6_bitCount_0f7a4_23 : decode cJ6_bitCount_0f7a4 23 = .ok (.istore_n 0, 1) := by decide +kernel
theorem dJ6_bitCount_0f7a4_24 : decode cJ6_bitCount_0f7a4 24 = .ok (.iload_n 0, 1) := by decide +kernel
theorem dJ6_bitCount_0f7a4_25 : decode cJ6_bitCount_0f7a4 25 = .ok (.iload_n 0, 1) := by decide +kernel
theorem dJ6_bitCount_0f7a4_26 : decode cJ6_bitCount_0f7a4 26 = .ok (.iconst 4, 1) := by decide +kernel
theorem dJ6_bitCount_0f7a4_27 : decode cJ6_bitCount_0f7a4 27 = .ok (.iushr, 1) := by decide +kernel
theorem dJ6_bitCount_0f7a4_28 : decode cJ6_bitCount_0f7a4 28 = .ok (.iadd, 1) := by decide +kernel
theorem dJ6_bitCount_0f7a4_29 : decode cJ6_bitCount_0f7a4 29 = .ok (.ldc_w 267, 3) := by decide +kernel
theorem dJ6_bitCount_0f7a4_32 : decode cJ6_bitCount_0f7a4 32 = .ok (.iand, 1) := by decide +kernel
theorem dJ6_bitCount_0f7a4_33 : decode cJ6_bitCount_0f7a4 33 = .ok (.istore_n 0, 1) := by decide +kernel
theorem dJ6_bitCount_0f7a4_34 : decode cJ6_bitCount_0f7a4 34 = .ok (.iload_n 0, 1) := by decide +kernel
theorem dJ6_bitCount_0f7a4_35 : decode cJ6_bitCount_0f7a4 35 = .ok (.iload_n 0, 1) := by decide +kernel
theorem dJ6_bitCount_0f7a4_36 : decode cJ6_bitCount_0f7a4 36 = .ok (.bipush 8, 2) := by decide +kernel
theorem dJ6_bitCount_0f7a4_38 : decode cJ6_bitCount_0f7a4 38 = .ok (.iushr, 1) := by decide +kernel
theorem dJ6_bitCount_0f7a4_39 : decode cJ6_bitCount_0f7a4 39 = .ok (.iadd, 1) := by decide +kernel
theorem dJ6_bitCount_0f7a4_40 : decode cJ6_bitCount_0f7a4 40 = .ok (.istore_n 0, 1) := by decide +kernel
theorem dJ6_bitCount_0f7a4_41 : decode cJ6_bitCount_0f7a4 41 = .ok (.iload_n 0, 1) := by decide +kernel
theorem dJ6_bitCount_0f7a4_42 : decode cJ6_bitCount_0f7a4 42 = .ok (.iload_n 0, 1) := by decide +kernel
theorem dJ6_bitCount_0f7a4_43 : decode cJ6_bitCount_0f7a4 43 = .ok (.bipush 16, 2) := by decide +kernel
theorem dJ6_bitCount_0f7a4_45 : decode cJ6_bitCount_0f7a4 45 = .ok (.iushr, 1) := by decide +kernel
theorem dJ6_bitCount_0f7a4_46 : decode cJ6_bitCount_0f7a4 46 = .ok (.iadd, 1) := by decide +kernel
theorem dJ6_bitCount_0f7a4_47 : decode cJ6_bitCount_0f7a4 47 = .ok (.istore_n 0, 1) := by decide +kernel
theorem dJ6_bitCount_0f7a4_48 : decode cJ6_bitCount_0f7a4 48 = .ok (.iload_n 0, 1) := by decide +kernel
theorem dJ6_bitCount_0f7a4_49 : decode cJ6_bitCount_0f7a4 49 = .ok (.bipush 63, 2) := by decide +kernel
theorem dJ6_bitCount_0f7a4_51 : decode cJ6_bitCount_0f7a4 51 = .ok (.iand, 1) := by decide +kernel
theorem dJ6_bitCount_0f7a4_52 : decode cJ6_bitCount_0f7a4 52 = .ok (.ireturn, 1) := by decide +kernel
theorem dJ9_max_7cf53_0 : decode cJ9_max_7cf53 0 = .ok (.iload_n 0, 1) := by decide +kernel
theorem dJ9_max_7cf53_1 : decode cJ9_max_7cf53 1 = .ok (.iload_n 1, 1) := by decide +kernel
theorem dJ9_max_7cf53_2 : decode cJ9_max_7cf53 2 = .ok (.if_icmp .lt 7, 3) := by decide +kernel
theorem dJ9_max_7cf53_5 : decode cJ9_max_7cf53 5 = .ok (.iload_n 0, 1) := by decide +kernel
theorem dJ9_max_7cf53_6 : decode cJ9_max_7cf53 6 = .ok (.goto 4, 3) := by decide +kernel
theorem dJ9_max_7cf53_9 : decode cJ9_max_7cf53 9 = .ok (.iload_n 1, 1) := by decide +kernel
theorem dJ9_max_7cf53_10 : decode cJ9_max_7cf53 10 = .ok (.ireturn, 1) := by decide +kernel
theorem dJ7_fill_53178_0 : decode cJ7_fill_53178 0 = .ok (.iconst 0, 1) := by decide +kernel
theorem dJ7_fill_53178_1 : decode cJ7_fill_53178 1 = .ok (.istore_n 2, 1) := by decide +kernel
theorem dJ7_fill_53178_2 : decode cJ7_fill_53178 2 = .ok (.aload_n 0, 1) := by decide +kernel
theorem dJ7_fill_53178_3 : decode cJ7_fill_53178 3 = .ok (.arraylength, 1) := by decide +kernel
theorem dJ7_fill_53178_4 : decode cJ7_fill_53178 4 = .ok (.istore_n 3, 1) := by decide +kernel
theorem dJ7_fill_53178_5 : decode cJ7_fill_53178 5 = .ok (.iload_n 2, 1) := by decide +kernel
theorem dJ7_fill_53178_6 : decode cJ7_fill_53178 6 = .ok (.iload_n 3, 1) := by decide +kernel
theorem dJ7_fill_53178_7 : decode cJ7_fill_53178 7 = .ok (.if_icmp .ge 13, 3) := by decide +kernel
theorem dJ7_fill_53178_10 : decode cJ7_fill_53178 10 = .ok (.aload_n 0, 1) := by decide +kernel
theorem dJ7_fill_53178_11 : decode cJ7_fill_53178 11 = .ok (.iload_n 2, 1) := by decide +kernel
theorem dJ7_fill_53178_12 : decode cJ7_fill_53178 12 = .ok (.iload_n 1, 1) := by decide +kernel
theorem dJ7_fill_53178_13 : decode cJ7_fill_53178 13 = .ok (.iastore, 1) := by decide +kernel
theorem dJ7_fill_53178_14 : decode cJ7_fill_53178 14 = .ok (.iinc 2 1, 3) := by decide +kernel
theorem dJ7_fill_53178_17 : decode cJ7_fill_53178 17 = .ok (.goto (-12), 3) := by decide +kernel
theorem dJ7_fill_53178_20 : decode cJ7_fill_53178 20 = .ok (.return_, 1) := by decide +kernel
end
section
theorem dX7_init_0 : decode cX7_init 0 = .ok (.aload_n 0, 1) := by decide +kernel
theorem dX7_init_1 : decode cX7_init 1 = .ok (.invokespecial 1, 3) := by decide +kernel
theorem dX7_init_4 : decode cX7_init 4 = .ok (.aload_n 0, 1) := by decide +kernel
theorem dX7_init_5 : decode cX7_init 5 = .ok (.bipush 6, 2) := by decide +kernel
theorem dX7_init_7 : decode cX7_init 7 = .ok (.newarray .int, 2) := by decide +kernel
theorem dX7_init_9 : decode cX7_init 9 = .ok (.putfield 7, 3) := by decide +kernel
theorem dX7_init_12 : decode cX7_init 12 = .ok (.aload_n 0, 1) := by decide +kernel
theorem dX7_init_13 : decode cX7_init 13 = .ok (.bipush 6, 2) := by decide +kernel
theorem dX7_init_15 : decode cX7_init 15 = .ok (.newarray .int, 2) := by decide +kernel
theorem dX7_init_17 : decode cX7_init 17 = .ok (.putfield 13, 3) := by decide +kernel
theorem dX7_init_20 : decode cX7_init 20 = .ok (.aload_n 0, 1) := by decide +kernel
theorem dX7_init_21 : decode cX7_init 21 = .ok (.bipush 9, 2) := by decide +kernel
theorem dX7_init_23 : decode cX7_init 23 = .ok (.newarray .int, 2) := by decide +kernel
theorem dX7_init_25 : decode cX7_init 25 = .ok (.putfield 16, 3) := by decide +kernel
theorem dX7_init_28 : decode cX7_init 28 = .ok (.aload_n 0, 1) := by decide +kernel
theorem dX7_init_29 : decode cX7_init 29 = .ok (.bipush 9, 2) := by decide +kernel
theorem dX7_init_31 : decode cX7_init 31 = .ok (.newarray .int, 2) := by decide +kernel
theorem dX7_init_33 : decode cX7_init 33 = .ok (.putfield 19, 3) := by decide +kernel
theorem dX7_init_36 : decode cX7_init 36 = .ok (.aload_n 0, 1) := by decide +kernel
theorem dX7_init_37 : decode cX7_init 37 = .ok (.bipush 9, 2) := by decide +kernel
theorem dX7_init_39 : decode cX7_init 39 = .ok (.newarray .int, 2) := by decide +kernel
theorem dX7_init_41 : decode cX7_init 41 = .ok (.putfield 22, 3) := by decide +kernel
theorem dX7_init_44 : decode cX7_init 44 = .ok (.aload_n 0, 1) := by decide +kernel
theorem dX7_init_45 : decode cX7_init 45 = .ok (.bipush 6, 2) := by decide +kernel
theorem dX7_init_47 : decode cX7_init 47 = .ok (.newarray .int, 2) := by decide +kernel
theorem dX7_init_49 : decode cX7_init 49 = .ok (.putfield 25, 3) := by decide +kernel
theorem dX7_init_52 : decode cX7_init 52 = .ok (.aload_n 0, 1) := by decide +kernel
theorem dX7_init_53 : decode cX7_init 53 = .ok (.bipush 6, 2) := by decide +kernel
theorem dX7_init_55 : decode cX7_init 55 = .ok (.newarray .int, 2) := by decide +kernel
theorem dX7_init_57 : decode cX7_init 57 = .ok (.putfield 28, 3) := by decide +kernel
theorem dX7_init_60 : decode cX7_init 60 = .ok (.aload_n 0, 1) := by decide +kernel
theorem dX7_init_61 : decode cX7_init 61 = .ok (.bipush 8, 2) := by decide +kernel
theorem dX7_init_63 : decode cX7_init 63 = .ok (.newarray .int, 2) := by decide +kernel
theorem dX7_init_65 : decode cX7_init 65 = .ok (.putfield 31, 3) := by decide +kernel
theorem dX7_init_68 : decode cX7_init 68 = .ok (.aload_n 0, 1) := by decide +kernel
theorem dX7_init_69 : decode cX7_init 69 = .ok (.bipush 8, 2) := by decide +kernel
theorem dX7_init_71 : decode cX7_init 71 = .ok (.newarray .int, 2) := by decide +kernel
theorem dX7_init_73 : decode cX7_init 73 = .ok (.putfield 34, 3) := by decide +kernel
theorem dX7_init_76 : decode cX7_init 76 = .ok (.aload_n 0, 1) := by decide +kernel
theorem dX7_init_77 : decode cX7_init 77 = .ok (.bipush 8, 2) := by decide +kernel
theorem dX7_init_79 : decode cX7_init 79 = .ok (.newarray .int, 2) := by decide +kernel
theorem dX7_init_81 : decode cX7_init 81 = .ok (.putfield 37, 3) := by decide +kernel
theorem dX7_init_84 : decode cX7_init 84 = .ok (.aload_n 0, 1) := by decide +kernel
theorem dX7_init_85 : decode cX7_init 85 = .ok (.bipush 6, 2) := by decide +kernel
theorem dX7_init_87 : decode cX7_init 87 = .ok (.newarray .int, 2) := by decide +kernel
theorem dX7_init_89 : decode cX7_init 89 = .ok (.putfield 40, 3) := by decide +kernel
theorem dX7_init_92 : decode cX7_init 92 = .ok (.aload_n 0, 1) := by decide +kernel
theorem dX7_init_93 : decode cX7_init 93 = .ok (.bipush 6, 2) := by decide +kernel
theorem dX7_init_95 : decode cX7_init 95 = .ok (.newarray .int, 2) := by decide +kernel
theorem dX7_init_97 : decode cX7_init 97 = .ok (.putfield 43, 3) := by decide +kernel
theorem dX7_init_100 : decode cX7_init 100 = .ok (.aload_n 0, 1) := by decide +kernel
theorem dX7_init_101 : decode cX7_init 101 = .ok (.sipush 400, 3) := by decide +kernel
theorem dX7_init_104 : decode cX7_init 104 = .ok (.newarray .int, 2) := by decide +kernel
theorem dX7_init_106 : decode cX7_init 106 = .ok (.putfield 46, 3) := by decide +kernel
theorem dX7_init_109 : decode cX7_init 109 = .ok (.aload_n 0, 1) := by decide +kernel
theorem dX7_init_110 : decode cX7_init 110 = .ok (.bipush 36, 2) := by decide +kernel
theorem dX7_init_112 : decode cX7_init 112 = .ok (.newarray .int, 2) := by decide +kernel
theorem dX7_init_114 : decode cX7_init 114 = .ok (.putfield 49, 3) := by decide +kernel
theorem dX7_init_117 : decode cX7_init 117 = .ok (.aload_n 0, 1) := by decide +kernel
theorem dX7_init_118 : decode cX7_init 118 = .ok (.bipush 6, 2) := by decide +kernel
theorem dX7_init_120 : decode cX7_init 120 = .ok (.newarray .int, 2) := by decide +kernel
theorem dX7_init_122 : decode cX7_init 122 = .ok (.putfield 52, 3) := by decide +kernel
theorem dX7_init_125 : decode cX7_init 125 = .ok (.aload_n 0, 1) := by decide +kernel
theorem dX7_init_126 : decode cX7_init 126 = .ok (.bipush 6, 2) := by decide +kernel
theorem dX7_init_128 : decode cX7_init 128 = .ok (.newarray .int, 2) := by decide +kernel
theorem dX7_init_130 : decode cX7_init 130 = .ok (.putfield 55, 3) := by decide +kernel
theorem dX7_init_133 : decode cX7_init 133 = .ok (.aload_n 0, 1) := by decide +kernel
theorem dX7_init_134 : decode cX7_init 134 = .ok (.bipush 6, 2) := by decide +kernel
theorem dX7_init_136 : decode cX7_init 136 = .ok (.newarray .int, 2) := by decide +kernel
theorem dX7_init_138 : decode cX7_init 138 = .ok (.putfield 58, 3) := by decide +kernel
theorem dX7_init_141 : decode cX7_init 141 = .ok (.aload_n 0, 1) := by decide +kernel
theorem dX7_init_142 : decode cX7_init 142 = .ok (.bipush 6, 2) := by decide +kernel
theorem dX7_init_144 : decode cX7_init 144 = .ok (.newarray .int, 2) := by decide +kernel
theorem dX7_init_146 : decode cX7_init 146 = .ok (.putfield 61, 3) := by decide +kernel
theorem dX7_init_149 : decode cX7_init 149 = .ok (.aload_n 0, 1) := by decide +kernel
theorem dX7_init_150 : decode cX7_init 150 = .ok (.bipush 6, 2) := by decide +kernel
theorem dX7_init_152 : decode cX7_init 152 = .ok (.newarray .boolean, 2) := by decide +kernel
theorem dX7_init_154 : decode cX7_init 154 = .ok (.putfield 64, 3) := by decide +kernel
theorem dX7_init_157 : decode cX7_init 157 = .ok (.aload_n 0, 1) := by decide +kernel
theorem dX7_init_158 : decode cX7_init 158 = .ok (.iconst 4, 1) := by decide +kernel
theorem dX7_init_159 : decode cX7_init 159 = .ok (.newarray .int, 2) := by decide +kernel
theorem dX7_init_161 : decode cX7_init 161 = .ok (.putfield 68, 3) := by decide +kernel
theorem dX7_init_164 : decode cX7_init 164 = .ok (.aload_n 0, 1) := by decide +kernel
theorem dX7_init_165 : decode cX7_init 165 = .ok (.iconst 4, 1) := by decide +kernel
theorem dX7_init_166 : decode cX7_init 166 = .ok (.newarray .int, 2) := by decide +kernel
theorem dX7_init_168 : decode cX7_init 168 = .ok (.putfield 71, 3) := by decide +kernel
theorem dX7_init_171 : decode cX7_init 171 = .ok (.aload_n 0, 1) := by decide +kernel
theorem dX7_init_172 : decode cX7_init 172 = .ok (.sipush 240, 3) := by decide +kernel
theorem dX7_init_175 : decode cX7_init 175 = .ok (.newarray .int, 2) := by decide +kernel
theorem dX7_init_177 : decode cX7_init 177 = .ok (.putfield 74, 3) := by decide +kernel
theorem dX7_init_180 : decode cX7_init 180 = .ok (.aload_n 0, 1) := by decide +kernel
theorem dX7_init_181 : decode cX7_init 181 = .ok (.bipush 60, 2) := by decide +kernel
theorem dX7_init_183 : decode cX7_init 183 = .ok (.newarray .int, 2) := by decide +kernel
theorem dX7_init_185 : decode cX7_init 185 = .ok (.putfield 77, 3) := by decide +kernel
theorem dX7_init_188 : decode cX7_init 188 = .ok (.iconst 0, 1) := by decide +kernel
theorem dX7_init_189 : decode cX7_init 189 = .ok (.istore_n 1, 1) := by decide +kernel
theorem dX7_init_190 : decode cX7_init 190 = .ok (.iload_n 1, 1) := by decide +kernel
theorem dX7_init_191 : decode cX7_init 191 = .ok (.iconst 4, 1) := by decide +kernel
theorem dX7_init_192 : decode cX7_init 192 = .ok (.if_icmp .ge 16, 3) := by decide +kernel
theorem dX7_init_195 : decode cX7_init 195 = .ok (.aload_n 0, 1) := by decide +kernel
theorem dX7_init_196 : decode cX7_init 196 = .ok (.getfield 68, 3) := by decide +kernel
theorem dX7_init_199 : decode cX7_init 199 = .ok (.iload_n 1, 1) := by decide +kernel
theorem dX7_init_200 : decode cX7_init 200 = .ok (.iconst (-1), 1) := by decide +kernel
theorem dX7_init_201 : decode cX7_init 201 = .ok (.iastore, 1) := by decide +kernel
theorem dX7_init_202 : decode cX7_init 202 = .ok (.iinc 1 1, 3) := by decide +kernel
theorem dX7_init_205 : decode cX7_init 205 = .ok (.goto (-15), 3) := by decide +kernel
theorem dX7_init_208 : decode cX7_init 208 = .ok (.return_, 1) := by decide +kernel
theorem dX7_in_0 : decode cX7_in 0 = .ok (.lload_n 0, 1) := by decide +kernel
theorem dX7_in_1 : decode cX7_in 1 = .ok (.lload_n 2, 1) := by decide +kernel
theorem dX7_in_2 : decode cX7_in 2 = .ok (.lcmp, 1) := by decide +kernel
theorem dX7_in_3 : decode cX7_in 3 = .ok (.ifCond .lt 14, 3) := by decide +kernel
theorem dX7_in_6 : decode cX7_in 6 = .ok (.lload_n 0, 1) := by decide +kernel
theorem dX7_in_7 : decode cX7_in 7 = .ok (.lload 4, 2) := by decide +kernel
theorem dX7_in_9 : decode cX7_in 9 = .ok (.lcmp, 1) := by decide +kernel
theorem dX7_in_10 : decode cX7_in 10 = .ok (.ifCond .gt 7, 3) := by decide +kernel
theorem dX7_in_13 : decode cX7_in 13 = .ok (.iconst 1, 1) := by decide +kernel
theorem dX7_in_14 : decode cX7_in 14 = .ok (.goto 4, 3) := by decide +kernel
theorem dX7_in_17 : decode cX7_in 17 = .ok (.iconst 0, 1) := by decide +kernel
theorem dX7_in_18 : decode cX7_in 18 = .ok (.ireturn, 1) := by decide +kernel
theorem dX7_lost_0 : decode cX7_lost 0 = .ok (.ldc2_w 80, 3) := by decide +kernel
theorem dX7_lost_3 : decode cX7_lost 3 = .ok (.lreturn, 1) := by decide +kernel
theorem dX7_isIn_0 : decode cX7_isIn 0 = .ok (.iload_n 0, 1) := by decide +kernel
theorem dX7_isIn_1 : decode cX7_isIn 1 = .ok (.iload_n 1, 1) := by decide +kernel
theorem dX7_isIn_2 : decode cX7_isIn 2 = .ok (.ishr, 1) := by decide +kernel
theorem dX7_isIn_3 : decode cX7_isIn 3 = .ok (.iconst 1, 1) := by decide +kernel
theorem dX7_isIn_4 : decode cX7_isIn 4 = .ok (.iand, 1) := by decide +kernel
theorem dX7_isIn_5 : decode cX7_isIn 5 = .ok (.iconst 1, 1) := by decide +kernel
theorem dX7_isIn_6 : decode cX7_isIn 6 = .ok (.if_icmp .ne 7, 3) := by decide +kernel
theorem dX7_isIn_9 : decode cX7_isIn 9 = .ok (.iconst 1, 1) := by decide +kernel
theorem dX7_isIn_10 : decode cX7_isIn 10 = .ok (.goto 4, 3) := by decide +kernel
theorem dX7_isIn_13 : decode cX7_isIn 13 = .ok (.iconst 0, 1) := by decide +kernel
theorem dX7_isIn_14 : decode cX7_isIn 14 = .ok (.ireturn, 1) := by decide +kernel
theorem dX7_bits_0 : decode cX7_bits 0 = .ok (.iconst 0, 1) := by decide +kernel
theorem dX7_bits_1 : decode cX7_bits 1 = .ok (.istore_n 1, 1) := by decide +kernel
theorem dX7_bits_2 : decode cX7_bits 2 = .ok (.iload_n 0, 1) := by decide +kernel
theorem dX7_bits_3 : decode cX7_bits 3 = .ok (.istore_n 2, 1) := by decide +kernel
theorem dX7_bits_4 : decode cX7_bits 4 = .ok (.iload_n 2, 1) := by decide +kernel
theorem dX7_bits_5 : decode cX7_bits 5 = .ok (.ifCond .le 16, 3) := by decide +kernel
theorem dX7_bits_8 : decode cX7_bits 8 = .ok (.iload_n 1, 1) := by decide +kernel
theorem dX7_bits_9 : decode cX7_bits 9 = .ok (.iload_n 2, 1) := by decide +kernel
theorem dX7_bits_10 : decode cX7_bits 10 = .ok (.iconst 1, 1) := by decide +kernel
theorem dX7_bits_11 : decode cX7_bits 11 = .ok (.iand, 1) := by decide +kernel
theorem dX7_bits_12 : decode cX7_bits 12 = .ok (.iadd, 1) := by decide +kernel
theorem dX7_bits_13 : decode cX7_bits 13 = .ok (.istore_n 1, 1) := by decide +kernel
theorem dX7_bits_14 : decode cX7_bits 14 = .ok (.iload_n 2, 1) := by decide +kernel
theorem dX7_bits_15 : decode cX7_bits 15 = .ok (.iconst 1, 1) := by decide +kernel
theorem dX7_bits_16 : decode cX7_bits 16 = .ok (.ishr, 1) := by decide +kernel
theorem dX7_bits_17 : decode cX7_bits 17 = .ok (.istore_n 2, 1) := by decide +kernel
theorem dX7_bits_18 : decode cX7_bits 18 = .ok (.goto (-14), 3) := by decide +kernel
theorem dX7_bits_21 : decode cX7_bits 21 = .ok (.iload_n 1, 1) := by decide +kernel
theorem dX7_bits_22 : decode cX7_bits 22 = .ok (.ireturn, 1) := by decide +kernel
theorem dX7_told_0 : decode cX7_told 0 = .ok (.lload_n 0, 1) := by decide +kernel
theorem dX7_told_1 : decode cX7_told 1 = .ok (.lstore 5, 2) := by decide +kernel
theorem dX7_told_3 : decode cX7_told 3 = .ok (.lload_n 2, 1) := by decide +kernel
theorem dX7_told_4 : decode cX7_told 4 = .ok (.lstore 7, 2) := by decide +kernel
theorem dX7_told_6 : decode cX7_told 6 = .ok (.lload 7, 2) := by decide +kernel
theorem dX7_told_8 : decode cX7_told 8 = .ok (.lconst 0, 1) := by decide +kernel
theorem dX7_told_9 : decode cX7_told 9 = .ok (.lcmp, 1) := by decide +kernel
theorem dX7_told_10 : decode cX7_told 10 = .ok (.ifCond .eq 21, 3) := by decide +kernel
theorem dX7_told_13 : decode cX7_told 13 = .ok (.lload 5, 2) := by decide +kernel
theorem dX7_told_15 : decode cX7_told 15 = .ok (.lload 7, 2) := by decide +kernel
theorem dX7_told_17 : decode cX7_told 17 = .ok (.lrem, 1) := by decide +kernel
theorem dX7_told_18 : decode cX7_told 18 = .ok (.lstore 9, 2) := by decide +kernel
theorem dX7_told_20 : decode cX7_told 20 = .ok (.lload 7, 2) := by decide +kernel
theorem dX7_told_22 : decode cX7_told 22 = .ok (.lstore 5, 2) := by decide +kernel
theorem dX7_told_24 : decode cX7_told 24 = .ok (.lload 9, 2) := by decide +kernel
theorem dX7_told_26 : decode cX7_told 26 = .ok (.lstore 7, 2) := by decide +kernel
theorem dX7_told_28 : decode cX7_told 28 = .ok (.goto (-22), 3) := by decide +kernel
theorem dX7_told_31 : decode cX7_told 31 = .ok (.iload 4, 2) := by decide +kernel
theorem dX7_told_33 : decode cX7_told 33 = .ok (.ifCond .ne 7, 3) := by decide +kernel
theorem dX7_told_36 : decode cX7_told 36 = .ok (.lload_n 0, 1) := by decide +kernel
theorem dX7_told_37 : decode cX7_told 37 = .ok (.goto 4, 3) := by decide +kernel
theorem dX7_told_40 : decode cX7_told 40 = .ok (.lload_n 2, 1) := by decide +kernel
theorem dX7_told_41 : decode cX7_told 41 = .ok (.lload 5, 2) := by decide +kernel
theorem dX7_told_43 : decode cX7_told 43 = .ok (.ldiv, 1) := by decide +kernel
theorem dX7_told_44 : decode cX7_told 44 = .ok (.lreturn, 1) := by decide +kernel
theorem dX7_refused_0 : decode cX7_refused 0 = .ok (.aload_n 0, 1) := by decide +kernel
theorem dX7_refused_1 : decode cX7_refused 1 = .ok (.iconst 0, 1) := by decide +kernel
theorem dX7_refused_2 : decode cX7_refused 2 = .ok (.putfield 82, 3) := by decide +kernel
theorem dX7_refused_5 : decode cX7_refused 5 = .ok (.iload_n 1, 1) := by decide +kernel
theorem dX7_refused_6 : decode cX7_refused 6 = .ok (.ireturn, 1) := by decide +kernel
theorem dX7_failed_0 : decode cX7_failed 0 = .ok (.aload_n 0, 1) := by decide +kernel
theorem dX7_failed_1 : decode cX7_failed 1 = .ok (.iload_n 1, 1) := by decide +kernel
theorem dX7_failed_2 : decode cX7_failed 2 = .ok (.putfield 82, 3) := by decide +kernel
theorem dX7_failed_5 : decode cX7_failed 5 = .ok (.bipush (-10), 2) := by decide +kernel
theorem dX7_failed_7 : decode cX7_failed 7 = .ok (.iload_n 1, 1) := by decide +kernel
theorem dX7_failed_8 : decode cX7_failed 8 = .ok (.isub, 1) := by decide +kernel
theorem dX7_failed_9 : decode cX7_failed 9 = .ok (.ireturn, 1) := by decide +kernel
theorem dX7_failedLong_0 : decode cX7_failedLong 0 = .ok (.aload_n 0, 1) := by decide +kernel
theorem dX7_failedLong_1 : decode cX7_failedLong 1 = .ok (.iload_n 1, 1) := by decide +kernel
theorem dX7_failedLong_2 : decode cX7_failedLong 2 = .ok (.putfield 82, 3) := by decide +kernel
theorem dX7_failedLong_5 : decode cX7_failedLong 5 = .ok (.invokestatic 86, 3) := by decide +kernel
theorem dX7_failedLong_8 : decode cX7_failedLong 8 = .ok (.lreturn, 1) := by decide +kernel
theorem dX7_noBell_0 : decode cX7_noBell 0 = .ok (.iload_n 1, 1) := by decide +kernel
theorem dX7_noBell_1 : decode cX7_noBell 1 = .ok (.i2l, 1) := by decide +kernel
theorem dX7_noBell_2 : decode cX7_noBell 2 = .ok (.lconst 0, 1) := by decide +kernel
theorem dX7_noBell_3 : decode cX7_noBell 3 = .ok (.aload_n 0, 1) := by decide +kernel
theorem dX7_noBell_4 : decode cX7_noBell 4 = .ok (.getfield 90, 3) := by decide +kernel
theorem dX7_noBell_7 : decode cX7_noBell 7 = .ok (.i2l, 1) := by decide +kernel
theorem dX7_noBell_8 : decode cX7_noBell 8 = .ok (.lconst 1, 1) := by decide +kernel
theorem dX7_noBell_9 : decode cX7_noBell 9 = .ok (.lsub, 1) := by decide +kernel
theorem dX7_noBell_10 : decode cX7_noBell 10 = .ok (.invokestatic 93, 3) := by decide +kernel
theorem dX7_noBell_13 : decode cX7_noBell 13 = .ok (.ifCond .ne 7, 3) := by decide +kernel
theorem dX7_noBell_16 : decode cX7_noBell 16 = .ok (.iconst 1, 1) := by decide +kernel
theorem dX7_noBell_17 : decode cX7_noBell 17 = .ok (.goto 4, 3) := by decide +kernel
theorem dX7_noBell_20 : decode cX7_noBell 20 = .ok (.iconst 0, 1) := by decide +kernel
theorem dX7_noBell_21 : decode cX7_noBell 21 = .ok (.ireturn, 1) := by decide +kernel
theorem dX7_all_0 : decode cX7_all 0 = .ok (.iconst 1, 1) := by decide +kernel
theorem dX7_all_1 : decode cX7_all 1 = .ok (.aload_n 0, 1) := by decide +kernel
theorem dX7_all_2 : decode cX7_all 2 = .ok (.getfield 90, 3) := by decide +kernel
theorem dX7_all_5 : decode cX7_all 5 = .ok (.ishl, 1) := by decide +kernel
theorem dX7_all_6 : decode cX7_all 6 = .ok (.iconst 1, 1) := by decide +kernel
theorem dX7_all_7 : decode cX7_all 7 = .ok (.isub, 1) := by decide +kernel
theorem dX7_all_8 : decode cX7_all 8 = .ok (.ireturn, 1) := by decide +kernel
theorem dX7_codeAt_0 : decode cX7_codeAt 0 = .ok (.aload_n 0, 1) := by decide +kernel
theorem dX7_codeAt_1 : decode cX7_codeAt 1 = .ok (.getfield 97, 3) := by decide +kernel
theorem dX7_codeAt_4 : decode cX7_codeAt 4 = .ok (.iload_n 2, 1) := by decide +kernel
theorem dX7_codeAt_5 : decode cX7_codeAt 5 = .ok (.if_icmp .ge 17, 3) := by decide +kernel
theorem dX7_codeAt_8 : decode cX7_codeAt 8 = .ok (.aload_n 0, 1) := by decide +kernel
theorem dX7_codeAt_9 : decode cX7_codeAt 9 = .ok (.getfield 74, 3) := by decide +kernel
theorem dX7_codeAt_12 : decode cX7_codeAt 12 = .ok (.iload_n 1, 1) := by decide +kernel
theorem dX7_codeAt_13 : decode cX7_codeAt 13 = .ok (.aload_n 0, 1) := by decide +kernel
theorem dX7_codeAt_14 : decode cX7_codeAt 14 = .ok (.getfield 97, 3) := by decide +kernel
theorem dX7_codeAt_17 : decode cX7_codeAt 17 = .ok (.iadd, 1) := by decide +kernel
theorem dX7_codeAt_18 : decode cX7_codeAt 18 = .ok (.iaload, 1) := by decide +kernel
theorem dX7_codeAt_19 : decode cX7_codeAt 19 = .ok (.goto 5, 3) := by decide +kernel
theorem dX7_codeAt_22 : decode cX7_codeAt 22 = .ok (.bipush (-9), 2) := by decide +kernel
theorem dX7_codeAt_24 : decode cX7_codeAt 24 = .ok (.ireturn, 1) := by decide +kernel
theorem dX7_figure_0 : decode cX7_figure 0 = .ok (.aload_n 0, 1) := by decide +kernel
theorem dX7_figure_1 : decode cX7_figure 1 = .ok (.iload_n 1, 1) := by decide +kernel
theorem dX7_figure_2 : decode cX7_figure 2 = .ok (.iload_n 2, 1) := by decide +kernel
theorem dX7_figure_3 : decode cX7_figure 3 = .ok (.invokevirtual 100, 3) := by decide +kernel
theorem dX7_figure_6 : decode cX7_figure 6 = .ok (.bipush 48, 2) := by decide +kernel
theorem dX7_figure_8 : decode cX7_figure 8 = .ok (.isub, 1) := by decide +kernel
theorem dX7_figure_9 : decode cX7_figure 9 = .ok (.istore 5, 2) := by decide +kernel
theorem dX7_figure_11 : decode cX7_figure 11 = .ok (.iload 5, 2) := by decide +kernel
theorem dX7_figure_13 : decode cX7_figure 13 = .ok (.i2l, 1) := by decide +kernel
theorem dX7_figure_14 : decode cX7_figure 14 = .ok (.iload_n 3, 1) := by decide +kernel
theorem dX7_figure_15 : decode cX7_figure 15 = .ok (.i2l, 1) := by decide +kernel
theorem dX7_figure_16 : decode cX7_figure 16 = .ok (.iload 4, 2) := by decide +kernel
theorem dX7_figure_18 : decode cX7_figure 18 = .ok (.i2l, 1) := by decide +kernel
theorem dX7_figure_19 : decode cX7_figure 19 = .ok (.invokestatic 93, 3) := by decide +kernel
theorem dX7_figure_22 : decode cX7_figure 22 = .ok (.istore 6, 2) := by decide +kernel
theorem dX7_figure_24 : decode cX7_figure 24 = .ok (.aload_n 0, 1) := by decide +kernel
theorem dX7_figure_25 : decode cX7_figure 25 = .ok (.dup, 1) := by decide +kernel
theorem dX7_figure_26 : decode cX7_figure 26 = .ok (.getfield 97, 3) := by decide +kernel
theorem dX7_figure_29 : decode cX7_figure 29 = .ok (.iload 6, 2) := by decide +kernel
theorem dX7_figure_31 : decode cX7_figure 31 = .ok (.ifCond .eq 7, 3) := by decide +kernel
theorem dX7_figure_34 : decode cX7_figure 34 = .ok (.iconst 1, 1) := by decide +kernel
theorem dX7_figure_35 : decode cX7_figure 35 = .ok (.goto 4, 3) := by decide +kernel
theorem dX7_figure_38 : decode cX7_figure 38 = .ok (.iconst 0, 1) := by decide +kernel
theorem dX7_figure_39 : decode cX7_figure 39 = .ok (.iadd, 1) := by decide +kernel
theorem dX7_figure_40 : decode cX7_figure 40 = .ok (.putfield 97, 3) := by decide +kernel
theorem dX7_figure_43 : decode cX7_figure 43 = .ok (.iload 6, 2) := by decide +kernel
theorem dX7_figure_45 : decode cX7_figure 45 = .ok (.ifCond .eq 8, 3) := by decide +kernel
theorem dX7_figure_48 : decode cX7_figure 48 = .ok (.iload 5, 2) := by decide +kernel
theorem dX7_figure_50 : decode cX7_figure 50 = .ok (.goto 5, 3) := by decide +kernel
theorem dX7_figure_53 : decode cX7_figure 53 = .ok (.bipush (-9), 2) := by decide +kernel
theorem dX7_figure_55 : decode cX7_figure 55 = .ok (.ireturn, 1) := by decide +kernel
theorem dX7_readsBell_0 : decode cX7_readsBell 0 = .ok (.aload_n 0, 1) := by decide +kernel
theorem dX7_readsBell_1 : decode cX7_readsBell 1 = .ok (.iload_n 1, 1) := by decide +kernel
theorem dX7_readsBell_2 : decode cX7_readsBell 2 = .ok (.iload_n 2, 1) := by decide +kernel
theorem dX7_readsBell_3 : decode cX7_readsBell 3 = .ok (.invokevirtual 100, 3) := by decide +kernel
theorem dX7_readsBell_6 : decode cX7_readsBell 6 = .ok (.istore_n 3, 1) := by decide +kernel
theorem dX7_readsBell_7 : decode cX7_readsBell 7 = .ok (.aload_n 0, 1) := by decide +kernel
theorem dX7_readsBell_8 : decode cX7_readsBell 8 = .ok (.getfield 104, 3) := by decide +kernel
theorem dX7_readsBell_11 : decode cX7_readsBell 11 = .ok (.bipush 6, 2) := by decide +kernel
theorem dX7_readsBell_13 : decode cX7_readsBell 13 = .ok (.if_icmp .eq 21, 3) := by decide +kernel
theorem dX7_readsBell_16 : decode cX7_readsBell 16 = .ok (.iload_n 3, 1) := by decide +kernel
theorem dX7_readsBell_17 : decode cX7_readsBell 17 = .ok (.bipush 98, 2) := by decide +kernel
theorem dX7_readsBell_19 : decode cX7_readsBell 19 = .ok (.if_icmp .eq 17, 3) := by decide +kernel
theorem dX7_readsBell_22 : decode cX7_readsBell 22 = .ok (.iload_n 3, 1) := by decide +kernel
theorem dX7_readsBell_23 : decode cX7_readsBell 23 = .ok (.bipush 103, 2) := by decide +kernel
theorem dX7_readsBell_25 : decode cX7_readsBell 25 = .ok (.if_icmp .eq 11, 3) := by decide +kernel
theorem dX7_readsBell_28 : decode cX7_readsBell 28 = .ok (.iload_n 3, 1) := by decide +kernel
theorem dX7_readsBell_29 : decode cX7_readsBell 29 = .ok (.bipush 100, 2) := by decide +kernel
theorem dX7_readsBell_31 : decode cX7_readsBell 31 = .ok (.if_icmp .eq 5, 3) := by decide +kernel
theorem dX7_readsBell_34 : decode cX7_readsBell 34 = .ok (.iconst 0, 1) := by decide +kernel
theorem dX7_readsBell_35 : decode cX7_readsBell 35 = .ok (.ireturn, 1) := by decide +kernel
theorem dX7_readsBell_36 : decode cX7_readsBell 36 = .ok (.aload_n 0, 1) := by decide +kernel
theorem dX7_readsBell_37 : decode cX7_readsBell 37 = .ok (.dup, 1) := by decide +kernel
theorem dX7_readsBell_38 : decode cX7_readsBell 38 = .ok (.getfield 97, 3) := by decide +kernel
theorem dX7_readsBell_41 : decode cX7_readsBell 41 = .ok (.iconst 1, 1) := by decide +kernel
theorem dX7_readsBell_42 : decode cX7_readsBell 42 = .ok (.iadd, 1) := by decide +kernel
theorem dX7_readsBell_43 : decode cX7_readsBell 43 = .ok (.putfield 97, 3) := by decide +kernel
theorem dX7_readsBell_46 : decode cX7_readsBell 46 = .ok (.aload_n 0, 1) := by decide +kernel
theorem dX7_readsBell_47 : decode cX7_readsBell 47 = .ok (.iload_n 1, 1) := by decide +kernel
theorem dX7_readsBell_48 : decode cX7_readsBell 48 = .ok (.iload_n 2, 1) := by decide +kernel
theorem dX7_readsBell_49 : decode cX7_readsBell 49 = .ok (.iconst 1, 1) := by decide +kernel
theorem dX7_readsBell_50 : decode cX7_readsBell 50 = .ok (.iconst 3, 1) := by decide +kernel
theorem dX7_readsBell_51 : decode cX7_readsBell 51 = .ok (.invokevirtual 107, 3) := by decide +kernel
theorem dX7_readsBell_54 : decode cX7_readsBell 54 = .ok (.istore 4, 2) := by decide +kernel
theorem dX7_readsBell_56 : decode cX7_readsBell 56 = .ok (.iload 4, 2) := by decide +kernel
theorem dX7_readsBell_58 : decode cX7_readsBell 58 = .ok (.ifCond .ge 5, 3) := by decide +kernel
theorem dX7_readsBell_61 : decode cX7_readsBell 61 = .ok (.iconst 0, 1) := by decide +kernel
theorem dX7_readsBell_62 : decode cX7_readsBell 62 = .ok (.ireturn, 1) := by decide +kernel
theorem dX7_readsBell_63 : decode cX7_readsBell 63 = .ok (.aload_n 0, 1) := by decide +kernel
theorem dX7_readsBell_64 : decode cX7_readsBell 64 = .ok (.getfield 25, 3) := by decide +kernel
theorem dX7_readsBell_67 : decode cX7_readsBell 67 = .ok (.aload_n 0, 1) := by decide +kernel
theorem dX7_readsBell_68 : decode cX7_readsBell 68 = .ok (.getfield 104, 3) := by decide +kernel
theorem dX7_readsBell_71 : decode cX7_readsBell 71 = .ok (.iload_n 3, 1) := by decide +kernel
theorem dX7_readsBell_72 : decode cX7_readsBell 72 = .ok (.bipush 98, 2) := by decide +kernel
theorem dX7_readsBell_74 : decode cX7_readsBell 74 = .ok (.if_icmp .ne 7, 3) := by decide +kernel
theorem dX7_readsBell_77 : decode cX7_readsBell 77 = .ok (.iconst 0, 1) := by decide +kernel
theorem dX7_readsBell_78 : decode cX7_readsBell 78 = .ok (.goto 14, 3) := by decide +kernel
theorem dX7_readsBell_81 : decode cX7_readsBell 81 = .ok (.iload_n 3, 1) := by decide +kernel
theorem dX7_readsBell_82 : decode cX7_readsBell 82 = .ok (.bipush 103, 2) := by decide +kernel
theorem dX7_readsBell_84 : decode cX7_readsBell 84 = .ok (.if_icmp .ne 7, 3) := by decide +kernel
theorem dX7_readsBell_87 : decode cX7_readsBell 87 = .ok (.iconst 1, 1) := by decide +kernel
theorem dX7_readsBell_88 : decode cX7_readsBell 88 = .ok (.goto 4, 3) := by decide +kernel
theorem dX7_readsBell_91 : decode cX7_readsBell 91 = .ok (.iconst 2, 1) := by decide +kernel
theorem dX7_readsBell_92 : decode cX7_readsBell 92 = .ok (.iastore, 1) := by decide +kernel
theorem dX7_readsBell_93 : decode cX7_readsBell 93 = .ok (.aload_n 0, 1) := by decide +kernel
theorem dX7_readsBell_94 : decode cX7_readsBell 94 = .ok (.getfield 28, 3) := by decide +kernel
theorem dX7_readsBell_97 : decode cX7_readsBell 97 = .ok (.aload_n 0, 1) := by decide +kernel
theorem dX7_readsBell_98 : decode cX7_readsBell 98 = .ok (.getfield 104, 3) := by decide +kernel
theorem dX7_readsBell_101 : decode cX7_readsBell 101 = .ok (.iload 4, 2) := by decide +kernel
theorem dX7_readsBell_103 : decode cX7_readsBell 103 = .ok (.iastore, 1) := by decide +kernel
theorem dX7_readsBell_104 : decode cX7_readsBell 104 = .ok (.aload_n 0, 1) := by decide +kernel
theorem dX7_readsBell_105 : decode cX7_readsBell 105 = .ok (.dup, 1) := by decide +kernel
theorem dX7_readsBell_106 : decode cX7_readsBell 106 = .ok (.getfield 104, 3) := by decide +kernel
theorem dX7_readsBell_109 : decode cX7_readsBell 109 = .ok (.iconst 1, 1) := by decide +kernel
theorem dX7_readsBell_110 : decode cX7_readsBell 110 = .ok (.iadd, 1) := by decide +kernel
theorem dX7_readsBell_111 : decode cX7_readsBell 111 = .ok (.putfield 104, 3) := by decide +kernel
theorem dX7_readsBell_114 : decode cX7_readsBell 114 = .ok (.iconst 1, 1) := by decide +kernel
theorem dX7_readsBell_115 : decode cX7_readsBell 115 = .ok (.ireturn, 1) := by decide +kernel
theorem dX7_readsRope_0 : decode cX7_readsRope 0 = .ok (.aload_n 0, 1) := by decide +kernel
theorem dX7_readsRope_1 : decode cX7_readsRope 1 = .ok (.getfield 111, 3) := by decide +kernel
theorem dX7_readsRope_4 : decode cX7_readsRope 4 = .ok (.bipush 8, 2) := by decide +kernel
theorem dX7_readsRope_6 : decode cX7_readsRope 6 = .ok (.if_icmp .eq 14, 3) := by decide +kernel
theorem dX7_readsRope_9 : decode cX7_readsRope 9 = .ok (.aload_n 0, 1) := by decide +kernel
theorem dX7_readsRope_10 : decode cX7_readsRope 10 = .ok (.iload_n 1, 1) := by decide +kernel
theorem dX7_readsRope_11 : decode cX7_readsRope 11 = .ok (.iload_n 2, 1) := by decide +kernel
theorem dX7_readsRope_12 : decode cX7_readsRope 12 = .ok (.invokevirtual 100, 3) := by decide +kernel
theorem dX7_readsRope_15 : decode cX7_readsRope 15 = .ok (.bipush 59, 2) := by decide +kernel
theorem dX7_readsRope_17 : decode cX7_readsRope 17 = .ok (.if_icmp .eq 5, 3) := by decide +kernel
theorem dX7_readsRope_20 : decode cX7_readsRope 20 = .ok (.iconst 0, 1) := by decide +kernel
theorem dX7_readsRope_21 : decode cX7_readsRope 21 = .ok (.ireturn, 1) := by decide +kernel
theorem dX7_readsRope_22 : decode cX7_readsRope 22 = .ok (.aload_n 0, 1) := by decide +kernel
theorem dX7_readsRope_23 : decode cX7_readsRope 23 = .ok (.dup, 1) := by decide +kernel
theorem dX7_readsRope_24 : decode cX7_readsRope 24 = .ok (.getfield 97, 3) := by decide +kernel
theorem dX7_readsRope_27 : decode cX7_readsRope 27 = .ok (.iconst 1, 1) := by decide +kernel
theorem dX7_readsRope_28 : decode cX7_readsRope 28 = .ok (.iadd, 1) := by decide +kernel
theorem dX7_readsRope_29 : decode cX7_readsRope 29 = .ok (.putfield 97, 3) := by decide +kernel
theorem dX7_readsRope_32 : decode cX7_readsRope 32 = .ok (.aload_n 0, 1) := by decide +kernel
theorem dX7_readsRope_33 : decode cX7_readsRope 33 = .ok (.iload_n 1, 1) := by decide +kernel
theorem dX7_readsRope_34 : decode cX7_readsRope 34 = .ok (.iload_n 2, 1) := by decide +kernel
theorem dX7_readsRope_35 : decode cX7_readsRope 35 = .ok (.iconst 0, 1) := by decide +kernel
theorem dX7_readsRope_36 : decode cX7_readsRope 36 = .ok (.aload_n 0, 1) := by decide +kernel
theorem dX7_readsRope_37 : decode cX7_readsRope 37 = .ok (.getfield 104, 3) := by decide +kernel
theorem dX7_readsRope_40 : decode cX7_readsRope 40 = .ok (.iconst 1, 1) := by decide +kernel
theorem dX7_readsRope_41 : decode cX7_readsRope 41 = .ok (.isub, 1) := by decide +kernel
theorem dX7_readsRope_42 : decode cX7_readsRope 42 = .ok (.invokevirtual 107, 3) := by decide +kernel
theorem dX7_readsRope_45 : decode cX7_readsRope 45 = .ok (.istore_n 3, 1) := by decide +kernel
theorem dX7_readsRope_46 : decode cX7_readsRope 46 = .ok (.iload_n 3, 1) := by decide +kernel
theorem dX7_readsRope_47 : decode cX7_readsRope 47 = .ok (.ifCond .ge 8, 3) := by decide +kernel
theorem dX7_readsRope_50 : decode cX7_readsRope 50 = .ok (.bipush (-9), 2) := by decide +kernel
theorem dX7_readsRope_52 : decode cX7_readsRope 52 = .ok (.goto 16, 3) := by decide +kernel
theorem dX7_readsRope_55 : decode cX7_readsRope 55 = .ok (.aload_n 0, 1) := by decide +kernel
theorem dX7_readsRope_56 : decode cX7_readsRope 56 = .ok (.iload_n 1, 1) := by decide +kernel
theorem dX7_readsRope_57 : decode cX7_readsRope 57 = .ok (.iload_n 2, 1) := by decide +kernel
theorem dX7_readsRope_58 : decode cX7_readsRope 58 = .ok (.iconst 0, 1) := by decide +kernel
theorem dX7_readsRope_59 : decode cX7_readsRope 59 = .ok (.aload_n 0, 1) := by decide +kernel
theorem dX7_readsRope_60 : decode cX7_readsRope 60 = .ok (.getfield 104, 3) := by decide +kernel
theorem dX7_readsRope_63 : decode cX7_readsRope 63 = .ok (.iconst 1, 1) := by decide +kernel
theorem dX7_readsRope_64 : decode cX7_readsRope 64 = .ok (.isub, 1) := by decide +kernel
theorem dX7_readsRope_65 : decode cX7_readsRope 65 = .ok (.invokevirtual 107, 3) := by decide +kernel
theorem dX7_readsRope_68 : decode cX7_readsRope 68 = .ok (.istore 4, 2) := by decide +kernel
theorem dX7_readsRope_70 : decode cX7_readsRope 70 = .ok (.iload 4, 2) := by decide +kernel
theorem dX7_readsRope_72 : decode cX7_readsRope 72 = .ok (.ifCond .ge 8, 3) := by decide +kernel
theorem dX7_readsRope_75 : decode cX7_readsRope 75 = .ok (.bipush (-9), 2) := by decide +kernel
theorem dX7_readsRope_77 : decode cX7_readsRope 77 = .ok (.goto 12, 3) := by decide +kernel
theorem dX7_readsRope_80 : decode cX7_readsRope 80 = .ok (.aload_n 0, 1) := by decide +kernel
theorem dX7_readsRope_81 : decode cX7_readsRope 81 = .ok (.iload_n 1, 1) := by decide +kernel
theorem dX7_readsRope_82 : decode cX7_readsRope 82 = .ok (.iload_n 2, 1) := by decide +kernel
theorem dX7_readsRope_83 : decode cX7_readsRope 83 = .ok (.iconst 1, 1) := by decide +kernel
theorem dX7_readsRope_84 : decode cX7_readsRope 84 = .ok (.bipush 9, 2) := by decide +kernel
theorem dX7_readsRope_86 : decode cX7_readsRope 86 = .ok (.invokevirtual 107, 3) := by decide +kernel
theorem dX7_readsRope_89 : decode cX7_readsRope 89 = .ok (.istore 5, 2) := by decide +kernel
theorem dX7_readsRope_91 : decode cX7_readsRope 91 = .ok (.iload 5, 2) := by decide +kernel
theorem dX7_readsRope_93 : decode cX7_readsRope 93 = .ok (.ifCond .ge 5, 3) := by decide +kernel
theorem dX7_readsRope_96 : decode cX7_readsRope 96 = .ok (.iconst 0, 1) := by decide +kernel
theorem dX7_readsRope_97 : decode cX7_readsRope 97 = .ok (.ireturn, 1) := by decide +kernel
theorem dX7_readsRope_98 : decode cX7_readsRope 98 = .ok (.aload_n 0, 1) := by decide +kernel
theorem dX7_readsRope_99 : decode cX7_readsRope 99 = .ok (.getfield 31, 3) := by decide +kernel
theorem dX7_readsRope_102 : decode cX7_readsRope 102 = .ok (.aload_n 0, 1) := by decide +kernel
theorem dX7_readsRope_103 : decode cX7_readsRope 103 = .ok (.getfield 111, 3) := by decide +kernel
theorem dX7_readsRope_106 : decode cX7_readsRope 106 = .ok (.iload_n 3, 1) := by decide +kernel
theorem dX7_readsRope_107 : decode cX7_readsRope 107 = .ok (.iastore, 1) := by decide +kernel
theorem dX7_readsRope_108 : decode cX7_readsRope 108 = .ok (.aload_n 0, 1) := by decide +kernel
theorem dX7_readsRope_109 : decode cX7_readsRope 109 = .ok (.getfield 34, 3) := by decide +kernel
theorem dX7_readsRope_112 : decode cX7_readsRope 112 = .ok (.aload_n 0, 1) := by decide +kernel
theorem dX7_readsRope_113 : decode cX7_readsRope 113 = .ok (.getfield 111, 3) := by decide +kernel
theorem dX7_readsRope_116 : decode cX7_readsRope 116 = .ok (.iload 4, 2) := by decide +kernel
theorem dX7_readsRope_118 : decode cX7_readsRope 118 = .ok (.iastore, 1) := by decide +kernel
theorem dX7_readsRope_119 : decode cX7_readsRope 119 = .ok (.aload_n 0, 1) := by decide +kernel
theorem dX7_readsRope_120 : decode cX7_readsRope 120 = .ok (.getfield 37, 3) := by decide +kernel
theorem dX7_readsRope_123 : decode cX7_readsRope 123 = .ok (.aload_n 0, 1) := by decide +kernel
theorem dX7_readsRope_124 : decode cX7_readsRope 124 = .ok (.getfield 111, 3) := by decide +kernel
theorem dX7_readsRope_127 : decode cX7_readsRope 127 = .ok (.iload 5, 2) := by decide +kernel
theorem dX7_readsRope_129 : decode cX7_readsRope 129 = .ok (.iastore, 1) := by decide +kernel
theorem dX7_readsRope_130 : decode cX7_readsRope 130 = .ok (.aload_n 0, 1) := by decide +kernel
theorem dX7_readsRope_131 : decode cX7_readsRope 131 = .ok (.dup, 1) := by decide +kernel
theorem dX7_readsRope_132 : decode cX7_readsRope 132 = .ok (.getfield 111, 3) := by decide +kernel
theorem dX7_readsRope_135 : decode cX7_readsRope 135 = .ok (.iconst 1, 1) := by decide +kernel
theorem dX7_readsRope_136 : decode cX7_readsRope 136 = .ok (.iadd, 1) := by decide +kernel
theorem dX7_readsRope_137 : decode cX7_readsRope 137 = .ok (.putfield 111, 3) := by decide +kernel
theorem dX7_readsRope_140 : decode cX7_readsRope 140 = .ok (.iconst 1, 1) := by decide +kernel
theorem dX7_readsRope_141 : decode cX7_readsRope 141 = .ok (.ireturn, 1) := by decide +kernel
theorem dX7_readsValley_0 : decode cX7_readsValley 0 = .ok (.aload_n 0, 1) := by decide +kernel
theorem dX7_readsValley_1 : decode cX7_readsValley 1 = .ok (.iconst 0, 1) := by decide +kernel
theorem dX7_readsValley_2 : decode cX7_readsValley 2 = .ok (.putfield 97, 3) := by decide +kernel
theorem dX7_readsValley_5 : decode cX7_readsValley 5 = .ok (.aload_n 0, 1) := by decide +kernel
theorem dX7_readsValley_6 : decode cX7_readsValley 6 = .ok (.iconst 0, 1) := by decide +kernel
theorem dX7_readsValley_7 : decode cX7_readsValley 7 = .ok (.putfield 104, 3) := by decide +kernel
theorem dX7_readsValley_10 : decode cX7_readsValley 10 = .ok (.aload_n 0, 1) := by decide +kernel
theorem dX7_readsValley_11 : decode cX7_readsValley 11 = .ok (.iconst 0, 1) := by decide +kernel
theorem dX7_readsValley_12 : decode cX7_readsValley 12 = .ok (.putfield 111, 3) := by decide +kernel
theorem dX7_readsValley_15 : decode cX7_readsValley 15 = .ok (.aload_n 0, 1) := by decide +kernel
theorem dX7_readsValley_16 : decode cX7_readsValley 16 = .ok (.iload_n 1, 1) := by decide +kernel
theorem dX7_readsValley_17 : decode cX7_readsValley 17 = .ok (.iload_n 2, 1) := by decide +kernel
theorem dX7_readsValley_18 : decode cX7_readsValley 18 = .ok (.invokevirtual 100, 3) := by decide +kernel
theorem dX7_readsValley_21 : decode cX7_readsValley 21 = .ok (.bipush 118, 2) := by decide +kernel
theorem dX7_readsValley_23 : decode cX7_readsValley 23 = .ok (.if_icmp .ne 7, 3) := by decide +kernel
theorem dX7_readsValley_26 : decode cX7_readsValley 26 = .ok (.iconst 1, 1) := by decide +kernel
theorem dX7_readsValley_27 : decode cX7_readsValley 27 = .ok (.goto 4, 3) := by decide +kernel
theorem dX7_readsValley_30 : decode cX7_readsValley 30 = .ok (.iconst 0, 1) := by decide +kernel
theorem dX7_readsValley_31 : decode cX7_readsValley 31 = .ok (.istore_n 3, 1) := by decide +kernel
theorem dX7_readsValley_32 : decode cX7_readsValley 32 = .ok (.aload_n 0, 1) := by decide +kernel
theorem dX7_readsValley_33 : decode cX7_readsValley 33 = .ok (.dup, 1) := by decide +kernel
theorem dX7_readsValley_34 : decode cX7_readsValley 34 = .ok (.getfield 97, 3) := by decide +kernel
theorem dX7_readsValley_37 : decode cX7_readsValley 37 = .ok (.iload_n 3, 1) := by decide +kernel
theorem dX7_readsValley_38 : decode cX7_readsValley 38 = .ok (.ifCond .eq 7, 3) := by decide +kernel
theorem dX7_readsValley_41 : decode cX7_readsValley 41 = .ok (.iconst 1, 1) := by decide +kernel
theorem dX7_readsValley_42 : decode cX7_readsValley 42 = .ok (.goto 4, 3) := by decide +kernel
theorem dX7_readsValley_45 : decode cX7_readsValley 45 = .ok (.iconst 0, 1) := by decide +kernel
theorem dX7_readsValley_46 : decode cX7_readsValley 46 = .ok (.iadd, 1) := by decide +kernel
theorem dX7_readsValley_47 : decode cX7_readsValley 47 = .ok (.putfield 97, 3) := by decide +kernel
theorem dX7_readsValley_50 : decode cX7_readsValley 50 = .ok (.iload_n 3, 1) := by decide +kernel
theorem dX7_readsValley_51 : decode cX7_readsValley 51 = .ok (.ifCond .eq 40, 3) := by decide +kernel
theorem dX7_readsValley_54 : decode cX7_readsValley 54 = .ok (.aload_n 0, 1) := by decide +kernel
theorem dX7_readsValley_55 : decode cX7_readsValley 55 = .ok (.getfield 104, 3) := by decide +kernel
theorem dX7_readsValley_58 : decode cX7_readsValley 58 = .ok (.iconst 2, 1) := by decide +kernel
theorem dX7_readsValley_59 : decode cX7_readsValley 59 = .ok (.if_icmp .lt 22, 3) := by decide +kernel
theorem dX7_readsValley_62 : decode cX7_readsValley 62 = .ok (.aload_n 0, 1) := by decide +kernel
theorem dX7_readsValley_63 : decode cX7_readsValley 63 = .ok (.getfield 97, 3) := by decide +kernel
theorem dX7_readsValley_66 : decode cX7_readsValley 66 = .ok (.iload_n 2, 1) := by decide +kernel
theorem dX7_readsValley_67 : decode cX7_readsValley 67 = .ok (.if_icmp .ge 24, 3) := by decide +kernel
theorem dX7_readsValley_70 : decode cX7_readsValley 70 = .ok (.aload_n 0, 1) := by decide +kernel
theorem dX7_readsValley_71 : decode cX7_readsValley 71 = .ok (.iload_n 1, 1) := by decide +kernel
theorem dX7_readsValley_72 : decode cX7_readsValley 72 = .ok (.iload_n 2, 1) := by decide +kernel
theorem dX7_readsValley_73 : decode cX7_readsValley 73 = .ok (.invokevirtual 100, 3) := by decide +kernel
theorem dX7_readsValley_76 : decode cX7_readsValley 76 = .ok (.bipush 59, 2) := by decide +kernel
theorem dX7_readsValley_78 : decode cX7_readsValley 78 = .ok (.if_icmp .eq 13, 3) := by decide +kernel
theorem dX7_readsValley_81 : decode cX7_readsValley 81 = .ok (.aload_n 0, 1) := by decide +kernel
theorem dX7_readsValley_82 : decode cX7_readsValley 82 = .ok (.iload_n 1, 1) := by decide +kernel
theorem dX7_readsValley_83 : decode cX7_readsValley 83 = .ok (.iload_n 2, 1) := by decide +kernel
theorem dX7_readsValley_84 : decode cX7_readsValley 84 = .ok (.invokevirtual 114, 3) := by decide +kernel
theorem dX7_readsValley_87 : decode cX7_readsValley 87 = .ok (.istore_n 3, 1) := by decide +kernel
theorem dX7_readsValley_88 : decode cX7_readsValley 88 = .ok (.goto (-38), 3) := by decide +kernel
theorem dX7_readsValley_91 : decode cX7_readsValley 91 = .ok (.iload_n 3, 1) := by decide +kernel
theorem dX7_readsValley_92 : decode cX7_readsValley 92 = .ok (.ifCond .eq 21, 3) := by decide +kernel
theorem dX7_readsValley_95 : decode cX7_readsValley 95 = .ok (.aload_n 0, 1) := by decide +kernel
theorem dX7_readsValley_96 : decode cX7_readsValley 96 = .ok (.getfield 97, 3) := by decide +kernel
theorem dX7_readsValley_99 : decode cX7_readsValley 99 = .ok (.iload_n 2, 1) := by decide +kernel
theorem dX7_readsValley_100 : decode cX7_readsValley 100 = .ok (.if_icmp .ge 13, 3) := by decide +kernel
theorem dX7_readsValley_103 : decode cX7_readsValley 103 = .ok (.aload_n 0, 1) := by decide +kernel
theorem dX7_readsValley_104 : decode cX7_readsValley 104 = .ok (.iload_n 1, 1) := by decide +kernel
theorem dX7_readsValley_105 : decode cX7_readsValley 105 = .ok (.iload_n 2, 1) := by decide +kernel
theorem dX7_readsValley_106 : decode cX7_readsValley 106 = .ok (.invokevirtual 118, 3) := by decide +kernel
theorem dX7_readsValley_109 : decode cX7_readsValley 109 = .ok (.istore_n 3, 1) := by decide +kernel
theorem dX7_readsValley_110 : decode cX7_readsValley 110 = .ok (.goto (-19), 3) := by decide +kernel
theorem dX7_readsValley_113 : decode cX7_readsValley 113 = .ok (.iload_n 3, 1) := by decide +kernel
theorem dX7_readsValley_114 : decode cX7_readsValley 114 = .ok (.ireturn, 1) := by decide +kernel
theorem dX7_cellsBarred_0 : decode cX7_cellsBarred 0 = .ok (.aload_n 0, 1) := by decide +kernel
theorem dX7_cellsBarred_1 : decode cX7_cellsBarred 1 = .ok (.getfield 68, 3) := by decide +kernel
theorem dX7_cellsBarred_4 : decode cX7_cellsBarred 4 = .ok (.iload_n 1, 1) := by decide +kernel
theorem dX7_cellsBarred_5 : decode cX7_cellsBarred 5 = .ok (.iaload, 1) := by decide +kernel
theorem dX7_cellsBarred_6 : decode cX7_cellsBarred 6 = .ok (.ifCond .lt 19, 3) := by decide +kernel
theorem dX7_cellsBarred_9 : decode cX7_cellsBarred 9 = .ok (.aload_n 0, 1) := by decide +kernel
theorem dX7_cellsBarred_10 : decode cX7_cellsBarred 10 = .ok (.getfield 71, 3) := by decide +kernel
theorem dX7_cellsBarred_13 : decode cX7_cellsBarred 13 = .ok (.iload_n 1, 1) := by decide +kernel
theorem dX7_cellsBarred_14 : decode cX7_cellsBarred 14 = .ok (.iaload, 1) := by decide +kernel
theorem dX7_cellsBarred_15 : decode cX7_cellsBarred 15 = .ok (.iload_n 2, 1) := by decide +kernel
theorem dX7_cellsBarred_16 : decode cX7_cellsBarred 16 = .ok (.if_icmp .eq 9, 3) := by decide +kernel
theorem dX7_cellsBarred_19 : decode cX7_cellsBarred 19 = .ok (.aload_n 0, 1) := by decide +kernel
theorem dX7_cellsBarred_20 : decode cX7_cellsBarred 20 = .ok (.iconst 2, 1) := by decide +kernel
theorem dX7_cellsBarred_21 : decode cX7_cellsBarred 21 = .ok (.invokevirtual 121, 3) := by decide +kernel
theorem dX7_cellsBarred_24 : decode cX7_cellsBarred 24 = .ok (.ireturn, 1) := by decide +kernel
theorem dX7_cellsBarred_25 : decode cX7_cellsBarred 25 = .ok (.aload_n 0, 1) := by decide +kernel
theorem dX7_cellsBarred_26 : decode cX7_cellsBarred 26 = .ok (.getfield 68, 3) := by decide +kernel
theorem dX7_cellsBarred_29 : decode cX7_cellsBarred 29 = .ok (.iload_n 1, 1) := by decide +kernel
theorem dX7_cellsBarred_30 : decode cX7_cellsBarred 30 = .ok (.iaload, 1) := by decide +kernel
theorem dX7_cellsBarred_31 : decode cX7_cellsBarred 31 = .ok (.ifCond .ge 9, 3) := by decide +kernel
theorem dX7_cellsBarred_34 : decode cX7_cellsBarred 34 = .ok (.aload_n 0, 1) := by decide +kernel
theorem dX7_cellsBarred_35 : decode cX7_cellsBarred 35 = .ok (.iconst 1, 1) := by decide +kernel
theorem dX7_cellsBarred_36 : decode cX7_cellsBarred 36 = .ok (.invokevirtual 121, 3) := by decide +kernel
theorem dX7_cellsBarred_39 : decode cX7_cellsBarred 39 = .ok (.ireturn, 1) := by decide +kernel
theorem dX7_cellsBarred_40 : decode cX7_cellsBarred 40 = .ok (.lload 4, 2) := by decide +kernel
theorem dX7_cellsBarred_42 : decode cX7_cellsBarred 42 = .ok (.lconst 0, 1) := by decide +kernel
theorem dX7_cellsBarred_43 : decode cX7_cellsBarred 43 = .ok (.lcmp, 1) := by decide +kernel
theorem dX7_cellsBarred_44 : decode cX7_cellsBarred 44 = .ok (.ifCond .ge 9, 3) := by decide +kernel
theorem dX7_cellsBarred_47 : decode cX7_cellsBarred 47 = .ok (.aload_n 0, 1) := by decide +kernel
theorem dX7_cellsBarred_48 : decode cX7_cellsBarred 48 = .ok (.iconst 4, 1) := by decide +kernel
theorem dX7_cellsBarred_49 : decode cX7_cellsBarred 49 = .ok (.invokevirtual 121, 3) := by decide +kernel
theorem dX7_cellsBarred_52 : decode cX7_cellsBarred 52 = .ok (.ireturn, 1) := by decide +kernel
theorem dX7_cellsBarred_53 : decode cX7_cellsBarred 53 = .ok (.iload_n 3, 1) := by decide +kernel
theorem dX7_cellsBarred_54 : decode cX7_cellsBarred 54 = .ok (.lload 4, 2) := by decide +kernel
theorem dX7_cellsBarred_56 : decode cX7_cellsBarred 56 = .ok (.aload_n 0, 1) := by decide +kernel
theorem dX7_cellsBarred_57 : decode cX7_cellsBarred 57 = .ok (.getfield 68, 3) := by decide +kernel
theorem dX7_cellsBarred_60 : decode cX7_cellsBarred 60 = .ok (.iload_n 1, 1) := by decide +kernel
theorem dX7_cellsBarred_61 : decode cX7_cellsBarred 61 = .ok (.iaload, 1) := by decide +kernel
theorem dX7_cellsBarred_62 : decode cX7_cellsBarred 62 = .ok (.invokestatic 125, 3) := by decide +kernel
theorem dX7_cellsBarred_65 : decode cX7_cellsBarred 65 = .ok (.ifCond .eq 11, 3) := by decide +kernel
theorem dX7_cellsBarred_68 : decode cX7_cellsBarred 68 = .ok (.aload_n 0, 1) := by decide +kernel
theorem dX7_cellsBarred_69 : decode cX7_cellsBarred 69 = .ok (.iconst 3, 1) := by decide +kernel
theorem dX7_cellsBarred_70 : decode cX7_cellsBarred 70 = .ok (.invokevirtual 121, 3) := by decide +kernel
theorem dX7_cellsBarred_73 : decode cX7_cellsBarred 73 = .ok (.goto 4, 3) := by decide +kernel
theorem dX7_cellsBarred_76 : decode cX7_cellsBarred 76 = .ok (.iconst 0, 1) := by decide +kernel
theorem dX7_cellsBarred_77 : decode cX7_cellsBarred 77 = .ok (.ireturn, 1) := by decide +kernel
theorem dX7_valley_0 : decode cX7_valley 0 = .ok (.iload_n 1, 1) := by decide +kernel
theorem dX7_valley_1 : decode cX7_valley 1 = .ok (.invokestatic 129, 3) := by decide +kernel
theorem dX7_valley_4 : decode cX7_valley 4 = .ok (.ifCond .eq 9, 3) := by decide +kernel
theorem dX7_valley_7 : decode cX7_valley 7 = .ok (.aload_n 0, 1) := by decide +kernel
theorem dX7_valley_8 : decode cX7_valley 8 = .ok (.iconst (-1), 1) := by decide +kernel
theorem dX7_valley_9 : decode cX7_valley 9 = .ok (.invokevirtual 133, 3) := by decide +kernel
theorem dX7_valley_12 : decode cX7_valley 12 = .ok (.ireturn, 1) := by decide +kernel
theorem dX7_valley_13 : decode cX7_valley 13 = .ok (.iload_n 2, 1) := by decide +kernel
theorem dX7_valley_14 : decode cX7_valley 14 = .ok (.i2l, 1) := by decide +kernel
theorem dX7_valley_15 : decode cX7_valley 15 = .ok (.lconst 0, 1) := by decide +kernel
theorem dX7_valley_16 : decode cX7_valley 16 = .ok (.ldc2_w 136, 3) := by decide +kernel
theorem dX7_valley_19 : decode cX7_valley 19 = .ok (.invokestatic 93, 3) := by decide +kernel
theorem dX7_valley_22 : decode cX7_valley 22 = .ok (.ifCond .ne 10, 3) := by decide +kernel
theorem dX7_valley_25 : decode cX7_valley 25 = .ok (.aload_n 0, 1) := by decide +kernel
theorem dX7_valley_26 : decode cX7_valley 26 = .ok (.bipush (-2), 2) := by decide +kernel
theorem dX7_valley_28 : decode cX7_valley 28 = .ok (.invokevirtual 133, 3) := by decide +kernel
theorem dX7_valley_31 : decode cX7_valley 31 = .ok (.ireturn, 1) := by decide +kernel
theorem dX7_valley_32 : decode cX7_valley 32 = .ok (.aload_n 0, 1) := by decide +kernel
theorem dX7_valley_33 : decode cX7_valley 33 = .ok (.iload_n 1, 1) := by decide +kernel
theorem dX7_valley_34 : decode cX7_valley 34 = .ok (.iload_n 2, 1) := by decide +kernel
theorem dX7_valley_35 : decode cX7_valley 35 = .ok (.iload_n 3, 1) := by decide +kernel
theorem dX7_valley_36 : decode cX7_valley 36 = .ok (.iload 4, 2) := by decide +kernel
theorem dX7_valley_38 : decode cX7_valley 38 = .ok (.i2l, 1) := by decide +kernel
theorem dX7_valley_39 : decode cX7_valley 39 = .ok (.invokevirtual 138, 3) := by decide +kernel
theorem dX7_valley_42 : decode cX7_valley 42 = .ok (.istore 5, 2) := by decide +kernel
theorem dX7_valley_44 : decode cX7_valley 44 = .ok (.iload 5, 2) := by decide +kernel
theorem dX7_valley_46 : decode cX7_valley 46 = .ok (.ifCond .ge 6, 3) := by decide +kernel
theorem dX7_valley_49 : decode cX7_valley 49 = .ok (.iload 5, 2) := by decide +kernel
theorem dX7_valley_51 : decode cX7_valley 51 = .ok (.ireturn, 1) := by decide +kernel
theorem dX7_valley_52 : decode cX7_valley 52 = .ok (.aload_n 0, 1) := by decide +kernel
theorem dX7_valley_53 : decode cX7_valley 53 = .ok (.bipush 60, 2) := by decide +kernel
theorem dX7_valley_55 : decode cX7_valley 55 = .ok (.iload_n 1, 1) := by decide +kernel
theorem dX7_valley_56 : decode cX7_valley 56 = .ok (.imul, 1) := by decide +kernel
theorem dX7_valley_57 : decode cX7_valley 57 = .ok (.iload_n 3, 1) := by decide +kernel
theorem dX7_valley_58 : decode cX7_valley 58 = .ok (.iadd, 1) := by decide +kernel
theorem dX7_valley_59 : decode cX7_valley 59 = .ok (.iload 4, 2) := by decide +kernel
theorem dX7_valley_61 : decode cX7_valley 61 = .ok (.invokevirtual 142, 3) := by decide +kernel
theorem dX7_valley_64 : decode cX7_valley 64 = .ok (.ifCond .ne 15, 3) := by decide +kernel
theorem dX7_valley_67 : decode cX7_valley 67 = .ok (.aload_n 0, 1) := by decide +kernel
theorem dX7_valley_68 : decode cX7_valley 68 = .ok (.bipush (-100), 2) := by decide +kernel
theorem dX7_valley_70 : decode cX7_valley 70 = .ok (.aload_n 0, 1) := by decide +kernel
theorem dX7_valley_71 : decode cX7_valley 71 = .ok (.getfield 97, 3) := by decide +kernel
theorem dX7_valley_74 : decode cX7_valley 74 = .ok (.isub, 1) := by decide +kernel
theorem dX7_valley_75 : decode cX7_valley 75 = .ok (.invokevirtual 133, 3) := by decide +kernel
theorem dX7_valley_78 : decode cX7_valley 78 = .ok (.ireturn, 1) := by decide +kernel
theorem dX7_valley_79 : decode cX7_valley 79 = .ok (.aload_n 0, 1) := by decide +kernel
theorem dX7_valley_80 : decode cX7_valley 80 = .ok (.aload_n 0, 1) := by decide +kernel
theorem dX7_valley_81 : decode cX7_valley 81 = .ok (.getfield 104, 3) := by decide +kernel
theorem dX7_valley_84 : decode cX7_valley 84 = .ok (.putfield 90, 3) := by decide +kernel
theorem dX7_valley_87 : decode cX7_valley 87 = .ok (.aload_n 0, 1) := by decide +kernel
theorem dX7_valley_88 : decode cX7_valley 88 = .ok (.aload_n 0, 1) := by decide +kernel
theorem dX7_valley_89 : decode cX7_valley 89 = .ok (.getfield 111, 3) := by decide +kernel
theorem dX7_valley_92 : decode cX7_valley 92 = .ok (.putfield 145, 3) := by decide +kernel
theorem dX7_valley_95 : decode cX7_valley 95 = .ok (.iconst 0, 1) := by decide +kernel
theorem dX7_valley_96 : decode cX7_valley 96 = .ok (.istore 6, 2) := by decide +kernel
theorem dX7_valley_98 : decode cX7_valley 98 = .ok (.iload 6, 2) := by decide +kernel
theorem dX7_valley_100 : decode cX7_valley 100 = .ok (.aload_n 0, 1) := by decide +kernel
theorem dX7_valley_101 : decode cX7_valley 101 = .ok (.getfield 90, 3) := by decide +kernel
theorem dX7_valley_104 : decode cX7_valley 104 = .ok (.if_icmp .ge 37, 3) := by decide +kernel
theorem dX7_valley_107 : decode cX7_valley 107 = .ok (.aload_n 0, 1) := by decide +kernel
theorem dX7_valley_108 : decode cX7_valley 108 = .ok (.getfield 7, 3) := by decide +kernel
theorem dX7_valley_111 : decode cX7_valley 111 = .ok (.iload 6, 2) := by decide +kernel
theorem dX7_valley_113 : decode cX7_valley 113 = .ok (.aload_n 0, 1) := by decide +kernel
theorem dX7_valley_114 : decode cX7_valley 114 = .ok (.getfield 25, 3) := by decide +kernel
theorem dX7_valley_117 : decode cX7_valley 117 = .ok (.iload 6, 2) := by decide +kernel
theorem dX7_valley_119 : decode cX7_valley 119 = .ok (.iaload, 1) := by decide +kernel
theorem dX7_valley_120 : decode cX7_valley 120 = .ok (.iastore, 1) := by decide +kernel
theorem dX7_valley_121 : decode cX7_valley 121 = .ok (.aload_n 0, 1) := by decide +kernel
theorem dX7_valley_122 : decode cX7_valley 122 = .ok (.getfield 13, 3) := by decide +kernel
theorem dX7_valley_125 : decode cX7_valley 125 = .ok (.iload 6, 2) := by decide +kernel
theorem dX7_valley_127 : decode cX7_valley 127 = .ok (.aload_n 0, 1) := by decide +kernel
theorem dX7_valley_128 : decode cX7_valley 128 = .ok (.getfield 28, 3) := by decide +kernel
theorem dX7_valley_131 : decode cX7_valley 131 = .ok (.iload 6, 2) := by decide +kernel
theorem dX7_valley_133 : decode cX7_valley 133 = .ok (.iaload, 1) := by decide +kernel
theorem dX7_valley_134 : decode cX7_valley 134 = .ok (.iastore, 1) := by decide +kernel
theorem dX7_valley_135 : decode cX7_valley 135 = .ok (.iinc 6 1, 3) := by decide +kernel
theorem dX7_valley_138 : decode cX7_valley 138 = .ok (.goto (-40), 3) := by decide +kernel
theorem dX7_valley_141 : decode cX7_valley 141 = .ok (.iconst 0, 1) := by decide +kernel
theorem dX7_valley_142 : decode cX7_valley 142 = .ok (.istore 6, 2) := by decide +kernel
theorem dX7_valley_144 : decode cX7_valley 144 = .ok (.iload 6, 2) := by decide +kernel
theorem dX7_valley_146 : decode cX7_valley 146 = .ok (.aload_n 0, 1) := by decide +kernel
theorem dX7_valley_147 : decode cX7_valley 147 = .ok (.getfield 145, 3) := by decide +kernel
theorem dX7_valley_150 : decode cX7_valley 150 = .ok (.if_icmp .ge 51, 3) := by decide +kernel
theorem dX7_valley_153 : decode cX7_valley 153 = .ok (.aload_n 0, 1) := by decide +kernel
theorem dX7_valley_154 : decode cX7_valley 154 = .ok (.getfield 16, 3) := by decide +kernel
theorem dX7_valley_157 : decode cX7_valley 157 = .ok (.iload 6, 2) := by decide +kernel
theorem dX7_valley_159 : decode cX7_valley 159 = .ok (.aload_n 0, 1) := by decide +kernel
theorem dX7_valley_160 : decode cX7_valley 160 = .ok (.getfield 31, 3) := by decide +kernel
theorem dX7_valley_163 : decode cX7_valley 163 = .ok (.iload 6, 2) := by decide +kernel
theorem dX7_valley_165 : decode cX7_valley 165 = .ok (.iaload, 1) := by decide +kernel
theorem dX7_valley_166 : decode cX7_valley 166 = .ok (.iastore, 1) := by decide +kernel
theorem dX7_valley_167 : decode cX7_valley 167 = .ok (.aload_n 0, 1) := by decide +kernel
theorem dX7_valley_168 : decode cX7_valley 168 = .ok (.getfield 19, 3) := by decide +kernel
theorem dX7_valley_171 : decode cX7_valley 171 = .ok (.iload 6, 2) := by decide +kernel
theorem dX7_valley_173 : decode cX7_valley 173 = .ok (.aload_n 0, 1) := by decide +kernel
theorem dX7_valley_174 : decode cX7_valley 174 = .ok (.getfield 34, 3) := by decide +kernel
theorem dX7_valley_177 : decode cX7_valley 177 = .ok (.iload 6, 2) := by decide +kernel
theorem dX7_valley_179 : decode cX7_valley 179 = .ok (.iaload, 1) := by decide +kernel
theorem dX7_valley_180 : decode cX7_valley 180 = .ok (.iastore, 1) := by decide +kernel
theorem dX7_valley_181 : decode cX7_valley 181 = .ok (.aload_n 0, 1) := by decide +kernel
theorem dX7_valley_182 : decode cX7_valley 182 = .ok (.getfield 22, 3) := by decide +kernel
theorem dX7_valley_185 : decode cX7_valley 185 = .ok (.iload 6, 2) := by decide +kernel
theorem dX7_valley_187 : decode cX7_valley 187 = .ok (.aload_n 0, 1) := by decide +kernel
theorem dX7_valley_188 : decode cX7_valley 188 = .ok (.getfield 37, 3) := by decide +kernel
theorem dX7_valley_191 : decode cX7_valley 191 = .ok (.iload 6, 2) := by decide +kernel
theorem dX7_valley_193 : decode cX7_valley 193 = .ok (.iaload, 1) := by decide +kernel
theorem dX7_valley_194 : decode cX7_valley 194 = .ok (.iastore, 1) := by decide +kernel
theorem dX7_valley_195 : decode cX7_valley 195 = .ok (.iinc 6 1, 3) := by decide +kernel
theorem dX7_valley_198 : decode cX7_valley 198 = .ok (.goto (-54), 3) := by decide +kernel
theorem dX7_valley_201 : decode cX7_valley 201 = .ok (.aload_n 0, 1) := by decide +kernel
theorem dX7_valley_202 : decode cX7_valley 202 = .ok (.iconst 0, 1) := by decide +kernel
theorem dX7_valley_203 : decode cX7_valley 203 = .ok (.putfield 148, 3) := by decide +kernel
theorem dX7_valley_206 : decode cX7_valley 206 = .ok (.aload_n 0, 1) := by decide +kernel
theorem dX7_valley_207 : decode cX7_valley 207 = .ok (.iconst 2, 1) := by decide +kernel
theorem dX7_valley_208 : decode cX7_valley 208 = .ok (.putfield 151, 3) := by decide +kernel
theorem dX7_valley_211 : decode cX7_valley 211 = .ok (.aload_n 0, 1) := by decide +kernel
theorem dX7_valley_212 : decode cX7_valley 212 = .ok (.iconst 0, 1) := by decide +kernel
theorem dX7_valley_213 : decode cX7_valley 213 = .ok (.putfield 154, 3) := by decide +kernel
theorem dX7_valley_216 : decode cX7_valley 216 = .ok (.aload_n 0, 1) := by decide +kernel
theorem dX7_valley_217 : decode cX7_valley 217 = .ok (.iconst 0, 1) := by decide +kernel
theorem dX7_valley_218 : decode cX7_valley 218 = .ok (.putfield 157, 3) := by decide +kernel
theorem dX7_valley_221 : decode cX7_valley 221 = .ok (.aload_n 0, 1) := by decide +kernel
theorem dX7_valley_222 : decode cX7_valley 222 = .ok (.aload_n 0, 1) := by decide +kernel
theorem dX7_valley_223 : decode cX7_valley 223 = .ok (.getfield 90, 3) := by decide +kernel
theorem dX7_valley_226 : decode cX7_valley 226 = .ok (.invokevirtual 133, 3) := by decide +kernel
theorem dX7_valley_229 : decode cX7_valley 229 = .ok (.ireturn, 1) := by decide +kernel
theorem dX7_needs_0 : decode cX7_needs 0 = .ok (.aload_n 0, 1) := by decide +kernel
theorem dX7_needs_1 : decode cX7_needs 1 = .ok (.getfield 7, 3) := by decide +kernel
theorem dX7_needs_4 : decode cX7_needs 4 = .ok (.iload_n 1, 1) := by decide +kernel
theorem dX7_needs_5 : decode cX7_needs 5 = .ok (.iaload, 1) := by decide +kernel
theorem dX7_needs_6 : decode cX7_needs 6 = .ok (.ifCond .le 14, 3) := by decide +kernel
theorem dX7_needs_9 : decode cX7_needs 9 = .ok (.aload_n 0, 1) := by decide +kernel
theorem dX7_needs_10 : decode cX7_needs 10 = .ok (.getfield 13, 3) := by decide +kernel
theorem dX7_needs_13 : decode cX7_needs 13 = .ok (.iload_n 1, 1) := by decide +kernel
theorem dX7_needs_14 : decode cX7_needs 14 = .ok (.iaload, 1) := by decide +kernel
theorem dX7_needs_15 : decode cX7_needs 15 = .ok (.iconst 1, 1) := by decide +kernel
theorem dX7_needs_16 : decode cX7_needs 16 = .ok (.iadd, 1) := by decide +kernel
theorem dX7_needs_17 : decode cX7_needs 17 = .ok (.goto 9, 3) := by decide +kernel
theorem dX7_needs_20 : decode cX7_needs 20 = .ok (.aload_n 0, 1) := by decide +kernel
theorem dX7_needs_21 : decode cX7_needs 21 = .ok (.getfield 13, 3) := by decide +kernel
theorem dX7_needs_24 : decode cX7_needs 24 = .ok (.iload_n 1, 1) := by decide +kernel
theorem dX7_needs_25 : decode cX7_needs 25 = .ok (.iaload, 1) := by decide +kernel
theorem dX7_needs_26 : decode cX7_needs 26 = .ok (.ireturn, 1) := by decide +kernel
theorem dX7_ofBell_0 : decode cX7_ofBell 0 = .ok (.aload_n 0, 1) := by decide +kernel
theorem dX7_ofBell_1 : decode cX7_ofBell 1 = .ok (.iload_n 1, 1) := by decide +kernel
theorem dX7_ofBell_2 : decode cX7_ofBell 2 = .ok (.invokevirtual 160, 3) := by decide +kernel
theorem dX7_ofBell_5 : decode cX7_ofBell 5 = .ok (.ifCond .eq 5, 3) := by decide +kernel
theorem dX7_ofBell_8 : decode cX7_ofBell 8 = .ok (.iconst (-1), 1) := by decide +kernel
theorem dX7_ofBell_9 : decode cX7_ofBell 9 = .ok (.ireturn, 1) := by decide +kernel
theorem dX7_ofBell_10 : decode cX7_ofBell 10 = .ok (.iload_n 2, 1) := by decide +kernel
theorem dX7_ofBell_11 : decode cX7_ofBell 11 = .ok (.tableswitch 66 0 3 #[29, 36, 43, 49], 29) := by decide +kernel
theorem dX7_ofBell_40 : decode cX7_ofBell 40 = .ok (.aload_n 0, 1) := by decide +kernel
theorem dX7_ofBell_41 : decode cX7_ofBell 41 = .ok (.getfield 7, 3) := by decide +kernel
theorem dX7_ofBell_44 : decode cX7_ofBell 44 = .ok (.iload_n 1, 1) := by decide +kernel
theorem dX7_ofBell_45 : decode cX7_ofBell 45 = .ok (.iaload, 1) := by decide +kernel
theorem dX7_ofBell_46 : decode cX7_ofBell 46 = .ok (.ireturn, 1) := by decide +kernel
theorem dX7_ofBell_47 : decode cX7_ofBell 47 = .ok (.aload_n 0, 1) := by decide +kernel
theorem dX7_ofBell_48 : decode cX7_ofBell 48 = .ok (.getfield 13, 3) := by decide +kernel
theorem dX7_ofBell_51 : decode cX7_ofBell 51 = .ok (.iload_n 1, 1) := by decide +kernel
theorem dX7_ofBell_52 : decode cX7_ofBell 52 = .ok (.iaload, 1) := by decide +kernel
theorem dX7_ofBell_53 : decode cX7_ofBell 53 = .ok (.ireturn, 1) := by decide +kernel
theorem dX7_ofBell_54 : decode cX7_ofBell 54 = .ok (.aload_n 0, 1) := by decide +kernel
theorem dX7_ofBell_55 : decode cX7_ofBell 55 = .ok (.iload_n 1, 1) := by decide +kernel
theorem dX7_ofBell_56 : decode cX7_ofBell 56 = .ok (.invokevirtual 163, 3) := by decide +kernel
theorem dX7_ofBell_59 : decode cX7_ofBell 59 = .ok (.ireturn, 1) := by decide +kernel
theorem dX7_ofBell_60 : decode cX7_ofBell 60 = .ok (.aload_n 0, 1) := by decide +kernel
theorem dX7_ofBell_61 : decode cX7_ofBell 61 = .ok (.getfield 148, 3) := by decide +kernel
theorem dX7_ofBell_64 : decode cX7_ofBell 64 = .ok (.iload_n 1, 1) := by decide +kernel
theorem dX7_ofBell_65 : decode cX7_ofBell 65 = .ok (.invokestatic 166, 3) := by decide +kernel
theorem dX7_ofBell_68 : decode cX7_ofBell 68 = .ok (.ifCond .eq 7, 3) := by decide +kernel
theorem dX7_ofBell_71 : decode cX7_ofBell 71 = .ok (.iconst 1, 1) := by decide +kernel
theorem dX7_ofBell_72 : decode cX7_ofBell 72 = .ok (.goto 4, 3) := by decide +kernel
theorem dX7_ofBell_75 : decode cX7_ofBell 75 = .ok (.iconst 0, 1) := by decide +kernel
theorem dX7_ofBell_76 : decode cX7_ofBell 76 = .ok (.ireturn, 1) := by decide +kernel
theorem dX7_ofBell_77 : decode cX7_ofBell 77 = .ok (.bipush (-2), 2) := by decide +kernel
theorem dX7_ofBell_79 : decode cX7_ofBell 79 = .ok (.ireturn, 1) := by decide +kernel
theorem dX7_ofRope_0 : decode cX7_ofRope 0 = .ok (.iload_n 1, 1) := by decide +kernel
theorem dX7_ofRope_1 : decode cX7_ofRope 1 = .ok (.i2l, 1) := by decide +kernel
theorem dX7_ofRope_2 : decode cX7_ofRope 2 = .ok (.lconst 0, 1) := by decide +kernel
theorem dX7_ofRope_3 : decode cX7_ofRope 3 = .ok (.aload_n 0, 1) := by decide +kernel
theorem dX7_ofRope_4 : decode cX7_ofRope 4 = .ok (.getfield 145, 3) := by decide +kernel
theorem dX7_ofRope_7 : decode cX7_ofRope 7 = .ok (.i2l, 1) := by decide +kernel
theorem dX7_ofRope_8 : decode cX7_ofRope 8 = .ok (.lconst 1, 1) := by decide +kernel
theorem dX7_ofRope_9 : decode cX7_ofRope 9 = .ok (.lsub, 1) := by decide +kernel
theorem dX7_ofRope_10 : decode cX7_ofRope 10 = .ok (.invokestatic 93, 3) := by decide +kernel
theorem dX7_ofRope_13 : decode cX7_ofRope 13 = .ok (.ifCond .ne 5, 3) := by decide +kernel
theorem dX7_ofRope_16 : decode cX7_ofRope 16 = .ok (.iconst (-1), 1) := by decide +kernel
theorem dX7_ofRope_17 : decode cX7_ofRope 17 = .ok (.ireturn, 1) := by decide +kernel
theorem dX7_ofRope_18 : decode cX7_ofRope 18 = .ok (.iload_n 2, 1) := by decide +kernel
theorem dX7_ofRope_19 : decode cX7_ofRope 19 = .ok (.ifCond .ne 12, 3) := by decide +kernel
theorem dX7_ofRope_22 : decode cX7_ofRope 22 = .ok (.aload_n 0, 1) := by decide +kernel
theorem dX7_ofRope_23 : decode cX7_ofRope 23 = .ok (.getfield 16, 3) := by decide +kernel
theorem dX7_ofRope_26 : decode cX7_ofRope 26 = .ok (.iload_n 1, 1) := by decide +kernel
theorem dX7_ofRope_27 : decode cX7_ofRope 27 = .ok (.iaload, 1) := by decide +kernel
theorem dX7_ofRope_28 : decode cX7_ofRope 28 = .ok (.goto 33, 3) := by decide +kernel
theorem dX7_ofRope_31 : decode cX7_ofRope 31 = .ok (.iload_n 2, 1) := by decide +kernel
theorem dX7_ofRope_32 : decode cX7_ofRope 32 = .ok (.iconst 1, 1) := by decide +kernel
theorem dX7_ofRope_33 : decode cX7_ofRope 33 = .ok (.if_icmp .ne 12, 3) := by decide +kernel
theorem dX7_ofRope_36 : decode cX7_ofRope 36 = .ok (.aload_n 0, 1) := by decide +kernel
theorem dX7_ofRope_37 : decode cX7_ofRope 37 = .ok (.getfield 19, 3) := by decide +kernel
theorem dX7_ofRope_40 : decode cX7_ofRope 40 = .ok (.iload_n 1, 1) := by decide +kernel
theorem dX7_ofRope_41 : decode cX7_ofRope 41 = .ok (.iaload, 1) := by decide +kernel
theorem dX7_ofRope_42 : decode cX7_ofRope 42 = .ok (.goto 19, 3) := by decide +kernel
theorem dX7_ofRope_45 : decode cX7_ofRope 45 = .ok (.iload_n 2, 1) := by decide +kernel
theorem dX7_ofRope_46 : decode cX7_ofRope 46 = .ok (.iconst 2, 1) := by decide +kernel
theorem dX7_ofRope_47 : decode cX7_ofRope 47 = .ok (.if_icmp .ne 12, 3) := by decide +kernel
theorem dX7_ofRope_50 : decode cX7_ofRope 50 = .ok (.aload_n 0, 1) := by decide +kernel
theorem dX7_ofRope_51 : decode cX7_ofRope 51 = .ok (.getfield 22, 3) := by decide +kernel
theorem dX7_ofRope_54 : decode cX7_ofRope 54 = .ok (.iload_n 1, 1) := by decide +kernel
theorem dX7_ofRope_55 : decode cX7_ofRope 55 = .ok (.iaload, 1) := by decide +kernel
theorem dX7_ofRope_56 : decode cX7_ofRope 56 = .ok (.goto 5, 3) := by decide +kernel
theorem dX7_ofRope_59 : decode cX7_ofRope 59 = .ok (.bipush (-2), 2) := by decide +kernel
theorem dX7_ofRope_61 : decode cX7_ofRope 61 = .ok (.ireturn, 1) := by decide +kernel
theorem dX7_tie_0 : decode cX7_tie 0 = .ok (.aload_n 0, 1) := by decide +kernel
theorem dX7_tie_1 : decode cX7_tie 1 = .ok (.iload_n 1, 1) := by decide +kernel
theorem dX7_tie_2 : decode cX7_tie 2 = .ok (.invokevirtual 160, 3) := by decide +kernel
theorem dX7_tie_5 : decode cX7_tie 5 = .ok (.ifCond .eq 5, 3) := by decide +kernel
theorem dX7_tie_8 : decode cX7_tie 8 = .ok (.iconst (-1), 1) := by decide +kernel
theorem dX7_tie_9 : decode cX7_tie 9 = .ok (.ireturn, 1) := by decide +kernel
theorem dX7_tie_10 : decode cX7_tie 10 = .ok (.aload_n 0, 1) := by decide +kernel
theorem dX7_tie_11 : decode cX7_tie 11 = .ok (.getfield 148, 3) := by decide +kernel
theorem dX7_tie_14 : decode cX7_tie 14 = .ok (.iload_n 1, 1) := by decide +kernel
theorem dX7_tie_15 : decode cX7_tie 15 = .ok (.invokestatic 166, 3) := by decide +kernel
theorem dX7_tie_18 : decode cX7_tie 18 = .ok (.istore_n 3, 1) := by decide +kernel
theorem dX7_tie_19 : decode cX7_tie 19 = .ok (.aload_n 0, 1) := by decide +kernel
theorem dX7_tie_20 : decode cX7_tie 20 = .ok (.iload_n 2, 1) := by decide +kernel
theorem dX7_tie_21 : decode cX7_tie 21 = .ok (.ifCond .eq 14, 3) := by decide +kernel
theorem dX7_tie_24 : decode cX7_tie 24 = .ok (.aload_n 0, 1) := by decide +kernel
theorem dX7_tie_25 : decode cX7_tie 25 = .ok (.getfield 148, 3) := by decide +kernel
theorem dX7_tie_28 : decode cX7_tie 28 = .ok (.iconst 1, 1) := by decide +kernel
theorem dX7_tie_29 : decode cX7_tie 29 = .ok (.iload_n 1, 1) := by decide +kernel
theorem dX7_tie_30 : decode cX7_tie 30 = .ok (.ishl, 1) := by decide +kernel
theorem dX7_tie_31 : decode cX7_tie 31 = .ok (.ior, 1) := by decide +kernel
theorem dX7_tie_32 : decode cX7_tie 32 = .ok (.goto 13, 3) := by decide +kernel
theorem dX7_tie_35 : decode cX7_tie 35 = .ok (.aload_n 0, 1) := by decide +kernel
theorem dX7_tie_36 : decode cX7_tie 36 = .ok (.getfield 148, 3) := by decide +kernel
theorem dX7_tie_39 : decode cX7_tie 39 = .ok (.iconst 1, 1) := by decide +kernel
theorem dX7_tie_40 : decode cX7_tie 40 = .ok (.iload_n 1, 1) := by decide +kernel
theorem dX7_tie_41 : decode cX7_tie 41 = .ok (.ishl, 1) := by decide +kernel
theorem dX7_tie_42 : decode cX7_tie 42 = .ok (.iconst (-1), 1) := by decide +kernel
theorem dX7_tie_43 : decode cX7_tie 43 = .ok (.ixor, 1) := by decide +kernel
theorem dX7_tie_44 : decode cX7_tie 44 = .ok (.iand, 1) := by decide +kernel
theorem dX7_tie_45 : decode cX7_tie 45 = .ok (.putfield 148, 3) := by decide +kernel
theorem dX7_tie_48 : decode cX7_tie 48 = .ok (.iload_n 3, 1) := by decide +kernel
theorem dX7_tie_49 : decode cX7_tie 49 = .ok (.iload_n 2, 1) := by decide +kernel
theorem dX7_tie_50 : decode cX7_tie 50 = .ok (.if_icmp .ne 7, 3) := by decide +kernel
theorem dX7_tie_53 : decode cX7_tie 53 = .ok (.iconst 0, 1) := by decide +kernel
theorem dX7_tie_54 : decode cX7_tie 54 = .ok (.goto 4, 3) := by decide +kernel
theorem dX7_tie_57 : decode cX7_tie 57 = .ok (.iconst 1, 1) := by decide +kernel
theorem dX7_tie_58 : decode cX7_tie 58 = .ok (.ireturn, 1) := by decide +kernel
theorem dX7_span_0 : decode cX7_span 0 = .ok (.iload_n 1, 1) := by decide +kernel
theorem dX7_span_1 : decode cX7_span 1 = .ok (.i2l, 1) := by decide +kernel
theorem dX7_span_2 : decode cX7_span 2 = .ok (.lconst 0, 1) := by decide +kernel
theorem dX7_span_3 : decode cX7_span 3 = .ok (.ldc2_w 169, 3) := by decide +kernel
theorem dX7_span_6 : decode cX7_span 6 = .ok (.invokestatic 93, 3) := by decide +kernel
theorem dX7_span_9 : decode cX7_span 9 = .ok (.ifCond .ne 6, 3) := by decide +kernel
theorem dX7_span_12 : decode cX7_span 12 = .ok (.bipush (-2), 2) := by decide +kernel
theorem dX7_span_14 : decode cX7_span 14 = .ok (.ireturn, 1) := by decide +kernel
theorem dX7_span_15 : decode cX7_span 15 = .ok (.aload_n 0, 1) := by decide +kernel
theorem dX7_span_16 : decode cX7_span 16 = .ok (.getfield 90, 3) := by decide +kernel
theorem dX7_span_19 : decode cX7_span 19 = .ok (.ifCond .ne 6, 3) := by decide +kernel
theorem dX7_span_22 : decode cX7_span 22 = .ok (.bipush (-3), 2) := by decide +kernel
theorem dX7_span_24 : decode cX7_span 24 = .ok (.ireturn, 1) := by decide +kernel
theorem dX7_span_25 : decode cX7_span 25 = .ok (.aload_n 0, 1) := by decide +kernel
theorem dX7_span_26 : decode cX7_span 26 = .ok (.getfield 151, 3) := by decide +kernel
theorem dX7_span_29 : decode cX7_span 29 = .ok (.istore_n 2, 1) := by decide +kernel
theorem dX7_span_30 : decode cX7_span 30 = .ok (.aload_n 0, 1) := by decide +kernel
theorem dX7_span_31 : decode cX7_span 31 = .ok (.iload_n 1, 1) := by decide +kernel
theorem dX7_span_32 : decode cX7_span 32 = .ok (.putfield 151, 3) := by decide +kernel
theorem dX7_span_35 : decode cX7_span 35 = .ok (.iload_n 2, 1) := by decide +kernel
theorem dX7_span_36 : decode cX7_span 36 = .ok (.ireturn, 1) := by decide +kernel
theorem dX7_pull_0 : decode cX7_pull 0 = .ok (.aload_n 0, 1) := by decide +kernel
theorem dX7_pull_1 : decode cX7_pull 1 = .ok (.iload_n 1, 1) := by decide +kernel
theorem dX7_pull_2 : decode cX7_pull 2 = .ok (.invokevirtual 160, 3) := by decide +kernel
theorem dX7_pull_5 : decode cX7_pull 5 = .ok (.ifCond .eq 5, 3) := by decide +kernel
theorem dX7_pull_8 : decode cX7_pull 8 = .ok (.iconst (-1), 1) := by decide +kernel
theorem dX7_pull_9 : decode cX7_pull 9 = .ok (.ireturn, 1) := by decide +kernel
theorem dX7_pull_10 : decode cX7_pull 10 = .ok (.iload_n 2, 1) := by decide +kernel
theorem dX7_pull_11 : decode cX7_pull 11 = .ok (.i2l, 1) := by decide +kernel
theorem dX7_pull_12 : decode cX7_pull 12 = .ok (.lconst 0, 1) := by decide +kernel
theorem dX7_pull_13 : decode cX7_pull 13 = .ok (.ldc2_w 171, 3) := by decide +kernel
theorem dX7_pull_16 : decode cX7_pull 16 = .ok (.invokestatic 93, 3) := by decide +kernel
theorem dX7_pull_19 : decode cX7_pull 19 = .ok (.ifCond .ne 6, 3) := by decide +kernel
theorem dX7_pull_22 : decode cX7_pull 22 = .ok (.bipush (-2), 2) := by decide +kernel
theorem dX7_pull_24 : decode cX7_pull 24 = .ok (.ireturn, 1) := by decide +kernel
theorem dX7_pull_25 : decode cX7_pull 25 = .ok (.aload_n 0, 1) := by decide +kernel
theorem dX7_pull_26 : decode cX7_pull 26 = .ok (.getfield 154, 3) := by decide +kernel
theorem dX7_pull_29 : decode cX7_pull 29 = .ok (.bipush 6, 2) := by decide +kernel
theorem dX7_pull_31 : decode cX7_pull 31 = .ok (.if_icmp .ne 6, 3) := by decide +kernel
theorem dX7_pull_34 : decode cX7_pull 34 = .ok (.bipush (-4), 2) := by decide +kernel
theorem dX7_pull_36 : decode cX7_pull 36 = .ok (.ireturn, 1) := by decide +kernel
theorem dX7_pull_37 : decode cX7_pull 37 = .ok (.aload_n 0, 1) := by decide +kernel
theorem dX7_pull_38 : decode cX7_pull 38 = .ok (.getfield 40, 3) := by decide +kernel
theorem dX7_pull_41 : decode cX7_pull 41 = .ok (.aload_n 0, 1) := by decide +kernel
theorem dX7_pull_42 : decode cX7_pull 42 = .ok (.getfield 154, 3) := by decide +kernel
theorem dX7_pull_45 : decode cX7_pull 45 = .ok (.iload_n 1, 1) := by decide +kernel
theorem dX7_pull_46 : decode cX7_pull 46 = .ok (.iastore, 1) := by decide +kernel
theorem dX7_pull_47 : decode cX7_pull 47 = .ok (.aload_n 0, 1) := by decide +kernel
theorem dX7_pull_48 : decode cX7_pull 48 = .ok (.getfield 43, 3) := by decide +kernel
theorem dX7_pull_51 : decode cX7_pull 51 = .ok (.aload_n 0, 1) := by decide +kernel
theorem dX7_pull_52 : decode cX7_pull 52 = .ok (.getfield 154, 3) := by decide +kernel
theorem dX7_pull_55 : decode cX7_pull 55 = .ok (.iload_n 2, 1) := by decide +kernel
theorem dX7_pull_56 : decode cX7_pull 56 = .ok (.iastore, 1) := by decide +kernel
theorem dX7_pull_57 : decode cX7_pull 57 = .ok (.aload_n 0, 1) := by decide +kernel
theorem dX7_pull_58 : decode cX7_pull 58 = .ok (.dup, 1) := by decide +kernel
theorem dX7_pull_59 : decode cX7_pull 59 = .ok (.getfield 154, 3) := by decide +kernel
theorem dX7_pull_62 : decode cX7_pull 62 = .ok (.iconst 1, 1) := by decide +kernel
theorem dX7_pull_63 : decode cX7_pull 63 = .ok (.iadd, 1) := by decide +kernel
theorem dX7_pull_64 : decode cX7_pull 64 = .ok (.putfield 154, 3) := by decide +kernel
theorem dX7_pull_67 : decode cX7_pull 67 = .ok (.aload_n 0, 1) := by decide +kernel
theorem dX7_pull_68 : decode cX7_pull 68 = .ok (.getfield 154, 3) := by decide +kernel
theorem dX7_pull_71 : decode cX7_pull 71 = .ok (.iconst 1, 1) := by decide +kernel
theorem dX7_pull_72 : decode cX7_pull 72 = .ok (.isub, 1) := by decide +kernel
theorem dX7_pull_73 : decode cX7_pull 73 = .ok (.ireturn, 1) := by decide +kernel
theorem dX7_undo_0 : decode cX7_undo 0 = .ok (.iload_n 1, 1) := by decide +kernel
theorem dX7_undo_1 : decode cX7_undo 1 = .ok (.i2l, 1) := by decide +kernel
theorem dX7_undo_2 : decode cX7_undo 2 = .ok (.lconst 0, 1) := by decide +kernel
theorem dX7_undo_3 : decode cX7_undo 3 = .ok (.aload_n 0, 1) := by decide +kernel
theorem dX7_undo_4 : decode cX7_undo 4 = .ok (.getfield 154, 3) := by decide +kernel
theorem dX7_undo_7 : decode cX7_undo 7 = .ok (.i2l, 1) := by decide +kernel
theorem dX7_undo_8 : decode cX7_undo 8 = .ok (.invokestatic 93, 3) := by decide +kernel
theorem dX7_undo_11 : decode cX7_undo 11 = .ok (.ifCond .ne 6, 3) := by decide +kernel
theorem dX7_undo_14 : decode cX7_undo 14 = .ok (.bipush (-2), 2) := by decide +kernel
theorem dX7_undo_16 : decode cX7_undo 16 = .ok (.ireturn, 1) := by decide +kernel
theorem dX7_undo_17 : decode cX7_undo 17 = .ok (.aload_n 0, 1) := by decide +kernel
theorem dX7_undo_18 : decode cX7_undo 18 = .ok (.dup, 1) := by decide +kernel
theorem dX7_undo_19 : decode cX7_undo 19 = .ok (.getfield 154, 3) := by decide +kernel
theorem dX7_undo_22 : decode cX7_undo 22 = .ok (.iload_n 1, 1) := by decide +kernel
theorem dX7_undo_23 : decode cX7_undo 23 = .ok (.isub, 1) := by decide +kernel
theorem dX7_undo_24 : decode cX7_undo 24 = .ok (.putfield 154, 3) := by decide +kernel
theorem dX7_undo_27 : decode cX7_undo 27 = .ok (.aload_n 0, 1) := by decide +kernel
theorem dX7_undo_28 : decode cX7_undo 28 = .ok (.getfield 154, 3) := by decide +kernel
theorem dX7_undo_31 : decode cX7_undo 31 = .ok (.ireturn, 1) := by decide +kernel
theorem dX7_swingByRope_0 : decode cX7_swingByRope 0 = .ok (.aload_n 0, 1) := by decide +kernel
theorem dX7_swingByRope_1 : decode cX7_swingByRope 1 = .ok (.getfield 55, 3) := by decide +kernel
theorem dX7_swingByRope_4 : decode cX7_swingByRope 4 = .ok (.iload_n 1, 1) := by decide +kernel
theorem dX7_swingByRope_5 : decode cX7_swingByRope 5 = .ok (.dup2, 1) := by decide +kernel
theorem dX7_swingByRope_6 : decode cX7_swingByRope 6 = .ok (.iaload, 1) := by decide +kernel
theorem dX7_swingByRope_7 : decode cX7_swingByRope 7 = .ok (.iconst 1, 1) := by decide +kernel
theorem dX7_swingByRope_8 : decode cX7_swingByRope 8 = .ok (.iadd, 1) := by decide +kernel
theorem dX7_swingByRope_9 : decode cX7_swingByRope 9 = .ok (.iastore, 1) := by decide +kernel
theorem dX7_swingByRope_10 : decode cX7_swingByRope 10 = .ok (.aload_n 0, 1) := by decide +kernel
theorem dX7_swingByRope_11 : decode cX7_swingByRope 11 = .ok (.getfield 7, 3) := by decide +kernel
theorem dX7_swingByRope_14 : decode cX7_swingByRope 14 = .ok (.iload_n 1, 1) := by decide +kernel
theorem dX7_swingByRope_15 : decode cX7_swingByRope 15 = .ok (.iaload, 1) := by decide +kernel
theorem dX7_swingByRope_16 : decode cX7_swingByRope 16 = .ok (.iconst 2, 1) := by decide +kernel
theorem dX7_swingByRope_17 : decode cX7_swingByRope 17 = .ok (.if_icmp .lt 14, 3) := by decide +kernel
theorem dX7_swingByRope_20 : decode cX7_swingByRope 20 = .ok (.aload_n 0, 1) := by decide +kernel
theorem dX7_swingByRope_21 : decode cX7_swingByRope 21 = .ok (.getfield 55, 3) := by decide +kernel
theorem dX7_swingByRope_24 : decode cX7_swingByRope 24 = .ok (.iload_n 1, 1) := by decide +kernel
theorem dX7_swingByRope_25 : decode cX7_swingByRope 25 = .ok (.iaload, 1) := by decide +kernel
theorem dX7_swingByRope_26 : decode cX7_swingByRope 26 = .ok (.iconst 2, 1) := by decide +kernel
theorem dX7_swingByRope_27 : decode cX7_swingByRope 27 = .ok (.irem, 1) := by decide +kernel
theorem dX7_swingByRope_28 : decode cX7_swingByRope 28 = .ok (.ifCond .ne 21, 3) := by decide +kernel
theorem dX7_swingByRope_31 : decode cX7_swingByRope 31 = .ok (.aload_n 0, 1) := by decide +kernel
theorem dX7_swingByRope_32 : decode cX7_swingByRope 32 = .ok (.getfield 49, 3) := by decide +kernel
theorem dX7_swingByRope_35 : decode cX7_swingByRope 35 = .ok (.bipush 6, 2) := by decide +kernel
theorem dX7_swingByRope_37 : decode cX7_swingByRope 37 = .ok (.iload_n 1, 1) := by decide +kernel
theorem dX7_swingByRope_38 : decode cX7_swingByRope 38 = .ok (.imul, 1) := by decide +kernel
theorem dX7_swingByRope_39 : decode cX7_swingByRope 39 = .ok (.iload_n 2, 1) := by decide +kernel
theorem dX7_swingByRope_40 : decode cX7_swingByRope 40 = .ok (.bipush 6, 2) := by decide +kernel
theorem dX7_swingByRope_42 : decode cX7_swingByRope 42 = .ok (.irem, 1) := by decide +kernel
theorem dX7_swingByRope_43 : decode cX7_swingByRope 43 = .ok (.iadd, 1) := by decide +kernel
theorem dX7_swingByRope_44 : decode cX7_swingByRope 44 = .ok (.dup2, 1) := by decide +kernel
theorem dX7_swingByRope_45 : decode cX7_swingByRope 45 = .ok (.iaload, 1) := by decide +kernel
theorem dX7_swingByRope_46 : decode cX7_swingByRope 46 = .ok (.iconst 1, 1) := by decide +kernel
theorem dX7_swingByRope_47 : decode cX7_swingByRope 47 = .ok (.iadd, 1) := by decide +kernel
theorem dX7_swingByRope_48 : decode cX7_swingByRope 48 = .ok (.iastore, 1) := by decide +kernel
theorem dX7_swingByRope_49 : decode cX7_swingByRope 49 = .ok (.return_, 1) := by decide +kernel
theorem dX7_swingAll_0 : decode cX7_swingAll 0 = .ok (.iconst 0, 1) := by decide +kernel
theorem dX7_swingAll_1 : decode cX7_swingAll 1 = .ok (.istore 4, 2) := by decide +kernel
theorem dX7_swingAll_3 : decode cX7_swingAll 3 = .ok (.iload 4, 2) := by decide +kernel
theorem dX7_swingAll_5 : decode cX7_swingAll 5 = .ok (.aload_n 0, 1) := by decide +kernel
theorem dX7_swingAll_6 : decode cX7_swingAll 6 = .ok (.getfield 154, 3) := by decide +kernel
theorem dX7_swingAll_9 : decode cX7_swingAll 9 = .ok (.if_icmp .ge 52, 3) := by decide +kernel
theorem dX7_swingAll_12 : decode cX7_swingAll 12 = .ok (.iload_n 2, 1) := by decide +kernel
theorem dX7_swingAll_13 : decode cX7_swingAll 13 = .ok (.ifCond .ge 48, 3) := by decide +kernel
theorem dX7_swingAll_16 : decode cX7_swingAll 16 = .ok (.aload_n 0, 1) := by decide +kernel
theorem dX7_swingAll_17 : decode cX7_swingAll 17 = .ok (.getfield 49, 3) := by decide +kernel
theorem dX7_swingAll_20 : decode cX7_swingAll 20 = .ok (.bipush 6, 2) := by decide +kernel
theorem dX7_swingAll_22 : decode cX7_swingAll 22 = .ok (.aload_n 0, 1) := by decide +kernel
theorem dX7_swingAll_23 : decode cX7_swingAll 23 = .ok (.getfield 40, 3) := by decide +kernel
theorem dX7_swingAll_26 : decode cX7_swingAll 26 = .ok (.iload 4, 2) := by decide +kernel
theorem dX7_swingAll_28 : decode cX7_swingAll 28 = .ok (.iaload, 1) := by decide +kernel
theorem dX7_swingAll_29 : decode cX7_swingAll 29 = .ok (.imul, 1) := by decide +kernel
theorem dX7_swingAll_30 : decode cX7_swingAll 30 = .ok (.iload_n 1, 1) := by decide +kernel
theorem dX7_swingAll_31 : decode cX7_swingAll 31 = .ok (.bipush 6, 2) := by decide +kernel
theorem dX7_swingAll_33 : decode cX7_swingAll 33 = .ok (.irem, 1) := by decide +kernel
theorem dX7_swingAll_34 : decode cX7_swingAll 34 = .ok (.iadd, 1) := by decide +kernel
theorem dX7_swingAll_35 : decode cX7_swingAll 35 = .ok (.dup2, 1) := by decide +kernel
theorem dX7_swingAll_36 : decode cX7_swingAll 36 = .ok (.iaload, 1) := by decide +kernel
theorem dX7_swingAll_37 : decode cX7_swingAll 37 = .ok (.aload_n 0, 1) := by decide +kernel
theorem dX7_swingAll_38 : decode cX7_swingAll 38 = .ok (.getfield 43, 3) := by decide +kernel
theorem dX7_swingAll_41 : decode cX7_swingAll 41 = .ok (.iload 4, 2) := by decide +kernel
theorem dX7_swingAll_43 : decode cX7_swingAll 43 = .ok (.iaload, 1) := by decide +kernel
theorem dX7_swingAll_44 : decode cX7_swingAll 44 = .ok (.iload_n 1, 1) := by decide +kernel
theorem dX7_swingAll_45 : decode cX7_swingAll 45 = .ok (.if_icmp .ne 7, 3) := by decide +kernel
theorem dX7_swingAll_48 : decode cX7_swingAll 48 = .ok (.iconst 1, 1) := by decide +kernel
theorem dX7_swingAll_49 : decode cX7_swingAll 49 = .ok (.goto 4, 3) := by decide +kernel
theorem dX7_swingAll_52 : decode cX7_swingAll 52 = .ok (.iconst 0, 1) := by decide +kernel
theorem dX7_swingAll_53 : decode cX7_swingAll 53 = .ok (.iadd, 1) := by decide +kernel
theorem dX7_swingAll_54 : decode cX7_swingAll 54 = .ok (.iastore, 1) := by decide +kernel
theorem dX7_swingAll_55 : decode cX7_swingAll 55 = .ok (.iinc 4 1, 3) := by decide +kernel
theorem dX7_swingAll_58 : decode cX7_swingAll 58 = .ok (.goto (-55), 3) := by decide +kernel
theorem dX7_swingAll_61 : decode cX7_swingAll 61 = .ok (.iconst 0, 1) := by decide +kernel
theorem dX7_swingAll_62 : decode cX7_swingAll 62 = .ok (.istore 4, 2) := by decide +kernel
theorem dX7_swingAll_64 : decode cX7_swingAll 64 = .ok (.iload 4, 2) := by decide +kernel
theorem dX7_swingAll_66 : decode cX7_swingAll 66 = .ok (.aload_n 0, 1) := by decide +kernel
theorem dX7_swingAll_67 : decode cX7_swingAll 67 = .ok (.getfield 90, 3) := by decide +kernel
theorem dX7_swingAll_70 : decode cX7_swingAll 70 = .ok (.if_icmp .ge 49, 3) := by decide +kernel
theorem dX7_swingAll_73 : decode cX7_swingAll 73 = .ok (.iload_n 2, 1) := by decide +kernel
theorem dX7_swingAll_74 : decode cX7_swingAll 74 = .ok (.ifCond .lt 45, 3) := by decide +kernel
theorem dX7_swingAll_77 : decode cX7_swingAll 77 = .ok (.iload_n 1, 1) := by decide +kernel
theorem dX7_swingAll_78 : decode cX7_swingAll 78 = .ok (.ifCond .ne 41, 3) := by decide +kernel
theorem dX7_swingAll_81 : decode cX7_swingAll 81 = .ok (.aload_n 0, 1) := by decide +kernel
theorem dX7_swingAll_82 : decode cX7_swingAll 82 = .ok (.getfield 49, 3) := by decide +kernel
theorem dX7_swingAll_85 : decode cX7_swingAll 85 = .ok (.bipush 6, 2) := by decide +kernel
theorem dX7_swingAll_87 : decode cX7_swingAll 87 = .ok (.iload 4, 2) := by decide +kernel
theorem dX7_swingAll_89 : decode cX7_swingAll 89 = .ok (.imul, 1) := by decide +kernel
theorem dX7_swingAll_90 : decode cX7_swingAll 90 = .ok (.dup2, 1) := by decide +kernel
theorem dX7_swingAll_91 : decode cX7_swingAll 91 = .ok (.iaload, 1) := by decide +kernel
theorem dX7_swingAll_92 : decode cX7_swingAll 92 = .ok (.iload_n 2, 1) := by decide +kernel
theorem dX7_swingAll_93 : decode cX7_swingAll 93 = .ok (.iload 4, 2) := by decide +kernel
theorem dX7_swingAll_95 : decode cX7_swingAll 95 = .ok (.invokestatic 166, 3) := by decide +kernel
theorem dX7_swingAll_98 : decode cX7_swingAll 98 = .ok (.ifCond .eq 12, 3) := by decide +kernel
theorem dX7_swingAll_101 : decode cX7_swingAll 101 = .ok (.aload_n 0, 1) := by decide +kernel
theorem dX7_swingAll_102 : decode cX7_swingAll 102 = .ok (.iload 4, 2) := by decide +kernel
theorem dX7_swingAll_104 : decode cX7_swingAll 104 = .ok (.invokevirtual 163, 3) := by decide +kernel
theorem dX7_swingAll_107 : decode cX7_swingAll 107 = .ok (.goto 4, 3) := by decide +kernel
theorem dX7_swingAll_110 : decode cX7_swingAll 110 = .ok (.iconst 0, 1) := by decide +kernel
theorem dX7_swingAll_111 : decode cX7_swingAll 111 = .ok (.iadd, 1) := by decide +kernel
theorem dX7_swingAll_112 : decode cX7_swingAll 112 = .ok (.iastore, 1) := by decide +kernel
theorem dX7_swingAll_113 : decode cX7_swingAll 113 = .ok (.iinc 4 1, 3) := by decide +kernel
theorem dX7_swingAll_116 : decode cX7_swingAll 116 = .ok (.goto (-52), 3) := by decide +kernel
theorem dX7_swingAll_119 : decode cX7_swingAll 119 = .ok (.iconst 0, 1) := by decide +kernel
theorem dX7_swingAll_120 : decode cX7_swingAll 120 = .ok (.istore 4, 2) := by decide +kernel
theorem dX7_swingAll_122 : decode cX7_swingAll 122 = .ok (.iload 4, 2) := by decide +kernel
theorem dX7_swingAll_124 : decode cX7_swingAll 124 = .ok (.aload_n 0, 1) := by decide +kernel
theorem dX7_swingAll_125 : decode cX7_swingAll 125 = .ok (.getfield 145, 3) := by decide +kernel
theorem dX7_swingAll_128 : decode cX7_swingAll 128 = .ok (.if_icmp .ge 63, 3) := by decide +kernel
theorem dX7_swingAll_131 : decode cX7_swingAll 131 = .ok (.iload_n 1, 1) := by decide +kernel
theorem dX7_swingAll_132 : decode cX7_swingAll 132 = .ok (.aload_n 0, 1) := by decide +kernel
theorem dX7_swingAll_133 : decode cX7_swingAll 133 = .ok (.getfield 22, 3) := by decide +kernel
theorem dX7_swingAll_136 : decode cX7_swingAll 136 = .ok (.iload 4, 2) := by decide +kernel
theorem dX7_swingAll_138 : decode cX7_swingAll 138 = .ok (.iaload, 1) := by decide +kernel
theorem dX7_swingAll_139 : decode cX7_swingAll 139 = .ok (.isub, 1) := by decide +kernel
theorem dX7_swingAll_140 : decode cX7_swingAll 140 = .ok (.istore 5, 2) := by decide +kernel
theorem dX7_swingAll_142 : decode cX7_swingAll 142 = .ok (.iload 4, 2) := by decide +kernel
theorem dX7_swingAll_144 : decode cX7_swingAll 144 = .ok (.iload_n 3, 1) := by decide +kernel
theorem dX7_swingAll_145 : decode cX7_swingAll 145 = .ok (.if_icmp .eq 40, 3) := by decide +kernel
theorem dX7_swingAll_148 : decode cX7_swingAll 148 = .ok (.iload 5, 2) := by decide +kernel
theorem dX7_swingAll_150 : decode cX7_swingAll 150 = .ok (.ifCond .lt 35, 3) := by decide +kernel
theorem dX7_swingAll_153 : decode cX7_swingAll 153 = .ok (.aload_n 0, 1) := by decide +kernel
theorem dX7_swingAll_154 : decode cX7_swingAll 154 = .ok (.getfield 46, 3) := by decide +kernel
theorem dX7_swingAll_157 : decode cX7_swingAll 157 = .ok (.iload 5, 2) := by decide +kernel
theorem dX7_swingAll_159 : decode cX7_swingAll 159 = .ok (.iaload, 1) := by decide +kernel
theorem dX7_swingAll_160 : decode cX7_swingAll 160 = .ok (.aload_n 0, 1) := by decide +kernel
theorem dX7_swingAll_161 : decode cX7_swingAll 161 = .ok (.getfield 16, 3) := by decide +kernel
theorem dX7_swingAll_164 : decode cX7_swingAll 164 = .ok (.iload 4, 2) := by decide +kernel
theorem dX7_swingAll_166 : decode cX7_swingAll 166 = .ok (.iaload, 1) := by decide +kernel
theorem dX7_swingAll_167 : decode cX7_swingAll 167 = .ok (.invokestatic 166, 3) := by decide +kernel
theorem dX7_swingAll_170 : decode cX7_swingAll 170 = .ok (.ifCond .eq 15, 3) := by decide +kernel
theorem dX7_swingAll_173 : decode cX7_swingAll 173 = .ok (.aload_n 0, 1) := by decide +kernel
theorem dX7_swingAll_174 : decode cX7_swingAll 174 = .ok (.aload_n 0, 1) := by decide +kernel
theorem dX7_swingAll_175 : decode cX7_swingAll 175 = .ok (.getfield 19, 3) := by decide +kernel
theorem dX7_swingAll_178 : decode cX7_swingAll 178 = .ok (.iload 4, 2) := by decide +kernel
theorem dX7_swingAll_180 : decode cX7_swingAll 180 = .ok (.iaload, 1) := by decide +kernel
theorem dX7_swingAll_181 : decode cX7_swingAll 181 = .ok (.iload_n 1, 1) := by decide +kernel
theorem dX7_swingAll_182 : decode cX7_swingAll 182 = .ok (.invokevirtual 173, 3) := by decide +kernel
theorem dX7_swingAll_185 : decode cX7_swingAll 185 = .ok (.iinc 4 1, 3) := by decide +kernel
theorem dX7_swingAll_188 : decode cX7_swingAll 188 = .ok (.goto (-66), 3) := by decide +kernel
theorem dX7_swingAll_191 : decode cX7_swingAll 191 = .ok (.return_, 1) := by decide +kernel
theorem dX7_doesRing_0 : decode cX7_doesRing 0 = .ok (.iconst 0, 1) := by decide +kernel
theorem dX7_doesRing_1 : decode cX7_doesRing 1 = .ok (.istore_n 3, 1) := by decide +kernel
theorem dX7_doesRing_2 : decode cX7_doesRing 2 = .ok (.iload_n 2, 1) := by decide +kernel
theorem dX7_doesRing_3 : decode cX7_doesRing 3 = .ok (.istore 4, 2) := by decide +kernel
theorem dX7_doesRing_5 : decode cX7_doesRing 5 = .ok (.iload 4, 2) := by decide +kernel
theorem dX7_doesRing_7 : decode cX7_doesRing 7 = .ok (.ifCond .lt 49, 3) := by decide +kernel
theorem dX7_doesRing_10 : decode cX7_doesRing 10 = .ok (.iload 4, 2) := by decide +kernel
theorem dX7_doesRing_12 : decode cX7_doesRing 12 = .ok (.iload_n 2, 1) := by decide +kernel
theorem dX7_doesRing_13 : decode cX7_doesRing 13 = .ok (.aload_n 0, 1) := by decide +kernel
theorem dX7_doesRing_14 : decode cX7_doesRing 14 = .ok (.getfield 151, 3) := by decide +kernel
theorem dX7_doesRing_17 : decode cX7_doesRing 17 = .ok (.isub, 1) := by decide +kernel
theorem dX7_doesRing_18 : decode cX7_doesRing 18 = .ok (.if_icmp .lt 38, 3) := by decide +kernel
theorem dX7_doesRing_21 : decode cX7_doesRing 21 = .ok (.iload 4, 2) := by decide +kernel
theorem dX7_doesRing_23 : decode cX7_doesRing 23 = .ok (.aload_n 0, 1) := by decide +kernel
theorem dX7_doesRing_24 : decode cX7_doesRing 24 = .ok (.getfield 52, 3) := by decide +kernel
theorem dX7_doesRing_27 : decode cX7_doesRing 27 = .ok (.iload_n 1, 1) := by decide +kernel
theorem dX7_doesRing_28 : decode cX7_doesRing 28 = .ok (.iaload, 1) := by decide +kernel
theorem dX7_doesRing_29 : decode cX7_doesRing 29 = .ok (.if_icmp .le 27, 3) := by decide +kernel
theorem dX7_doesRing_32 : decode cX7_doesRing 32 = .ok (.iload_n 3, 1) := by decide +kernel
theorem dX7_doesRing_33 : decode cX7_doesRing 33 = .ok (.aload_n 0, 1) := by decide +kernel
theorem dX7_doesRing_34 : decode cX7_doesRing 34 = .ok (.getfield 49, 3) := by decide +kernel
theorem dX7_doesRing_37 : decode cX7_doesRing 37 = .ok (.bipush 6, 2) := by decide +kernel
theorem dX7_doesRing_39 : decode cX7_doesRing 39 = .ok (.iload_n 1, 1) := by decide +kernel
theorem dX7_doesRing_40 : decode cX7_doesRing 40 = .ok (.imul, 1) := by decide +kernel
theorem dX7_doesRing_41 : decode cX7_doesRing 41 = .ok (.iload 4, 2) := by decide +kernel
theorem dX7_doesRing_43 : decode cX7_doesRing 43 = .ok (.bipush 6, 2) := by decide +kernel
theorem dX7_doesRing_45 : decode cX7_doesRing 45 = .ok (.irem, 1) := by decide +kernel
theorem dX7_doesRing_46 : decode cX7_doesRing 46 = .ok (.iadd, 1) := by decide +kernel
theorem dX7_doesRing_47 : decode cX7_doesRing 47 = .ok (.iaload, 1) := by decide +kernel
theorem dX7_doesRing_48 : decode cX7_doesRing 48 = .ok (.iadd, 1) := by decide +kernel
theorem dX7_doesRing_49 : decode cX7_doesRing 49 = .ok (.istore_n 3, 1) := by decide +kernel
theorem dX7_doesRing_50 : decode cX7_doesRing 50 = .ok (.iinc 4 (-1), 3) := by decide +kernel
theorem dX7_doesRing_53 : decode cX7_doesRing 53 = .ok (.goto (-48), 3) := by decide +kernel
theorem dX7_doesRing_56 : decode cX7_doesRing 56 = .ok (.aload_n 0, 1) := by decide +kernel
theorem dX7_doesRing_57 : decode cX7_doesRing 57 = .ok (.getfield 148, 3) := by decide +kernel
theorem dX7_doesRing_60 : decode cX7_doesRing 60 = .ok (.iload_n 1, 1) := by decide +kernel
theorem dX7_doesRing_61 : decode cX7_doesRing 61 = .ok (.invokestatic 166, 3) := by decide +kernel
theorem dX7_doesRing_64 : decode cX7_doesRing 64 = .ok (.ifCond .ne 16, 3) := by decide +kernel
theorem dX7_doesRing_67 : decode cX7_doesRing 67 = .ok (.iload_n 3, 1) := by decide +kernel
theorem dX7_doesRing_68 : decode cX7_doesRing 68 = .ok (.aload_n 0, 1) := by decide +kernel
theorem dX7_doesRing_69 : decode cX7_doesRing 69 = .ok (.iload_n 1, 1) := by decide +kernel
theorem dX7_doesRing_70 : decode cX7_doesRing 70 = .ok (.invokevirtual 163, 3) := by decide +kernel
theorem dX7_doesRing_73 : decode cX7_doesRing 73 = .ok (.if_icmp .lt 7, 3) := by decide +kernel
theorem dX7_doesRing_76 : decode cX7_doesRing 76 = .ok (.iconst 1, 1) := by decide +kernel
theorem dX7_doesRing_77 : decode cX7_doesRing 77 = .ok (.goto 4, 3) := by decide +kernel
theorem dX7_doesRing_80 : decode cX7_doesRing 80 = .ok (.iconst 0, 1) := by decide +kernel
theorem dX7_doesRing_81 : decode cX7_doesRing 81 = .ok (.ireturn, 1) := by decide +kernel
theorem dX7_go_0 : decode cX7_go 0 = .ok (.iconst 0, 1) := by decide +kernel
theorem dX7_go_1 : decode cX7_go 1 = .ok (.istore 4, 2) := by decide +kernel
theorem dX7_go_3 : decode cX7_go 3 = .ok (.iload 4, 2) := by decide +kernel
theorem dX7_go_5 : decode cX7_go 5 = .ok (.bipush 6, 2) := by decide +kernel
theorem dX7_go_7 : decode cX7_go 7 = .ok (.if_icmp .ge 25, 3) := by decide +kernel
theorem dX7_go_10 : decode cX7_go 10 = .ok (.aload_n 0, 1) := by decide +kernel
theorem dX7_go_11 : decode cX7_go 11 = .ok (.getfield 52, 3) := by decide +kernel
theorem dX7_go_14 : decode cX7_go 14 = .ok (.iload 4, 2) := by decide +kernel
theorem dX7_go_16 : decode cX7_go 16 = .ok (.iconst (-1), 1) := by decide +kernel
theorem dX7_go_17 : decode cX7_go 17 = .ok (.iastore, 1) := by decide +kernel
theorem dX7_go_18 : decode cX7_go 18 = .ok (.aload_n 0, 1) := by decide +kernel
theorem dX7_go_19 : decode cX7_go 19 = .ok (.getfield 55, 3) := by decide +kernel
theorem dX7_go_22 : decode cX7_go 22 = .ok (.iload 4, 2) := by decide +kernel
theorem dX7_go_24 : decode cX7_go 24 = .ok (.iconst 0, 1) := by decide +kernel
theorem dX7_go_25 : decode cX7_go 25 = .ok (.iastore, 1) := by decide +kernel
theorem dX7_go_26 : decode cX7_go 26 = .ok (.iinc 4 1, 3) := by decide +kernel
theorem dX7_go_29 : decode cX7_go 29 = .ok (.goto (-26), 3) := by decide +kernel
theorem dX7_go_32 : decode cX7_go 32 = .ok (.iconst 0, 1) := by decide +kernel
theorem dX7_go_33 : decode cX7_go 33 = .ok (.istore 4, 2) := by decide +kernel
theorem dX7_go_35 : decode cX7_go 35 = .ok (.iload 4, 2) := by decide +kernel
theorem dX7_go_37 : decode cX7_go 37 = .ok (.bipush 36, 2) := by decide +kernel
theorem dX7_go_39 : decode cX7_go 39 = .ok (.if_icmp .ge 17, 3) := by decide +kernel
theorem dX7_go_42 : decode cX7_go 42 = .ok (.aload_n 0, 1) := by decide +kernel
theorem dX7_go_43 : decode cX7_go 43 = .ok (.getfield 49, 3) := by decide +kernel
theorem dX7_go_46 : decode cX7_go 46 = .ok (.iload 4, 2) := by decide +kernel
theorem dX7_go_48 : decode cX7_go 48 = .ok (.iconst 0, 1) := by decide +kernel
theorem dX7_go_49 : decode cX7_go 49 = .ok (.iastore, 1) := by decide +kernel
theorem dX7_go_50 : decode cX7_go 50 = .ok (.iinc 4 1, 3) := by decide +kernel
theorem dX7_go_53 : decode cX7_go 53 = .ok (.goto (-18), 3) := by decide +kernel
theorem dX7_go_56 : decode cX7_go 56 = .ok (.iconst 0, 1) := by decide +kernel
theorem dX7_go_57 : decode cX7_go 57 = .ok (.istore 4, 2) := by decide +kernel
theorem dX7_go_59 : decode cX7_go 59 = .ok (.iload 4, 2) := by decide +kernel
theorem dX7_go_61 : decode cX7_go 61 = .ok (.iload_n 1, 1) := by decide +kernel
theorem dX7_go_62 : decode cX7_go 62 = .ok (.if_icmp .ge 180, 3) := by decide +kernel
theorem dX7_go_65 : decode cX7_go 65 = .ok (.aload_n 0, 1) := by decide +kernel
theorem dX7_go_66 : decode cX7_go 66 = .ok (.getfield 46, 3) := by decide +kernel
theorem dX7_go_69 : decode cX7_go 69 = .ok (.iload 4, 2) := by decide +kernel
theorem dX7_go_71 : decode cX7_go 71 = .ok (.iconst 0, 1) := by decide +kernel
theorem dX7_go_72 : decode cX7_go 72 = .ok (.iastore, 1) := by decide +kernel
theorem dX7_go_73 : decode cX7_go 73 = .ok (.iconst 0, 1) := by decide +kernel
theorem dX7_go_74 : decode cX7_go 74 = .ok (.istore 5, 2) := by decide +kernel
theorem dX7_go_76 : decode cX7_go 76 = .ok (.iload 5, 2) := by decide +kernel
theorem dX7_go_78 : decode cX7_go 78 = .ok (.bipush 6, 2) := by decide +kernel
theorem dX7_go_80 : decode cX7_go 80 = .ok (.if_icmp .ge 26, 3) := by decide +kernel
theorem dX7_go_83 : decode cX7_go 83 = .ok (.aload_n 0, 1) := by decide +kernel
theorem dX7_go_84 : decode cX7_go 84 = .ok (.getfield 49, 3) := by decide +kernel
theorem dX7_go_87 : decode cX7_go 87 = .ok (.bipush 6, 2) := by decide +kernel
theorem dX7_go_89 : decode cX7_go 89 = .ok (.iload 5, 2) := by decide +kernel
theorem dX7_go_91 : decode cX7_go 91 = .ok (.imul, 1) := by decide +kernel
theorem dX7_go_92 : decode cX7_go 92 = .ok (.iload 4, 2) := by decide +kernel
theorem dX7_go_94 : decode cX7_go 94 = .ok (.bipush 6, 2) := by decide +kernel
theorem dX7_go_96 : decode cX7_go 96 = .ok (.irem, 1) := by decide +kernel
theorem dX7_go_97 : decode cX7_go 97 = .ok (.iadd, 1) := by decide +kernel
theorem dX7_go_98 : decode cX7_go 98 = .ok (.iconst 0, 1) := by decide +kernel
theorem dX7_go_99 : decode cX7_go 99 = .ok (.iastore, 1) := by decide +kernel
theorem dX7_go_100 : decode cX7_go 100 = .ok (.iinc 5 1, 3) := by decide +kernel
theorem dX7_go_103 : decode cX7_go 103 = .ok (.goto (-27), 3) := by decide +kernel
theorem dX7_go_106 : decode cX7_go 106 = .ok (.aload_n 0, 1) := by decide +kernel
theorem dX7_go_107 : decode cX7_go 107 = .ok (.iload 4, 2) := by decide +kernel
theorem dX7_go_109 : decode cX7_go 109 = .ok (.iload_n 2, 1) := by decide +kernel
theorem dX7_go_110 : decode cX7_go 110 = .ok (.iload_n 3, 1) := by decide +kernel
theorem dX7_go_111 : decode cX7_go 111 = .ok (.invokevirtual 177, 3) := by decide +kernel
theorem dX7_go_114 : decode cX7_go 114 = .ok (.iconst 0, 1) := by decide +kernel
theorem dX7_go_115 : decode cX7_go 115 = .ok (.istore 5, 2) := by decide +kernel
theorem dX7_go_117 : decode cX7_go 117 = .ok (.iload 5, 2) := by decide +kernel
theorem dX7_go_119 : decode cX7_go 119 = .ok (.aload_n 0, 1) := by decide +kernel
theorem dX7_go_120 : decode cX7_go 120 = .ok (.getfield 90, 3) := by decide +kernel
theorem dX7_go_123 : decode cX7_go 123 = .ok (.if_icmp .ge 34, 3) := by decide +kernel
theorem dX7_go_126 : decode cX7_go 126 = .ok (.aload_n 0, 1) := by decide +kernel
theorem dX7_go_127 : decode cX7_go 127 = .ok (.iload 5, 2) := by decide +kernel
theorem dX7_go_129 : decode cX7_go 129 = .ok (.iload 4, 2) := by decide +kernel
theorem dX7_go_131 : decode cX7_go 131 = .ok (.invokevirtual 181, 3) := by decide +kernel
theorem dX7_go_134 : decode cX7_go 134 = .ok (.ifCond .eq 17, 3) := by decide +kernel
theorem dX7_go_137 : decode cX7_go 137 = .ok (.aload_n 0, 1) := by decide +kernel
theorem dX7_go_138 : decode cX7_go 138 = .ok (.getfield 46, 3) := by decide +kernel
theorem dX7_go_141 : decode cX7_go 141 = .ok (.iload 4, 2) := by decide +kernel
theorem dX7_go_143 : decode cX7_go 143 = .ok (.dup2, 1) := by decide +kernel
theorem dX7_go_144 : decode cX7_go 144 = .ok (.iaload, 1) := by decide +kernel
theorem dX7_go_145 : decode cX7_go 145 = .ok (.iconst 1, 1) := by decide +kernel
theorem dX7_go_146 : decode cX7_go 146 = .ok (.iload 5, 2) := by decide +kernel
theorem dX7_go_148 : decode cX7_go 148 = .ok (.ishl, 1) := by decide +kernel
theorem dX7_go_149 : decode cX7_go 149 = .ok (.ior, 1) := by decide +kernel
theorem dX7_go_150 : decode cX7_go 150 = .ok (.iastore, 1) := by decide +kernel
theorem dX7_go_151 : decode cX7_go 151 = .ok (.iinc 5 1, 3) := by decide +kernel
theorem dX7_go_154 : decode cX7_go 154 = .ok (.goto (-37), 3) := by decide +kernel
theorem dX7_go_157 : decode cX7_go 157 = .ok (.iconst 0, 1) := by decide +kernel
theorem dX7_go_158 : decode cX7_go 158 = .ok (.istore 5, 2) := by decide +kernel
theorem dX7_go_160 : decode cX7_go 160 = .ok (.iload 5, 2) := by decide +kernel
theorem dX7_go_162 : decode cX7_go 162 = .ok (.aload_n 0, 1) := by decide +kernel
theorem dX7_go_163 : decode cX7_go 163 = .ok (.getfield 90, 3) := by decide +kernel
theorem dX7_go_166 : decode cX7_go 166 = .ok (.if_icmp .ge 70, 3) := by decide +kernel
theorem dX7_go_169 : decode cX7_go 169 = .ok (.aload_n 0, 1) := by decide +kernel
theorem dX7_go_170 : decode cX7_go 170 = .ok (.getfield 46, 3) := by decide +kernel
theorem dX7_go_173 : decode cX7_go 173 = .ok (.iload 4, 2) := by decide +kernel
theorem dX7_go_175 : decode cX7_go 175 = .ok (.iaload, 1) := by decide +kernel
theorem dX7_go_176 : decode cX7_go 176 = .ok (.iload 5, 2) := by decide +kernel
theorem dX7_go_178 : decode cX7_go 178 = .ok (.invokestatic 166, 3) := by decide +kernel
theorem dX7_go_181 : decode cX7_go 181 = .ok (.istore 6, 2) := by decide +kernel
theorem dX7_go_183 : decode cX7_go 183 = .ok (.aload_n 0, 1) := by decide +kernel
theorem dX7_go_184 : decode cX7_go 184 = .ok (.getfield 52, 3) := by decide +kernel
theorem dX7_go_187 : decode cX7_go 187 = .ok (.iload 5, 2) := by decide +kernel
theorem dX7_go_189 : decode cX7_go 189 = .ok (.iload 6, 2) := by decide +kernel
theorem dX7_go_191 : decode cX7_go 191 = .ok (.ifCond .eq 8, 3) := by decide +kernel
theorem dX7_go_194 : decode cX7_go 194 = .ok (.iload 4, 2) := by decide +kernel
theorem dX7_go_196 : decode cX7_go 196 = .ok (.goto 10, 3) := by decide +kernel
theorem dX7_go_199 : decode cX7_go 199 = .ok (.aload_n 0, 1) := by decide +kernel
theorem dX7_go_200 : decode cX7_go 200 = .ok (.getfield 52, 3) := by decide +kernel
theorem dX7_go_203 : decode cX7_go 203 = .ok (.iload 5, 2) := by decide +kernel
theorem dX7_go_205 : decode cX7_go 205 = .ok (.iaload, 1) := by decide +kernel
theorem dX7_go_206 : decode cX7_go 206 = .ok (.iastore, 1) := by decide +kernel
theorem dX7_go_207 : decode cX7_go 207 = .ok (.aload_n 0, 1) := by decide +kernel
theorem dX7_go_208 : decode cX7_go 208 = .ok (.getfield 55, 3) := by decide +kernel
theorem dX7_go_211 : decode cX7_go 211 = .ok (.iload 5, 2) := by decide +kernel
theorem dX7_go_213 : decode cX7_go 213 = .ok (.iload 6, 2) := by decide +kernel
theorem dX7_go_215 : decode cX7_go 215 = .ok (.ifCond .eq 7, 3) := by decide +kernel
theorem dX7_go_218 : decode cX7_go 218 = .ok (.iconst 0, 1) := by decide +kernel
theorem dX7_go_219 : decode cX7_go 219 = .ok (.goto 10, 3) := by decide +kernel
theorem dX7_go_222 : decode cX7_go 222 = .ok (.aload_n 0, 1) := by decide +kernel
theorem dX7_go_223 : decode cX7_go 223 = .ok (.getfield 55, 3) := by decide +kernel
theorem dX7_go_226 : decode cX7_go 226 = .ok (.iload 5, 2) := by decide +kernel
theorem dX7_go_228 : decode cX7_go 228 = .ok (.iaload, 1) := by decide +kernel
theorem dX7_go_229 : decode cX7_go 229 = .ok (.iastore, 1) := by decide +kernel
theorem dX7_go_230 : decode cX7_go 230 = .ok (.iinc 5 1, 3) := by decide +kernel
theorem dX7_go_233 : decode cX7_go 233 = .ok (.goto (-73), 3) := by decide +kernel
theorem dX7_go_236 : decode cX7_go 236 = .ok (.iinc 4 1, 3) := by decide +kernel
theorem dX7_go_239 : decode cX7_go 239 = .ok (.goto (-180), 3) := by decide +kernel
theorem dX7_go_242 : decode cX7_go 242 = .ok (.return_, 1) := by decide +kernel
theorem dX7_goPulls_0 : decode cX7_goPulls 0 = .ok (.aload_n 0, 1) := by decide +kernel
theorem dX7_goPulls_1 : decode cX7_goPulls 1 = .ok (.sipush 400, 3) := by decide +kernel
theorem dX7_goPulls_4 : decode cX7_goPulls 4 = .ok (.bipush (-9), 2) := by decide +kernel
theorem dX7_goPulls_6 : decode cX7_goPulls 6 = .ok (.bipush (-9), 2) := by decide +kernel
theorem dX7_goPulls_8 : decode cX7_goPulls 8 = .ok (.invokevirtual 184, 3) := by decide +kernel
theorem dX7_goPulls_11 : decode cX7_goPulls 11 = .ok (.return_, 1) := by decide +kernel
theorem dX7_rings_0 : decode cX7_rings 0 = .ok (.aload_n 0, 1) := by decide +kernel
theorem dX7_rings_1 : decode cX7_rings 1 = .ok (.iload_n 1, 1) := by decide +kernel
theorem dX7_rings_2 : decode cX7_rings 2 = .ok (.invokevirtual 160, 3) := by decide +kernel
theorem dX7_rings_5 : decode cX7_rings 5 = .ok (.ifCond .eq 5, 3) := by decide +kernel
theorem dX7_rings_8 : decode cX7_rings 8 = .ok (.iconst (-1), 1) := by decide +kernel
theorem dX7_rings_9 : decode cX7_rings 9 = .ok (.ireturn, 1) := by decide +kernel
theorem dX7_rings_10 : decode cX7_rings 10 = .ok (.aload_n 0, 1) := by decide +kernel
theorem dX7_rings_11 : decode cX7_rings 11 = .ok (.invokevirtual 187, 3) := by decide +kernel
theorem dX7_rings_14 : decode cX7_rings 14 = .ok (.iconst 0, 1) := by decide +kernel
theorem dX7_rings_15 : decode cX7_rings 15 = .ok (.istore_n 2, 1) := by decide +kernel
theorem dX7_rings_16 : decode cX7_rings 16 = .ok (.iconst 0, 1) := by decide +kernel
theorem dX7_rings_17 : decode cX7_rings 17 = .ok (.istore_n 3, 1) := by decide +kernel
theorem dX7_rings_18 : decode cX7_rings 18 = .ok (.iload_n 3, 1) := by decide +kernel
theorem dX7_rings_19 : decode cX7_rings 19 = .ok (.sipush 400, 3) := by decide +kernel
theorem dX7_rings_22 : decode cX7_rings 22 = .ok (.if_icmp .ge 22, 3) := by decide +kernel
theorem dX7_rings_25 : decode cX7_rings 25 = .ok (.iload_n 2, 1) := by decide +kernel
theorem dX7_rings_26 : decode cX7_rings 26 = .ok (.aload_n 0, 1) := by decide +kernel
theorem dX7_rings_27 : decode cX7_rings 27 = .ok (.getfield 46, 3) := by decide +kernel
theorem dX7_rings_30 : decode cX7_rings 30 = .ok (.iload_n 3, 1) := by decide +kernel
theorem dX7_rings_31 : decode cX7_rings 31 = .ok (.iaload, 1) := by decide +kernel
theorem dX7_rings_32 : decode cX7_rings 32 = .ok (.iload_n 1, 1) := by decide +kernel
theorem dX7_rings_33 : decode cX7_rings 33 = .ok (.ishr, 1) := by decide +kernel
theorem dX7_rings_34 : decode cX7_rings 34 = .ok (.iconst 1, 1) := by decide +kernel
theorem dX7_rings_35 : decode cX7_rings 35 = .ok (.iand, 1) := by decide +kernel
theorem dX7_rings_36 : decode cX7_rings 36 = .ok (.iadd, 1) := by decide +kernel
theorem dX7_rings_37 : decode cX7_rings 37 = .ok (.istore_n 2, 1) := by decide +kernel
theorem dX7_rings_38 : decode cX7_rings 38 = .ok (.iinc 3 1, 3) := by decide +kernel
theorem dX7_rings_41 : decode cX7_rings 41 = .ok (.goto (-23), 3) := by decide +kernel
theorem dX7_rings_44 : decode cX7_rings 44 = .ok (.iload_n 2, 1) := by decide +kernel
theorem dX7_rings_45 : decode cX7_rings 45 = .ok (.ireturn, 1) := by decide +kernel
theorem dX7_ringsAt_0 : decode cX7_ringsAt 0 = .ok (.aload_n 0, 1) := by decide +kernel
theorem dX7_ringsAt_1 : decode cX7_ringsAt 1 = .ok (.iload_n 1, 1) := by decide +kernel
theorem dX7_ringsAt_2 : decode cX7_ringsAt 2 = .ok (.invokevirtual 160, 3) := by decide +kernel
theorem dX7_ringsAt_5 : decode cX7_ringsAt 5 = .ok (.ifCond .ne 7, 3) := by decide +kernel
theorem dX7_ringsAt_8 : decode cX7_ringsAt 8 = .ok (.iload_n 2, 1) := by decide +kernel
theorem dX7_ringsAt_9 : decode cX7_ringsAt 9 = .ok (.ifCond .ge 5, 3) := by decide +kernel
theorem dX7_ringsAt_12 : decode cX7_ringsAt 12 = .ok (.iconst (-1), 1) := by decide +kernel
theorem dX7_ringsAt_13 : decode cX7_ringsAt 13 = .ok (.ireturn, 1) := by decide +kernel
theorem dX7_ringsAt_14 : decode cX7_ringsAt 14 = .ok (.aload_n 0, 1) := by decide +kernel
theorem dX7_ringsAt_15 : decode cX7_ringsAt 15 = .ok (.invokevirtual 187, 3) := by decide +kernel
theorem dX7_ringsAt_18 : decode cX7_ringsAt 18 = .ok (.iconst 0, 1) := by decide +kernel
theorem dX7_ringsAt_19 : decode cX7_ringsAt 19 = .ok (.istore_n 3, 1) := by decide +kernel
theorem dX7_ringsAt_20 : decode cX7_ringsAt 20 = .ok (.iconst 0, 1) := by decide +kernel
theorem dX7_ringsAt_21 : decode cX7_ringsAt 21 = .ok (.istore 4, 2) := by decide +kernel
theorem dX7_ringsAt_23 : decode cX7_ringsAt 23 = .ok (.iload 4, 2) := by decide +kernel
theorem dX7_ringsAt_25 : decode cX7_ringsAt 25 = .ok (.sipush 400, 3) := by decide +kernel
theorem dX7_ringsAt_28 : decode cX7_ringsAt 28 = .ok (.if_icmp .ge 34, 3) := by decide +kernel
theorem dX7_ringsAt_31 : decode cX7_ringsAt 31 = .ok (.aload_n 0, 1) := by decide +kernel
theorem dX7_ringsAt_32 : decode cX7_ringsAt 32 = .ok (.getfield 46, 3) := by decide +kernel
theorem dX7_ringsAt_35 : decode cX7_ringsAt 35 = .ok (.iload 4, 2) := by decide +kernel
theorem dX7_ringsAt_37 : decode cX7_ringsAt 37 = .ok (.iaload, 1) := by decide +kernel
theorem dX7_ringsAt_38 : decode cX7_ringsAt 38 = .ok (.iload_n 1, 1) := by decide +kernel
theorem dX7_ringsAt_39 : decode cX7_ringsAt 39 = .ok (.invokestatic 166, 3) := by decide +kernel
theorem dX7_ringsAt_42 : decode cX7_ringsAt 42 = .ok (.ifCond .eq 14, 3) := by decide +kernel
theorem dX7_ringsAt_45 : decode cX7_ringsAt 45 = .ok (.iload_n 3, 1) := by decide +kernel
theorem dX7_ringsAt_46 : decode cX7_ringsAt 46 = .ok (.iload_n 2, 1) := by decide +kernel
theorem dX7_ringsAt_47 : decode cX7_ringsAt 47 = .ok (.if_icmp .ne 6, 3) := by decide +kernel
theorem dX7_ringsAt_50 : decode cX7_ringsAt 50 = .ok (.iload 4, 2) := by decide +kernel
theorem dX7_ringsAt_52 : decode cX7_ringsAt 52 = .ok (.ireturn, 1) := by decide +kernel
theorem dX7_ringsAt_53 : decode cX7_ringsAt 53 = .ok (.iinc 3 1, 3) := by decide +kernel
theorem dX7_ringsAt_56 : decode cX7_ringsAt 56 = .ok (.iinc 4 1, 3) := by decide +kernel
theorem dX7_ringsAt_59 : decode cX7_ringsAt 59 = .ok (.goto (-36), 3) := by decide +kernel
theorem dX7_ringsAt_62 : decode cX7_ringsAt 62 = .ok (.bipush (-9), 2) := by decide +kernel
theorem dX7_ringsAt_64 : decode cX7_ringsAt 64 = .ok (.ireturn, 1) := by decide +kernel
theorem dX7_peal_0 : decode cX7_peal 0 = .ok (.iload_n 1, 1) := by decide +kernel
theorem dX7_peal_1 : decode cX7_peal 1 = .ok (.i2l, 1) := by decide +kernel
theorem dX7_peal_2 : decode cX7_peal 2 = .ok (.lconst 0, 1) := by decide +kernel
theorem dX7_peal_3 : decode cX7_peal 3 = .ok (.ldc2_w 190, 3) := by decide +kernel
theorem dX7_peal_6 : decode cX7_peal 6 = .ok (.invokestatic 93, 3) := by decide +kernel
theorem dX7_peal_9 : decode cX7_peal 9 = .ok (.ifCond .ne 6, 3) := by decide +kernel
theorem dX7_peal_12 : decode cX7_peal 12 = .ok (.bipush (-2), 2) := by decide +kernel
theorem dX7_peal_14 : decode cX7_peal 14 = .ok (.ireturn, 1) := by decide +kernel
theorem dX7_peal_15 : decode cX7_peal 15 = .ok (.aload_n 0, 1) := by decide +kernel
theorem dX7_peal_16 : decode cX7_peal 16 = .ok (.getfield 90, 3) := by decide +kernel
theorem dX7_peal_19 : decode cX7_peal 19 = .ok (.ifCond .ne 6, 3) := by decide +kernel
theorem dX7_peal_22 : decode cX7_peal 22 = .ok (.bipush (-3), 2) := by decide +kernel
theorem dX7_peal_24 : decode cX7_peal 24 = .ok (.ireturn, 1) := by decide +kernel
theorem dX7_peal_25 : decode cX7_peal 25 = .ok (.aload_n 0, 1) := by decide +kernel
theorem dX7_peal_26 : decode cX7_peal 26 = .ok (.invokevirtual 187, 3) := by decide +kernel
theorem dX7_peal_29 : decode cX7_peal 29 = .ok (.aload_n 0, 1) := by decide +kernel
theorem dX7_peal_30 : decode cX7_peal 30 = .ok (.getfield 46, 3) := by decide +kernel
theorem dX7_peal_33 : decode cX7_peal 33 = .ok (.iload_n 1, 1) := by decide +kernel
theorem dX7_peal_34 : decode cX7_peal 34 = .ok (.iaload, 1) := by decide +kernel
theorem dX7_peal_35 : decode cX7_peal 35 = .ok (.ireturn, 1) := by decide +kernel
theorem dX7_lastNow_0 : decode cX7_lastNow 0 = .ok (.bipush (-9), 2) := by decide +kernel
theorem dX7_lastNow_2 : decode cX7_lastNow 2 = .ok (.istore_n 1, 1) := by decide +kernel
theorem dX7_lastNow_3 : decode cX7_lastNow 3 = .ok (.iconst 0, 1) := by decide +kernel
theorem dX7_lastNow_4 : decode cX7_lastNow 4 = .ok (.istore_n 2, 1) := by decide +kernel
theorem dX7_lastNow_5 : decode cX7_lastNow 5 = .ok (.iload_n 2, 1) := by decide +kernel
theorem dX7_lastNow_6 : decode cX7_lastNow 6 = .ok (.sipush 400, 3) := by decide +kernel
theorem dX7_lastNow_9 : decode cX7_lastNow 9 = .ok (.if_icmp .ge 24, 3) := by decide +kernel
theorem dX7_lastNow_12 : decode cX7_lastNow 12 = .ok (.aload_n 0, 1) := by decide +kernel
theorem dX7_lastNow_13 : decode cX7_lastNow 13 = .ok (.getfield 46, 3) := by decide +kernel
theorem dX7_lastNow_16 : decode cX7_lastNow 16 = .ok (.iload_n 2, 1) := by decide +kernel
theorem dX7_lastNow_17 : decode cX7_lastNow 17 = .ok (.iaload, 1) := by decide +kernel
theorem dX7_lastNow_18 : decode cX7_lastNow 18 = .ok (.ifCond .le 7, 3) := by decide +kernel
theorem dX7_lastNow_21 : decode cX7_lastNow 21 = .ok (.iload_n 2, 1) := by decide +kernel
theorem dX7_lastNow_22 : decode cX7_lastNow 22 = .ok (.goto 4, 3) := by decide +kernel
theorem dX7_lastNow_25 : decode cX7_lastNow 25 = .ok (.iload_n 1, 1) := by decide +kernel
theorem dX7_lastNow_26 : decode cX7_lastNow 26 = .ok (.istore_n 1, 1) := by decide +kernel
theorem dX7_lastNow_27 : decode cX7_lastNow 27 = .ok (.iinc 2 1, 3) := by decide +kernel
theorem dX7_lastNow_30 : decode cX7_lastNow 30 = .ok (.goto (-25), 3) := by decide +kernel
theorem dX7_lastNow_33 : decode cX7_lastNow 33 = .ok (.iload_n 1, 1) := by decide +kernel
theorem dX7_lastNow_34 : decode cX7_lastNow 34 = .ok (.ireturn, 1) := by decide +kernel
theorem dX7_stops_0 : decode cX7_stops 0 = .ok (.aload_n 0, 1) := by decide +kernel
theorem dX7_stops_1 : decode cX7_stops 1 = .ok (.getfield 90, 3) := by decide +kernel
theorem dX7_stops_4 : decode cX7_stops 4 = .ok (.ifCond .ne 6, 3) := by decide +kernel
theorem dX7_stops_7 : decode cX7_stops 7 = .ok (.bipush (-3), 2) := by decide +kernel
theorem dX7_stops_9 : decode cX7_stops 9 = .ok (.ireturn, 1) := by decide +kernel
theorem dX7_stops_10 : decode cX7_stops 10 = .ok (.aload_n 0, 1) := by decide +kernel
theorem dX7_stops_11 : decode cX7_stops 11 = .ok (.invokevirtual 187, 3) := by decide +kernel
theorem dX7_stops_14 : decode cX7_stops 14 = .ok (.aload_n 0, 1) := by decide +kernel
theorem dX7_stops_15 : decode cX7_stops 15 = .ok (.invokevirtual 192, 3) := by decide +kernel
theorem dX7_stops_18 : decode cX7_stops 18 = .ok (.ireturn, 1) := by decide +kernel
theorem dX7_rung_0 : decode cX7_rung 0 = .ok (.aload_n 0, 1) := by decide +kernel
theorem dX7_rung_1 : decode cX7_rung 1 = .ok (.bipush 100, 2) := by decide +kernel
theorem dX7_rung_3 : decode cX7_rung 3 = .ok (.iload_n 1, 1) := by decide +kernel
theorem dX7_rung_4 : decode cX7_rung 4 = .ok (.iload_n 2, 1) := by decide +kernel
theorem dX7_rung_5 : decode cX7_rung 5 = .ok (.invokevirtual 184, 3) := by decide +kernel
theorem dX7_rung_8 : decode cX7_rung 8 = .ok (.iconst 0, 1) := by decide +kernel
theorem dX7_rung_9 : decode cX7_rung 9 = .ok (.istore_n 3, 1) := by decide +kernel
theorem dX7_rung_10 : decode cX7_rung 10 = .ok (.iconst 0, 1) := by decide +kernel
theorem dX7_rung_11 : decode cX7_rung 11 = .ok (.istore 4, 2) := by decide +kernel
theorem dX7_rung_13 : decode cX7_rung 13 = .ok (.iload 4, 2) := by decide +kernel
theorem dX7_rung_15 : decode cX7_rung 15 = .ok (.bipush 100, 2) := by decide +kernel
theorem dX7_rung_17 : decode cX7_rung 17 = .ok (.if_icmp .ge 19, 3) := by decide +kernel
theorem dX7_rung_20 : decode cX7_rung 20 = .ok (.iload_n 3, 1) := by decide +kernel
theorem dX7_rung_21 : decode cX7_rung 21 = .ok (.aload_n 0, 1) := by decide +kernel
theorem dX7_rung_22 : decode cX7_rung 22 = .ok (.getfield 46, 3) := by decide +kernel
theorem dX7_rung_25 : decode cX7_rung 25 = .ok (.iload 4, 2) := by decide +kernel
theorem dX7_rung_27 : decode cX7_rung 27 = .ok (.iaload, 1) := by decide +kernel
theorem dX7_rung_28 : decode cX7_rung 28 = .ok (.ior, 1) := by decide +kernel
theorem dX7_rung_29 : decode cX7_rung 29 = .ok (.istore_n 3, 1) := by decide +kernel
theorem dX7_rung_30 : decode cX7_rung 30 = .ok (.iinc 4 1, 3) := by decide +kernel
theorem dX7_rung_33 : decode cX7_rung 33 = .ok (.goto (-20), 3) := by decide +kernel
theorem dX7_rung_36 : decode cX7_rung 36 = .ok (.iload_n 3, 1) := by decide +kernel
theorem dX7_rung_37 : decode cX7_rung 37 = .ok (.ireturn, 1) := by decide +kernel
theorem dX7_fewest_0 : decode cX7_fewest 0 = .ok (.iload_n 1, 1) := by decide +kernel
theorem dX7_fewest_1 : decode cX7_fewest 1 = .ok (.i2l, 1) := by decide +kernel
theorem dX7_fewest_2 : decode cX7_fewest 2 = .ok (.lconst 0, 1) := by decide +kernel
theorem dX7_fewest_3 : decode cX7_fewest 3 = .ok (.aload_n 0, 1) := by decide +kernel
theorem dX7_fewest_4 : decode cX7_fewest 4 = .ok (.invokevirtual 196, 3) := by decide +kernel
theorem dX7_fewest_7 : decode cX7_fewest 7 = .ok (.i2l, 1) := by decide +kernel
theorem dX7_fewest_8 : decode cX7_fewest 8 = .ok (.invokestatic 93, 3) := by decide +kernel
theorem dX7_fewest_11 : decode cX7_fewest 11 = .ok (.ifCond .ne 6, 3) := by decide +kernel
theorem dX7_fewest_14 : decode cX7_fewest 14 = .ok (.bipush (-2), 2) := by decide +kernel
theorem dX7_fewest_16 : decode cX7_fewest 16 = .ok (.ireturn, 1) := by decide +kernel
theorem dX7_fewest_17 : decode cX7_fewest 17 = .ok (.aload_n 0, 1) := by decide +kernel
theorem dX7_fewest_18 : decode cX7_fewest 18 = .ok (.getfield 90, 3) := by decide +kernel
theorem dX7_fewest_21 : decode cX7_fewest 21 = .ok (.ifCond .ne 6, 3) := by decide +kernel
theorem dX7_fewest_24 : decode cX7_fewest 24 = .ok (.bipush (-3), 2) := by decide +kernel
theorem dX7_fewest_26 : decode cX7_fewest 26 = .ok (.ireturn, 1) := by decide +kernel
theorem dX7_fewest_27 : decode cX7_fewest 27 = .ok (.bipush (-9), 2) := by decide +kernel
theorem dX7_fewest_29 : decode cX7_fewest 29 = .ok (.istore_n 2, 1) := by decide +kernel
theorem dX7_fewest_30 : decode cX7_fewest 30 = .ok (.iconst 0, 1) := by decide +kernel
theorem dX7_fewest_31 : decode cX7_fewest 31 = .ok (.istore_n 3, 1) := by decide +kernel
theorem dX7_fewest_32 : decode cX7_fewest 32 = .ok (.iload_n 3, 1) := by decide +kernel
theorem dX7_fewest_33 : decode cX7_fewest 33 = .ok (.aload_n 0, 1) := by decide +kernel
theorem dX7_fewest_34 : decode cX7_fewest 34 = .ok (.invokevirtual 196, 3) := by decide +kernel
theorem dX7_fewest_37 : decode cX7_fewest 37 = .ok (.if_icmp .gt 56, 3) := by decide +kernel
theorem dX7_fewest_40 : decode cX7_fewest 40 = .ok (.iload_n 2, 1) := by decide +kernel
theorem dX7_fewest_41 : decode cX7_fewest 41 = .ok (.ifCond .lt 14, 3) := by decide +kernel
theorem dX7_fewest_44 : decode cX7_fewest 44 = .ok (.iload_n 3, 1) := by decide +kernel
theorem dX7_fewest_45 : decode cX7_fewest 45 = .ok (.invokestatic 199, 3) := by decide +kernel
theorem dX7_fewest_48 : decode cX7_fewest 48 = .ok (.iload_n 2, 1) := by decide +kernel
theorem dX7_fewest_49 : decode cX7_fewest 49 = .ok (.invokestatic 199, 3) := by decide +kernel
theorem dX7_fewest_52 : decode cX7_fewest 52 = .ok (.if_icmp .ge 7, 3) := by decide +kernel
theorem dX7_fewest_55 : decode cX7_fewest 55 = .ok (.iconst 1, 1) := by decide +kernel
theorem dX7_fewest_56 : decode cX7_fewest 56 = .ok (.goto 4, 3) := by decide +kernel
theorem dX7_fewest_59 : decode cX7_fewest 59 = .ok (.iconst 0, 1) := by decide +kernel
theorem dX7_fewest_60 : decode cX7_fewest 60 = .ok (.istore 4, 2) := by decide +kernel
theorem dX7_fewest_62 : decode cX7_fewest 62 = .ok (.iload 4, 2) := by decide +kernel
theorem dX7_fewest_64 : decode cX7_fewest 64 = .ok (.ifCond .eq 21, 3) := by decide +kernel
theorem dX7_fewest_67 : decode cX7_fewest 67 = .ok (.iload_n 1, 1) := by decide +kernel
theorem dX7_fewest_68 : decode cX7_fewest 68 = .ok (.aload_n 0, 1) := by decide +kernel
theorem dX7_fewest_69 : decode cX7_fewest 69 = .ok (.iload_n 3, 1) := by decide +kernel
theorem dX7_fewest_70 : decode cX7_fewest 70 = .ok (.bipush (-9), 2) := by decide +kernel
theorem dX7_fewest_72 : decode cX7_fewest 72 = .ok (.invokevirtual 202, 3) := by decide +kernel
theorem dX7_fewest_75 : decode cX7_fewest 75 = .ok (.iconst (-1), 1) := by decide +kernel
theorem dX7_fewest_76 : decode cX7_fewest 76 = .ok (.ixor, 1) := by decide +kernel
theorem dX7_fewest_77 : decode cX7_fewest 77 = .ok (.iand, 1) := by decide +kernel
theorem dX7_fewest_78 : decode cX7_fewest 78 = .ok (.ifCond .ne 7, 3) := by decide +kernel
theorem dX7_fewest_81 : decode cX7_fewest 81 = .ok (.iload_n 3, 1) := by decide +kernel
theorem dX7_fewest_82 : decode cX7_fewest 82 = .ok (.goto 4, 3) := by decide +kernel
theorem dX7_fewest_85 : decode cX7_fewest 85 = .ok (.iload_n 2, 1) := by decide +kernel
theorem dX7_fewest_86 : decode cX7_fewest 86 = .ok (.istore_n 2, 1) := by decide +kernel
theorem dX7_fewest_87 : decode cX7_fewest 87 = .ok (.iinc 3 1, 3) := by decide +kernel
theorem dX7_fewest_90 : decode cX7_fewest 90 = .ok (.goto (-58), 3) := by decide +kernel
theorem dX7_fewest_93 : decode cX7_fewest 93 = .ok (.iload_n 2, 1) := by decide +kernel
theorem dX7_fewest_94 : decode cX7_fewest 94 = .ok (.ireturn, 1) := by decide +kernel
theorem dX7_still_0 : decode cX7_still 0 = .ok (.iload_n 1, 1) := by decide +kernel
theorem dX7_still_1 : decode cX7_still 1 = .ok (.i2l, 1) := by decide +kernel
theorem dX7_still_2 : decode cX7_still 2 = .ok (.lconst 0, 1) := by decide +kernel
theorem dX7_still_3 : decode cX7_still 3 = .ok (.ldc2_w 205, 3) := by decide +kernel
theorem dX7_still_6 : decode cX7_still 6 = .ok (.invokestatic 93, 3) := by decide +kernel
theorem dX7_still_9 : decode cX7_still 9 = .ok (.ifCond .ne 6, 3) := by decide +kernel
theorem dX7_still_12 : decode cX7_still 12 = .ok (.bipush (-2), 2) := by decide +kernel
theorem dX7_still_14 : decode cX7_still 14 = .ok (.ireturn, 1) := by decide +kernel
theorem dX7_still_15 : decode cX7_still 15 = .ok (.aload_n 0, 1) := by decide +kernel
theorem dX7_still_16 : decode cX7_still 16 = .ok (.getfield 90, 3) := by decide +kernel
theorem dX7_still_19 : decode cX7_still 19 = .ok (.ifCond .ne 6, 3) := by decide +kernel
theorem dX7_still_22 : decode cX7_still 22 = .ok (.bipush (-3), 2) := by decide +kernel
theorem dX7_still_24 : decode cX7_still 24 = .ok (.ireturn, 1) := by decide +kernel
theorem dX7_still_25 : decode cX7_still 25 = .ok (.aload_n 0, 1) := by decide +kernel
theorem dX7_still_26 : decode cX7_still 26 = .ok (.getfield 148, 3) := by decide +kernel
theorem dX7_still_29 : decode cX7_still 29 = .ok (.istore_n 2, 1) := by decide +kernel
theorem dX7_still_30 : decode cX7_still 30 = .ok (.aload_n 0, 1) := by decide +kernel
theorem dX7_still_31 : decode cX7_still 31 = .ok (.invokevirtual 196, 3) := by decide +kernel
theorem dX7_still_34 : decode cX7_still 34 = .ok (.iload_n 2, 1) := by decide +kernel
theorem dX7_still_35 : decode cX7_still 35 = .ok (.iconst (-1), 1) := by decide +kernel
theorem dX7_still_36 : decode cX7_still 36 = .ok (.ixor, 1) := by decide +kernel
theorem dX7_still_37 : decode cX7_still 37 = .ok (.iand, 1) := by decide +kernel
theorem dX7_still_38 : decode cX7_still 38 = .ok (.istore_n 3, 1) := by decide +kernel
theorem dX7_still_39 : decode cX7_still 39 = .ok (.iconst 0, 1) := by decide +kernel
theorem dX7_still_40 : decode cX7_still 40 = .ok (.istore 4, 2) := by decide +kernel
theorem dX7_still_42 : decode cX7_still 42 = .ok (.iload 4, 2) := by decide +kernel
theorem dX7_still_44 : decode cX7_still 44 = .ok (.aload_n 0, 1) := by decide +kernel
theorem dX7_still_45 : decode cX7_still 45 = .ok (.invokevirtual 196, 3) := by decide +kernel
theorem dX7_still_48 : decode cX7_still 48 = .ok (.if_icmp .gt 55, 3) := by decide +kernel
theorem dX7_still_51 : decode cX7_still 51 = .ok (.iload 4, 2) := by decide +kernel
theorem dX7_still_53 : decode cX7_still 53 = .ok (.iload_n 2, 1) := by decide +kernel
theorem dX7_still_54 : decode cX7_still 54 = .ok (.iand, 1) := by decide +kernel
theorem dX7_still_55 : decode cX7_still 55 = .ok (.ifCond .ne 42, 3) := by decide +kernel
theorem dX7_still_58 : decode cX7_still 58 = .ok (.iload 4, 2) := by decide +kernel
theorem dX7_still_60 : decode cX7_still 60 = .ok (.invokestatic 199, 3) := by decide +kernel
theorem dX7_still_63 : decode cX7_still 63 = .ok (.iload_n 3, 1) := by decide +kernel
theorem dX7_still_64 : decode cX7_still 64 = .ok (.invokestatic 199, 3) := by decide +kernel
theorem dX7_still_67 : decode cX7_still 67 = .ok (.if_icmp .ge 30, 3) := by decide +kernel
theorem dX7_still_70 : decode cX7_still 70 = .ok (.aload_n 0, 1) := by decide +kernel
theorem dX7_still_71 : decode cX7_still 71 = .ok (.iload_n 2, 1) := by decide +kernel
theorem dX7_still_72 : decode cX7_still 72 = .ok (.iload 4, 2) := by decide +kernel
theorem dX7_still_74 : decode cX7_still 74 = .ok (.ior, 1) := by decide +kernel
theorem dX7_still_75 : decode cX7_still 75 = .ok (.putfield 148, 3) := by decide +kernel
theorem dX7_still_78 : decode cX7_still 78 = .ok (.aload_n 0, 1) := by decide +kernel
theorem dX7_still_79 : decode cX7_still 79 = .ok (.invokevirtual 187, 3) := by decide +kernel
theorem dX7_still_82 : decode cX7_still 82 = .ok (.aload_n 0, 1) := by decide +kernel
theorem dX7_still_83 : decode cX7_still 83 = .ok (.invokevirtual 192, 3) := by decide +kernel
theorem dX7_still_86 : decode cX7_still 86 = .ok (.iload_n 1, 1) := by decide +kernel
theorem dX7_still_87 : decode cX7_still 87 = .ok (.if_icmp .gt 8, 3) := by decide +kernel
theorem dX7_still_90 : decode cX7_still 90 = .ok (.iload 4, 2) := by decide +kernel
theorem dX7_still_92 : decode cX7_still 92 = .ok (.goto 4, 3) := by decide +kernel
theorem dX7_still_95 : decode cX7_still 95 = .ok (.iload_n 3, 1) := by decide +kernel
theorem dX7_still_96 : decode cX7_still 96 = .ok (.istore_n 3, 1) := by decide +kernel
theorem dX7_still_97 : decode cX7_still 97 = .ok (.iinc 4 1, 3) := by decide +kernel
theorem dX7_still_100 : decode cX7_still 100 = .ok (.goto (-58), 3) := by decide +kernel
theorem dX7_still_103 : decode cX7_still 103 = .ok (.aload_n 0, 1) := by decide +kernel
theorem dX7_still_104 : decode cX7_still 104 = .ok (.iload_n 2, 1) := by decide +kernel
theorem dX7_still_105 : decode cX7_still 105 = .ok (.putfield 148, 3) := by decide +kernel
theorem dX7_still_108 : decode cX7_still 108 = .ok (.iload_n 3, 1) := by decide +kernel
theorem dX7_still_109 : decode cX7_still 109 = .ok (.ireturn, 1) := by decide +kernel
theorem dX7_hung_0 : decode cX7_hung 0 = .ok (.iload_n 1, 1) := by decide +kernel
theorem dX7_hung_1 : decode cX7_hung 1 = .ok (.i2l, 1) := by decide +kernel
theorem dX7_hung_2 : decode cX7_hung 2 = .ok (.lconst 0, 1) := by decide +kernel
theorem dX7_hung_3 : decode cX7_hung 3 = .ok (.lconst 1, 1) := by decide +kernel
theorem dX7_hung_4 : decode cX7_hung 4 = .ok (.invokestatic 93, 3) := by decide +kernel
theorem dX7_hung_7 : decode cX7_hung 7 = .ok (.ifCond .ne 6, 3) := by decide +kernel
theorem dX7_hung_10 : decode cX7_hung 10 = .ok (.bipush (-2), 2) := by decide +kernel
theorem dX7_hung_12 : decode cX7_hung 12 = .ok (.ireturn, 1) := by decide +kernel
theorem dX7_hung_13 : decode cX7_hung 13 = .ok (.aload_n 0, 1) := by decide +kernel
theorem dX7_hung_14 : decode cX7_hung 14 = .ok (.getfield 90, 3) := by decide +kernel
theorem dX7_hung_17 : decode cX7_hung 17 = .ok (.ifCond .ne 6, 3) := by decide +kernel
theorem dX7_hung_20 : decode cX7_hung 20 = .ok (.bipush (-3), 2) := by decide +kernel
theorem dX7_hung_22 : decode cX7_hung 22 = .ok (.ireturn, 1) := by decide +kernel
theorem dX7_hung_23 : decode cX7_hung 23 = .ok (.bipush (-9), 2) := by decide +kernel
theorem dX7_hung_25 : decode cX7_hung 25 = .ok (.istore_n 2, 1) := by decide +kernel
theorem dX7_hung_26 : decode cX7_hung 26 = .ok (.aload_n 0, 1) := by decide +kernel
theorem dX7_hung_27 : decode cX7_hung 27 = .ok (.bipush (-9), 2) := by decide +kernel
theorem dX7_hung_29 : decode cX7_hung 29 = .ok (.bipush (-9), 2) := by decide +kernel
theorem dX7_hung_31 : decode cX7_hung 31 = .ok (.invokevirtual 202, 3) := by decide +kernel
theorem dX7_hung_34 : decode cX7_hung 34 = .ok (.invokestatic 199, 3) := by decide +kernel
theorem dX7_hung_37 : decode cX7_hung 37 = .ok (.istore_n 3, 1) := by decide +kernel
theorem dX7_hung_38 : decode cX7_hung 38 = .ok (.aload_n 0, 1) := by decide +kernel
theorem dX7_hung_39 : decode cX7_hung 39 = .ok (.dup, 1) := by decide +kernel
theorem dX7_hung_40 : decode cX7_hung 40 = .ok (.getfield 145, 3) := by decide +kernel
theorem dX7_hung_43 : decode cX7_hung 43 = .ok (.iconst 1, 1) := by decide +kernel
theorem dX7_hung_44 : decode cX7_hung 44 = .ok (.iadd, 1) := by decide +kernel
theorem dX7_hung_45 : decode cX7_hung 45 = .ok (.putfield 145, 3) := by decide +kernel
theorem dX7_hung_48 : decode cX7_hung 48 = .ok (.iconst 0, 1) := by decide +kernel
theorem dX7_hung_49 : decode cX7_hung 49 = .ok (.istore 4, 2) := by decide +kernel
theorem dX7_hung_51 : decode cX7_hung 51 = .ok (.iload 4, 2) := by decide +kernel
theorem dX7_hung_53 : decode cX7_hung 53 = .ok (.iconst 3, 1) := by decide +kernel
theorem dX7_hung_54 : decode cX7_hung 54 = .ok (.aload_n 0, 1) := by decide +kernel
theorem dX7_hung_55 : decode cX7_hung 55 = .ok (.getfield 90, 3) := by decide +kernel
theorem dX7_hung_58 : decode cX7_hung 58 = .ok (.imul, 1) := by decide +kernel
theorem dX7_hung_59 : decode cX7_hung 59 = .ok (.aload_n 0, 1) := by decide +kernel
theorem dX7_hung_60 : decode cX7_hung 60 = .ok (.getfield 90, 3) := by decide +kernel
theorem dX7_hung_63 : decode cX7_hung 63 = .ok (.imul, 1) := by decide +kernel
theorem dX7_hung_64 : decode cX7_hung 64 = .ok (.if_icmp .ge 121, 3) := by decide +kernel
theorem dX7_hung_67 : decode cX7_hung 67 = .ok (.aload_n 0, 1) := by decide +kernel
theorem dX7_hung_68 : decode cX7_hung 68 = .ok (.getfield 16, 3) := by decide +kernel
theorem dX7_hung_71 : decode cX7_hung 71 = .ok (.aload_n 0, 1) := by decide +kernel
theorem dX7_hung_72 : decode cX7_hung 72 = .ok (.getfield 145, 3) := by decide +kernel
theorem dX7_hung_75 : decode cX7_hung 75 = .ok (.iconst 1, 1) := by decide +kernel
theorem dX7_hung_76 : decode cX7_hung 76 = .ok (.isub, 1) := by decide +kernel
theorem dX7_hung_77 : decode cX7_hung 77 = .ok (.iload 4, 2) := by decide +kernel
theorem dX7_hung_79 : decode cX7_hung 79 = .ok (.iconst 3, 1) := by decide +kernel
theorem dX7_hung_80 : decode cX7_hung 80 = .ok (.idiv, 1) := by decide +kernel
theorem dX7_hung_81 : decode cX7_hung 81 = .ok (.aload_n 0, 1) := by decide +kernel
theorem dX7_hung_82 : decode cX7_hung 82 = .ok (.getfield 90, 3) := by decide +kernel
theorem dX7_hung_85 : decode cX7_hung 85 = .ok (.idiv, 1) := by decide +kernel
theorem dX7_hung_86 : decode cX7_hung 86 = .ok (.iastore, 1) := by decide +kernel
theorem dX7_hung_87 : decode cX7_hung 87 = .ok (.aload_n 0, 1) := by decide +kernel
theorem dX7_hung_88 : decode cX7_hung 88 = .ok (.getfield 19, 3) := by decide +kernel
theorem dX7_hung_91 : decode cX7_hung 91 = .ok (.aload_n 0, 1) := by decide +kernel
theorem dX7_hung_92 : decode cX7_hung 92 = .ok (.getfield 145, 3) := by decide +kernel
theorem dX7_hung_95 : decode cX7_hung 95 = .ok (.iconst 1, 1) := by decide +kernel
theorem dX7_hung_96 : decode cX7_hung 96 = .ok (.isub, 1) := by decide +kernel
theorem dX7_hung_97 : decode cX7_hung 97 = .ok (.iload 4, 2) := by decide +kernel
theorem dX7_hung_99 : decode cX7_hung 99 = .ok (.iconst 3, 1) := by decide +kernel
theorem dX7_hung_100 : decode cX7_hung 100 = .ok (.idiv, 1) := by decide +kernel
theorem dX7_hung_101 : decode cX7_hung 101 = .ok (.aload_n 0, 1) := by decide +kernel
theorem dX7_hung_102 : decode cX7_hung 102 = .ok (.getfield 90, 3) := by decide +kernel
theorem dX7_hung_105 : decode cX7_hung 105 = .ok (.irem, 1) := by decide +kernel
theorem dX7_hung_106 : decode cX7_hung 106 = .ok (.iastore, 1) := by decide +kernel
theorem dX7_hung_107 : decode cX7_hung 107 = .ok (.aload_n 0, 1) := by decide +kernel
theorem dX7_hung_108 : decode cX7_hung 108 = .ok (.getfield 22, 3) := by decide +kernel
theorem dX7_hung_111 : decode cX7_hung 111 = .ok (.aload_n 0, 1) := by decide +kernel
theorem dX7_hung_112 : decode cX7_hung 112 = .ok (.getfield 145, 3) := by decide +kernel
theorem dX7_hung_115 : decode cX7_hung 115 = .ok (.iconst 1, 1) := by decide +kernel
theorem dX7_hung_116 : decode cX7_hung 116 = .ok (.isub, 1) := by decide +kernel
theorem dX7_hung_117 : decode cX7_hung 117 = .ok (.iload 4, 2) := by decide +kernel
theorem dX7_hung_119 : decode cX7_hung 119 = .ok (.iconst 3, 1) := by decide +kernel
theorem dX7_hung_120 : decode cX7_hung 120 = .ok (.irem, 1) := by decide +kernel
theorem dX7_hung_121 : decode cX7_hung 121 = .ok (.iconst 1, 1) := by decide +kernel
theorem dX7_hung_122 : decode cX7_hung 122 = .ok (.iadd, 1) := by decide +kernel
theorem dX7_hung_123 : decode cX7_hung 123 = .ok (.iastore, 1) := by decide +kernel
theorem dX7_hung_124 : decode cX7_hung 124 = .ok (.aload_n 0, 1) := by decide +kernel
theorem dX7_hung_125 : decode cX7_hung 125 = .ok (.bipush (-9), 2) := by decide +kernel
theorem dX7_hung_127 : decode cX7_hung 127 = .ok (.bipush (-9), 2) := by decide +kernel
theorem dX7_hung_129 : decode cX7_hung 129 = .ok (.invokevirtual 202, 3) := by decide +kernel
theorem dX7_hung_132 : decode cX7_hung 132 = .ok (.invokestatic 199, 3) := by decide +kernel
theorem dX7_hung_135 : decode cX7_hung 135 = .ok (.istore 5, 2) := by decide +kernel
theorem dX7_hung_137 : decode cX7_hung 137 = .ok (.iload 5, 2) := by decide +kernel
theorem dX7_hung_139 : decode cX7_hung 139 = .ok (.iload_n 3, 1) := by decide +kernel
theorem dX7_hung_140 : decode cX7_hung 140 = .ok (.if_icmp .le 39, 3) := by decide +kernel
theorem dX7_hung_143 : decode cX7_hung 143 = .ok (.bipush 100, 2) := by decide +kernel
theorem dX7_hung_145 : decode cX7_hung 145 = .ok (.iload 4, 2) := by decide +kernel
theorem dX7_hung_147 : decode cX7_hung 147 = .ok (.iconst 3, 1) := by decide +kernel
theorem dX7_hung_148 : decode cX7_hung 148 = .ok (.idiv, 1) := by decide +kernel
theorem dX7_hung_149 : decode cX7_hung 149 = .ok (.aload_n 0, 1) := by decide +kernel
theorem dX7_hung_150 : decode cX7_hung 150 = .ok (.getfield 90, 3) := by decide +kernel
theorem dX7_hung_153 : decode cX7_hung 153 = .ok (.idiv, 1) := by decide +kernel
theorem dX7_hung_154 : decode cX7_hung 154 = .ok (.imul, 1) := by decide +kernel
theorem dX7_hung_155 : decode cX7_hung 155 = .ok (.bipush 10, 2) := by decide +kernel
theorem dX7_hung_157 : decode cX7_hung 157 = .ok (.iload 4, 2) := by decide +kernel
theorem dX7_hung_159 : decode cX7_hung 159 = .ok (.iconst 3, 1) := by decide +kernel
theorem dX7_hung_160 : decode cX7_hung 160 = .ok (.idiv, 1) := by decide +kernel
theorem dX7_hung_161 : decode cX7_hung 161 = .ok (.aload_n 0, 1) := by decide +kernel
theorem dX7_hung_162 : decode cX7_hung 162 = .ok (.getfield 90, 3) := by decide +kernel
theorem dX7_hung_165 : decode cX7_hung 165 = .ok (.irem, 1) := by decide +kernel
theorem dX7_hung_166 : decode cX7_hung 166 = .ok (.imul, 1) := by decide +kernel
theorem dX7_hung_167 : decode cX7_hung 167 = .ok (.iadd, 1) := by decide +kernel
theorem dX7_hung_168 : decode cX7_hung 168 = .ok (.iload 4, 2) := by decide +kernel
theorem dX7_hung_170 : decode cX7_hung 170 = .ok (.iconst 3, 1) := by decide +kernel
theorem dX7_hung_171 : decode cX7_hung 171 = .ok (.irem, 1) := by decide +kernel
theorem dX7_hung_172 : decode cX7_hung 172 = .ok (.iadd, 1) := by decide +kernel
theorem dX7_hung_173 : decode cX7_hung 173 = .ok (.iconst 1, 1) := by decide +kernel
theorem dX7_hung_174 : decode cX7_hung 174 = .ok (.iadd, 1) := by decide +kernel
theorem dX7_hung_175 : decode cX7_hung 175 = .ok (.istore_n 2, 1) := by decide +kernel
theorem dX7_hung_176 : decode cX7_hung 176 = .ok (.iload 5, 2) := by decide +kernel
theorem dX7_hung_178 : decode cX7_hung 178 = .ok (.istore_n 3, 1) := by decide +kernel
theorem dX7_hung_179 : decode cX7_hung 179 = .ok (.iinc 4 1, 3) := by decide +kernel
theorem dX7_hung_182 : decode cX7_hung 182 = .ok (.goto (-131), 3) := by decide +kernel
theorem dX7_hung_185 : decode cX7_hung 185 = .ok (.aload_n 0, 1) := by decide +kernel
theorem dX7_hung_186 : decode cX7_hung 186 = .ok (.dup, 1) := by decide +kernel
theorem dX7_hung_187 : decode cX7_hung 187 = .ok (.getfield 145, 3) := by decide +kernel
theorem dX7_hung_190 : decode cX7_hung 190 = .ok (.iconst 1, 1) := by decide +kernel
theorem dX7_hung_191 : decode cX7_hung 191 = .ok (.isub, 1) := by decide +kernel
theorem dX7_hung_192 : decode cX7_hung 192 = .ok (.putfield 145, 3) := by decide +kernel
theorem dX7_hung_195 : decode cX7_hung 195 = .ok (.iload_n 1, 1) := by decide +kernel
theorem dX7_hung_196 : decode cX7_hung 196 = .ok (.ifCond .ne 7, 3) := by decide +kernel
theorem dX7_hung_199 : decode cX7_hung 199 = .ok (.iload_n 2, 1) := by decide +kernel
theorem dX7_hung_200 : decode cX7_hung 200 = .ok (.goto 4, 3) := by decide +kernel
theorem dX7_hung_203 : decode cX7_hung 203 = .ok (.iload_n 3, 1) := by decide +kernel
theorem dX7_hung_204 : decode cX7_hung 204 = .ok (.ireturn, 1) := by decide +kernel
theorem dX7_cut_0 : decode cX7_cut 0 = .ok (.aload_n 0, 1) := by decide +kernel
theorem dX7_cut_1 : decode cX7_cut 1 = .ok (.getfield 90, 3) := by decide +kernel
theorem dX7_cut_4 : decode cX7_cut 4 = .ok (.ifCond .ne 6, 3) := by decide +kernel
theorem dX7_cut_7 : decode cX7_cut 7 = .ok (.bipush (-3), 2) := by decide +kernel
theorem dX7_cut_9 : decode cX7_cut 9 = .ok (.ireturn, 1) := by decide +kernel
theorem dX7_cut_10 : decode cX7_cut 10 = .ok (.aload_n 0, 1) := by decide +kernel
theorem dX7_cut_11 : decode cX7_cut 11 = .ok (.bipush (-9), 2) := by decide +kernel
theorem dX7_cut_13 : decode cX7_cut 13 = .ok (.bipush (-9), 2) := by decide +kernel
theorem dX7_cut_15 : decode cX7_cut 15 = .ok (.invokevirtual 202, 3) := by decide +kernel
theorem dX7_cut_18 : decode cX7_cut 18 = .ok (.invokestatic 199, 3) := by decide +kernel
theorem dX7_cut_21 : decode cX7_cut 21 = .ok (.istore_n 1, 1) := by decide +kernel
theorem dX7_cut_22 : decode cX7_cut 22 = .ok (.iconst 0, 1) := by decide +kernel
theorem dX7_cut_23 : decode cX7_cut 23 = .ok (.istore_n 2, 1) := by decide +kernel
theorem dX7_cut_24 : decode cX7_cut 24 = .ok (.iconst 0, 1) := by decide +kernel
theorem dX7_cut_25 : decode cX7_cut 25 = .ok (.istore_n 3, 1) := by decide +kernel
theorem dX7_cut_26 : decode cX7_cut 26 = .ok (.iload_n 3, 1) := by decide +kernel
theorem dX7_cut_27 : decode cX7_cut 27 = .ok (.aload_n 0, 1) := by decide +kernel
theorem dX7_cut_28 : decode cX7_cut 28 = .ok (.getfield 145, 3) := by decide +kernel
theorem dX7_cut_31 : decode cX7_cut 31 = .ok (.if_icmp .ge 33, 3) := by decide +kernel
theorem dX7_cut_34 : decode cX7_cut 34 = .ok (.iload_n 2, 1) := by decide +kernel
theorem dX7_cut_35 : decode cX7_cut 35 = .ok (.aload_n 0, 1) := by decide +kernel
theorem dX7_cut_36 : decode cX7_cut 36 = .ok (.bipush (-9), 2) := by decide +kernel
theorem dX7_cut_38 : decode cX7_cut 38 = .ok (.iload_n 3, 1) := by decide +kernel
theorem dX7_cut_39 : decode cX7_cut 39 = .ok (.invokevirtual 202, 3) := by decide +kernel
theorem dX7_cut_42 : decode cX7_cut 42 = .ok (.invokestatic 199, 3) := by decide +kernel
theorem dX7_cut_45 : decode cX7_cut 45 = .ok (.iload_n 1, 1) := by decide +kernel
theorem dX7_cut_46 : decode cX7_cut 46 = .ok (.if_icmp .ge 9, 3) := by decide +kernel
theorem dX7_cut_49 : decode cX7_cut 49 = .ok (.iconst 1, 1) := by decide +kernel
theorem dX7_cut_50 : decode cX7_cut 50 = .ok (.iload_n 3, 1) := by decide +kernel
theorem dX7_cut_51 : decode cX7_cut 51 = .ok (.ishl, 1) := by decide +kernel
theorem dX7_cut_52 : decode cX7_cut 52 = .ok (.goto 4, 3) := by decide +kernel
theorem dX7_cut_55 : decode cX7_cut 55 = .ok (.iconst 0, 1) := by decide +kernel
theorem dX7_cut_56 : decode cX7_cut 56 = .ok (.ior, 1) := by decide +kernel
theorem dX7_cut_57 : decode cX7_cut 57 = .ok (.istore_n 2, 1) := by decide +kernel
theorem dX7_cut_58 : decode cX7_cut 58 = .ok (.iinc 3 1, 3) := by decide +kernel
theorem dX7_cut_61 : decode cX7_cut 61 = .ok (.goto (-35), 3) := by decide +kernel
theorem dX7_cut_64 : decode cX7_cut 64 = .ok (.iload_n 2, 1) := by decide +kernel
theorem dX7_cut_65 : decode cX7_cut 65 = .ok (.ireturn, 1) := by decide +kernel
theorem dX7_reading_0 : decode cX7_reading 0 = .ok (.aload_n 0, 1) := by decide +kernel
theorem dX7_reading_1 : decode cX7_reading 1 = .ok (.iload_n 1, 1) := by decide +kernel
theorem dX7_reading_2 : decode cX7_reading 2 = .ok (.invokevirtual 160, 3) := by decide +kernel
theorem dX7_reading_5 : decode cX7_reading 5 = .ok (.ifCond .eq 5, 3) := by decide +kernel
theorem dX7_reading_8 : decode cX7_reading 8 = .ok (.iconst (-1), 1) := by decide +kernel
theorem dX7_reading_9 : decode cX7_reading 9 = .ok (.ireturn, 1) := by decide +kernel
theorem dX7_reading_10 : decode cX7_reading 10 = .ok (.iload_n 2, 1) := by decide +kernel
theorem dX7_reading_11 : decode cX7_reading 11 = .ok (.i2l, 1) := by decide +kernel
theorem dX7_reading_12 : decode cX7_reading 12 = .ok (.lconst 0, 1) := by decide +kernel
theorem dX7_reading_13 : decode cX7_reading 13 = .ok (.ldc2_w 190, 3) := by decide +kernel
theorem dX7_reading_16 : decode cX7_reading 16 = .ok (.invokestatic 93, 3) := by decide +kernel
theorem dX7_reading_19 : decode cX7_reading 19 = .ok (.ifCond .ne 6, 3) := by decide +kernel
theorem dX7_reading_22 : decode cX7_reading 22 = .ok (.bipush (-2), 2) := by decide +kernel
theorem dX7_reading_24 : decode cX7_reading 24 = .ok (.ireturn, 1) := by decide +kernel
theorem dX7_reading_25 : decode cX7_reading 25 = .ok (.aload_n 0, 1) := by decide +kernel
theorem dX7_reading_26 : decode cX7_reading 26 = .ok (.getfield 157, 3) := by decide +kernel
theorem dX7_reading_29 : decode cX7_reading 29 = .ok (.bipush 6, 2) := by decide +kernel
theorem dX7_reading_31 : decode cX7_reading 31 = .ok (.if_icmp .ne 6, 3) := by decide +kernel
theorem dX7_reading_34 : decode cX7_reading 34 = .ok (.bipush (-4), 2) := by decide +kernel
theorem dX7_reading_36 : decode cX7_reading 36 = .ok (.ireturn, 1) := by decide +kernel
theorem dX7_reading_37 : decode cX7_reading 37 = .ok (.aload_n 0, 1) := by decide +kernel
theorem dX7_reading_38 : decode cX7_reading 38 = .ok (.getfield 58, 3) := by decide +kernel
theorem dX7_reading_41 : decode cX7_reading 41 = .ok (.aload_n 0, 1) := by decide +kernel
theorem dX7_reading_42 : decode cX7_reading 42 = .ok (.getfield 157, 3) := by decide +kernel
theorem dX7_reading_45 : decode cX7_reading 45 = .ok (.iload_n 1, 1) := by decide +kernel
theorem dX7_reading_46 : decode cX7_reading 46 = .ok (.iastore, 1) := by decide +kernel
theorem dX7_reading_47 : decode cX7_reading 47 = .ok (.aload_n 0, 1) := by decide +kernel
theorem dX7_reading_48 : decode cX7_reading 48 = .ok (.getfield 61, 3) := by decide +kernel
theorem dX7_reading_51 : decode cX7_reading 51 = .ok (.aload_n 0, 1) := by decide +kernel
theorem dX7_reading_52 : decode cX7_reading 52 = .ok (.getfield 157, 3) := by decide +kernel
theorem dX7_reading_55 : decode cX7_reading 55 = .ok (.iload_n 2, 1) := by decide +kernel
theorem dX7_reading_56 : decode cX7_reading 56 = .ok (.iastore, 1) := by decide +kernel
theorem dX7_reading_57 : decode cX7_reading 57 = .ok (.aload_n 0, 1) := by decide +kernel
theorem dX7_reading_58 : decode cX7_reading 58 = .ok (.getfield 64, 3) := by decide +kernel
theorem dX7_reading_61 : decode cX7_reading 61 = .ok (.aload_n 0, 1) := by decide +kernel
theorem dX7_reading_62 : decode cX7_reading 62 = .ok (.getfield 157, 3) := by decide +kernel
theorem dX7_reading_65 : decode cX7_reading 65 = .ok (.iload_n 3, 1) := by decide +kernel
theorem dX7_reading_66 : decode cX7_reading 66 = .ok (.bastore, 1) := by decide +kernel
theorem dX7_reading_67 : decode cX7_reading 67 = .ok (.aload_n 0, 1) := by decide +kernel
theorem dX7_reading_68 : decode cX7_reading 68 = .ok (.dup, 1) := by decide +kernel
theorem dX7_reading_69 : decode cX7_reading 69 = .ok (.getfield 157, 3) := by decide +kernel
theorem dX7_reading_72 : decode cX7_reading 72 = .ok (.iconst 1, 1) := by decide +kernel
theorem dX7_reading_73 : decode cX7_reading 73 = .ok (.iadd, 1) := by decide +kernel
theorem dX7_reading_74 : decode cX7_reading 74 = .ok (.putfield 157, 3) := by decide +kernel
theorem dX7_reading_77 : decode cX7_reading 77 = .ok (.aload_n 0, 1) := by decide +kernel
theorem dX7_reading_78 : decode cX7_reading 78 = .ok (.getfield 157, 3) := by decide +kernel
theorem dX7_reading_81 : decode cX7_reading 81 = .ok (.iconst 1, 1) := by decide +kernel
theorem dX7_reading_82 : decode cX7_reading 82 = .ok (.isub, 1) := by decide +kernel
theorem dX7_reading_83 : decode cX7_reading 83 = .ok (.ireturn, 1) := by decide +kernel
theorem dX7_back_0 : decode cX7_back 0 = .ok (.iload_n 1, 1) := by decide +kernel
theorem dX7_back_1 : decode cX7_back 1 = .ok (.i2l, 1) := by decide +kernel
theorem dX7_back_2 : decode cX7_back 2 = .ok (.lconst 0, 1) := by decide +kernel
theorem dX7_back_3 : decode cX7_back 3 = .ok (.aload_n 0, 1) := by decide +kernel
theorem dX7_back_4 : decode cX7_back 4 = .ok (.getfield 157, 3) := by decide +kernel
theorem dX7_back_7 : decode cX7_back 7 = .ok (.i2l, 1) := by decide +kernel
theorem dX7_back_8 : decode cX7_back 8 = .ok (.invokestatic 93, 3) := by decide +kernel
theorem dX7_back_11 : decode cX7_back 11 = .ok (.ifCond .ne 6, 3) := by decide +kernel
theorem dX7_back_14 : decode cX7_back 14 = .ok (.bipush (-2), 2) := by decide +kernel
theorem dX7_back_16 : decode cX7_back 16 = .ok (.ireturn, 1) := by decide +kernel
theorem dX7_back_17 : decode cX7_back 17 = .ok (.aload_n 0, 1) := by decide +kernel
theorem dX7_back_18 : decode cX7_back 18 = .ok (.dup, 1) := by decide +kernel
theorem dX7_back_19 : decode cX7_back 19 = .ok (.getfield 157, 3) := by decide +kernel
theorem dX7_back_22 : decode cX7_back 22 = .ok (.iload_n 1, 1) := by decide +kernel
theorem dX7_back_23 : decode cX7_back 23 = .ok (.isub, 1) := by decide +kernel
theorem dX7_back_24 : decode cX7_back 24 = .ok (.putfield 157, 3) := by decide +kernel
theorem dX7_back_27 : decode cX7_back 27 = .ok (.aload_n 0, 1) := by decide +kernel
theorem dX7_back_28 : decode cX7_back 28 = .ok (.getfield 157, 3) := by decide +kernel
theorem dX7_back_31 : decode cX7_back 31 = .ok (.ireturn, 1) := by decide +kernel
theorem dX7_areSo_0 : decode cX7_areSo 0 = .ok (.aload_n 0, 1) := by decide +kernel
theorem dX7_areSo_1 : decode cX7_areSo 1 = .ok (.sipush 400, 3) := by decide +kernel
theorem dX7_areSo_4 : decode cX7_areSo 4 = .ok (.iload_n 1, 1) := by decide +kernel
theorem dX7_areSo_5 : decode cX7_areSo 5 = .ok (.iload_n 2, 1) := by decide +kernel
theorem dX7_areSo_6 : decode cX7_areSo 6 = .ok (.invokevirtual 184, 3) := by decide +kernel
theorem dX7_areSo_9 : decode cX7_areSo 9 = .ok (.iconst 1, 1) := by decide +kernel
theorem dX7_areSo_10 : decode cX7_areSo 10 = .ok (.istore_n 3, 1) := by decide +kernel
theorem dX7_areSo_11 : decode cX7_areSo 11 = .ok (.iconst 0, 1) := by decide +kernel
theorem dX7_areSo_12 : decode cX7_areSo 12 = .ok (.istore 4, 2) := by decide +kernel
theorem dX7_areSo_14 : decode cX7_areSo 14 = .ok (.iload 4, 2) := by decide +kernel
theorem dX7_areSo_16 : decode cX7_areSo 16 = .ok (.aload_n 0, 1) := by decide +kernel
theorem dX7_areSo_17 : decode cX7_areSo 17 = .ok (.getfield 157, 3) := by decide +kernel
theorem dX7_areSo_20 : decode cX7_areSo 20 = .ok (.if_icmp .ge 51, 3) := by decide +kernel
theorem dX7_areSo_23 : decode cX7_areSo 23 = .ok (.iload_n 3, 1) := by decide +kernel
theorem dX7_areSo_24 : decode cX7_areSo 24 = .ok (.ifCond .eq 39, 3) := by decide +kernel
theorem dX7_areSo_27 : decode cX7_areSo 27 = .ok (.aload_n 0, 1) := by decide +kernel
theorem dX7_areSo_28 : decode cX7_areSo 28 = .ok (.getfield 46, 3) := by decide +kernel
theorem dX7_areSo_31 : decode cX7_areSo 31 = .ok (.aload_n 0, 1) := by decide +kernel
theorem dX7_areSo_32 : decode cX7_areSo 32 = .ok (.getfield 61, 3) := by decide +kernel
theorem dX7_areSo_35 : decode cX7_areSo 35 = .ok (.iload 4, 2) := by decide +kernel
theorem dX7_areSo_37 : decode cX7_areSo 37 = .ok (.iaload, 1) := by decide +kernel
theorem dX7_areSo_38 : decode cX7_areSo 38 = .ok (.iaload, 1) := by decide +kernel
theorem dX7_areSo_39 : decode cX7_areSo 39 = .ok (.aload_n 0, 1) := by decide +kernel
theorem dX7_areSo_40 : decode cX7_areSo 40 = .ok (.getfield 58, 3) := by decide +kernel
theorem dX7_areSo_43 : decode cX7_areSo 43 = .ok (.iload 4, 2) := by decide +kernel
theorem dX7_areSo_45 : decode cX7_areSo 45 = .ok (.iaload, 1) := by decide +kernel
theorem dX7_areSo_46 : decode cX7_areSo 46 = .ok (.invokestatic 166, 3) := by decide +kernel
theorem dX7_areSo_49 : decode cX7_areSo 49 = .ok (.aload_n 0, 1) := by decide +kernel
theorem dX7_areSo_50 : decode cX7_areSo 50 = .ok (.getfield 64, 3) := by decide +kernel
theorem dX7_areSo_53 : decode cX7_areSo 53 = .ok (.iload 4, 2) := by decide +kernel
theorem dX7_areSo_55 : decode cX7_areSo 55 = .ok (.baload, 1) := by decide +kernel
theorem dX7_areSo_56 : decode cX7_areSo 56 = .ok (.if_icmp .ne 7, 3) := by decide +kernel
theorem dX7_areSo_59 : decode cX7_areSo 59 = .ok (.iconst 1, 1) := by decide +kernel
theorem dX7_areSo_60 : decode cX7_areSo 60 = .ok (.goto 4, 3) := by decide +kernel
theorem dX7_areSo_63 : decode cX7_areSo 63 = .ok (.iconst 0, 1) := by decide +kernel
theorem dX7_areSo_64 : decode cX7_areSo 64 = .ok (.istore_n 3, 1) := by decide +kernel
theorem dX7_areSo_65 : decode cX7_areSo 65 = .ok (.iinc 4 1, 3) := by decide +kernel
theorem dX7_areSo_68 : decode cX7_areSo 68 = .ok (.goto (-54), 3) := by decide +kernel
theorem dX7_areSo_71 : decode cX7_areSo 71 = .ok (.iload_n 3, 1) := by decide +kernel
theorem dX7_areSo_72 : decode cX7_areSo 72 = .ok (.ireturn, 1) := by decide +kernel
theorem dX7_first_0 : decode cX7_first 0 = .ok (.aload_n 0, 1) := by decide +kernel
theorem dX7_first_1 : decode cX7_first 1 = .ok (.getfield 90, 3) := by decide +kernel
theorem dX7_first_4 : decode cX7_first 4 = .ok (.ifCond .ne 6, 3) := by decide +kernel
theorem dX7_first_7 : decode cX7_first 7 = .ok (.bipush (-3), 2) := by decide +kernel
theorem dX7_first_9 : decode cX7_first 9 = .ok (.ireturn, 1) := by decide +kernel
theorem dX7_first_10 : decode cX7_first 10 = .ok (.iconst 0, 1) := by decide +kernel
theorem dX7_first_11 : decode cX7_first 11 = .ok (.istore_n 1, 1) := by decide +kernel
theorem dX7_first_12 : decode cX7_first 12 = .ok (.iconst 0, 1) := by decide +kernel
theorem dX7_first_13 : decode cX7_first 13 = .ok (.istore_n 2, 1) := by decide +kernel
theorem dX7_first_14 : decode cX7_first 14 = .ok (.iload_n 2, 1) := by decide +kernel
theorem dX7_first_15 : decode cX7_first 15 = .ok (.aload_n 0, 1) := by decide +kernel
theorem dX7_first_16 : decode cX7_first 16 = .ok (.getfield 90, 3) := by decide +kernel
theorem dX7_first_19 : decode cX7_first 19 = .ok (.if_icmp .ge 31, 3) := by decide +kernel
theorem dX7_first_22 : decode cX7_first 22 = .ok (.iload_n 1, 1) := by decide +kernel
theorem dX7_first_23 : decode cX7_first 23 = .ok (.aload_n 0, 1) := by decide +kernel
theorem dX7_first_24 : decode cX7_first 24 = .ok (.iconst 1, 1) := by decide +kernel
theorem dX7_first_25 : decode cX7_first 25 = .ok (.iload_n 2, 1) := by decide +kernel
theorem dX7_first_26 : decode cX7_first 26 = .ok (.ishl, 1) := by decide +kernel
theorem dX7_first_27 : decode cX7_first 27 = .ok (.bipush (-9), 2) := by decide +kernel
theorem dX7_first_29 : decode cX7_first 29 = .ok (.invokevirtual 207, 3) := by decide +kernel
theorem dX7_first_32 : decode cX7_first 32 = .ok (.ifCond .eq 9, 3) := by decide +kernel
theorem dX7_first_35 : decode cX7_first 35 = .ok (.iconst 1, 1) := by decide +kernel
theorem dX7_first_36 : decode cX7_first 36 = .ok (.iload_n 2, 1) := by decide +kernel
theorem dX7_first_37 : decode cX7_first 37 = .ok (.ishl, 1) := by decide +kernel
theorem dX7_first_38 : decode cX7_first 38 = .ok (.goto 4, 3) := by decide +kernel
theorem dX7_first_41 : decode cX7_first 41 = .ok (.iconst 0, 1) := by decide +kernel
theorem dX7_first_42 : decode cX7_first 42 = .ok (.ior, 1) := by decide +kernel
theorem dX7_first_43 : decode cX7_first 43 = .ok (.istore_n 1, 1) := by decide +kernel
theorem dX7_first_44 : decode cX7_first 44 = .ok (.iinc 2 1, 3) := by decide +kernel
theorem dX7_first_47 : decode cX7_first 47 = .ok (.goto (-33), 3) := by decide +kernel
theorem dX7_first_50 : decode cX7_first 50 = .ok (.iload_n 1, 1) := by decide +kernel
theorem dX7_first_51 : decode cX7_first 51 = .ok (.ireturn, 1) := by decide +kernel
theorem dX7_gone_0 : decode cX7_gone 0 = .ok (.aload_n 0, 1) := by decide +kernel
theorem dX7_gone_1 : decode cX7_gone 1 = .ok (.getfield 90, 3) := by decide +kernel
theorem dX7_gone_4 : decode cX7_gone 4 = .ok (.ifCond .ne 6, 3) := by decide +kernel
theorem dX7_gone_7 : decode cX7_gone 7 = .ok (.bipush (-3), 2) := by decide +kernel
theorem dX7_gone_9 : decode cX7_gone 9 = .ok (.ireturn, 1) := by decide +kernel
theorem dX7_gone_10 : decode cX7_gone 10 = .ok (.iconst 0, 1) := by decide +kernel
theorem dX7_gone_11 : decode cX7_gone 11 = .ok (.istore_n 1, 1) := by decide +kernel
theorem dX7_gone_12 : decode cX7_gone 12 = .ok (.iconst 0, 1) := by decide +kernel
theorem dX7_gone_13 : decode cX7_gone 13 = .ok (.istore_n 2, 1) := by decide +kernel
theorem dX7_gone_14 : decode cX7_gone 14 = .ok (.iload_n 2, 1) := by decide +kernel
theorem dX7_gone_15 : decode cX7_gone 15 = .ok (.aload_n 0, 1) := by decide +kernel
theorem dX7_gone_16 : decode cX7_gone 16 = .ok (.getfield 145, 3) := by decide +kernel
theorem dX7_gone_19 : decode cX7_gone 19 = .ok (.if_icmp .ge 29, 3) := by decide +kernel
theorem dX7_gone_22 : decode cX7_gone 22 = .ok (.iload_n 1, 1) := by decide +kernel
theorem dX7_gone_23 : decode cX7_gone 23 = .ok (.aload_n 0, 1) := by decide +kernel
theorem dX7_gone_24 : decode cX7_gone 24 = .ok (.bipush (-9), 2) := by decide +kernel
theorem dX7_gone_26 : decode cX7_gone 26 = .ok (.iload_n 2, 1) := by decide +kernel
theorem dX7_gone_27 : decode cX7_gone 27 = .ok (.invokevirtual 207, 3) := by decide +kernel
theorem dX7_gone_30 : decode cX7_gone 30 = .ok (.ifCond .eq 9, 3) := by decide +kernel
theorem dX7_gone_33 : decode cX7_gone 33 = .ok (.iconst 1, 1) := by decide +kernel
theorem dX7_gone_34 : decode cX7_gone 34 = .ok (.iload_n 2, 1) := by decide +kernel
theorem dX7_gone_35 : decode cX7_gone 35 = .ok (.ishl, 1) := by decide +kernel
theorem dX7_gone_36 : decode cX7_gone 36 = .ok (.goto 4, 3) := by decide +kernel
theorem dX7_gone_39 : decode cX7_gone 39 = .ok (.iconst 0, 1) := by decide +kernel
theorem dX7_gone_40 : decode cX7_gone 40 = .ok (.ior, 1) := by decide +kernel
theorem dX7_gone_41 : decode cX7_gone 41 = .ok (.istore_n 1, 1) := by decide +kernel
theorem dX7_gone_42 : decode cX7_gone 42 = .ok (.iinc 2 1, 3) := by decide +kernel
theorem dX7_gone_45 : decode cX7_gone 45 = .ok (.goto (-31), 3) := by decide +kernel
theorem dX7_gone_48 : decode cX7_gone 48 = .ok (.iload_n 1, 1) := by decide +kernel
theorem dX7_gone_49 : decode cX7_gone 49 = .ok (.ireturn, 1) := by decide +kernel
theorem dX7_sneezes_0 : decode cX7_sneezes 0 = .ok (.iload_n 1, 1) := by decide +kernel
theorem dX7_sneezes_1 : decode cX7_sneezes 1 = .ok (.i2l, 1) := by decide +kernel
theorem dX7_sneezes_2 : decode cX7_sneezes 2 = .ok (.lconst 0, 1) := by decide +kernel
theorem dX7_sneezes_3 : decode cX7_sneezes 3 = .ok (.lconst 1, 1) := by decide +kernel
theorem dX7_sneezes_4 : decode cX7_sneezes 4 = .ok (.invokestatic 93, 3) := by decide +kernel
theorem dX7_sneezes_7 : decode cX7_sneezes 7 = .ok (.ifCond .eq 10, 3) := by decide +kernel
theorem dX7_sneezes_10 : decode cX7_sneezes 10 = .ok (.aload_n 0, 1) := by decide +kernel
theorem dX7_sneezes_11 : decode cX7_sneezes 11 = .ok (.getfield 90, 3) := by decide +kernel
theorem dX7_sneezes_14 : decode cX7_sneezes 14 = .ok (.ifCond .ne 7, 3) := by decide +kernel
theorem dX7_sneezes_17 : decode cX7_sneezes 17 = .ok (.invokestatic 86, 3) := by decide +kernel
theorem dX7_sneezes_20 : decode cX7_sneezes 20 = .ok (.lreturn, 1) := by decide +kernel
theorem dX7_sneezes_21 : decode cX7_sneezes 21 = .ok (.lconst 0, 1) := by decide +kernel
theorem dX7_sneezes_22 : decode cX7_sneezes 22 = .ok (.lstore_n 2, 1) := by decide +kernel
theorem dX7_sneezes_23 : decode cX7_sneezes 23 = .ok (.iconst 0, 1) := by decide +kernel
theorem dX7_sneezes_24 : decode cX7_sneezes 24 = .ok (.istore 4, 2) := by decide +kernel
theorem dX7_sneezes_26 : decode cX7_sneezes 26 = .ok (.iload 4, 2) := by decide +kernel
theorem dX7_sneezes_28 : decode cX7_sneezes 28 = .ok (.aload_n 0, 1) := by decide +kernel
theorem dX7_sneezes_29 : decode cX7_sneezes 29 = .ok (.invokevirtual 196, 3) := by decide +kernel
theorem dX7_sneezes_32 : decode cX7_sneezes 32 = .ok (.if_icmp .gt 42, 3) := by decide +kernel
theorem dX7_sneezes_35 : decode cX7_sneezes 35 = .ok (.lload_n 2, 1) := by decide +kernel
theorem dX7_sneezes_36 : decode cX7_sneezes 36 = .ok (.aload_n 0, 1) := by decide +kernel
theorem dX7_sneezes_37 : decode cX7_sneezes 37 = .ok (.invokevirtual 196, 3) := by decide +kernel
theorem dX7_sneezes_40 : decode cX7_sneezes 40 = .ok (.aload_n 0, 1) := by decide +kernel
theorem dX7_sneezes_41 : decode cX7_sneezes 41 = .ok (.getfield 148, 3) := by decide +kernel
theorem dX7_sneezes_44 : decode cX7_sneezes 44 = .ok (.iconst (-1), 1) := by decide +kernel
theorem dX7_sneezes_45 : decode cX7_sneezes 45 = .ok (.ixor, 1) := by decide +kernel
theorem dX7_sneezes_46 : decode cX7_sneezes 46 = .ok (.iand, 1) := by decide +kernel
theorem dX7_sneezes_47 : decode cX7_sneezes 47 = .ok (.aload_n 0, 1) := by decide +kernel
theorem dX7_sneezes_48 : decode cX7_sneezes 48 = .ok (.iload 4, 2) := by decide +kernel
theorem dX7_sneezes_50 : decode cX7_sneezes 50 = .ok (.bipush (-9), 2) := by decide +kernel
theorem dX7_sneezes_52 : decode cX7_sneezes 52 = .ok (.invokevirtual 202, 3) := by decide +kernel
theorem dX7_sneezes_55 : decode cX7_sneezes 55 = .ok (.iconst (-1), 1) := by decide +kernel
theorem dX7_sneezes_56 : decode cX7_sneezes 56 = .ok (.ixor, 1) := by decide +kernel
theorem dX7_sneezes_57 : decode cX7_sneezes 57 = .ok (.iand, 1) := by decide +kernel
theorem dX7_sneezes_58 : decode cX7_sneezes 58 = .ok (.ifCond .ne 7, 3) := by decide +kernel
theorem dX7_sneezes_61 : decode cX7_sneezes 61 = .ok (.lconst 1, 1) := by decide +kernel
theorem dX7_sneezes_62 : decode cX7_sneezes 62 = .ok (.goto 4, 3) := by decide +kernel
theorem dX7_sneezes_65 : decode cX7_sneezes 65 = .ok (.lconst 0, 1) := by decide +kernel
theorem dX7_sneezes_66 : decode cX7_sneezes 66 = .ok (.ladd, 1) := by decide +kernel
theorem dX7_sneezes_67 : decode cX7_sneezes 67 = .ok (.lstore_n 2, 1) := by decide +kernel
theorem dX7_sneezes_68 : decode cX7_sneezes 68 = .ok (.iinc 4 1, 3) := by decide +kernel
theorem dX7_sneezes_71 : decode cX7_sneezes 71 = .ok (.goto (-45), 3) := by decide +kernel
theorem dX7_sneezes_74 : decode cX7_sneezes 74 = .ok (.lload_n 2, 1) := by decide +kernel
theorem dX7_sneezes_75 : decode cX7_sneezes 75 = .ok (.aload_n 0, 1) := by decide +kernel
theorem dX7_sneezes_76 : decode cX7_sneezes 76 = .ok (.invokevirtual 196, 3) := by decide +kernel
theorem dX7_sneezes_79 : decode cX7_sneezes 79 = .ok (.i2l, 1) := by decide +kernel
theorem dX7_sneezes_80 : decode cX7_sneezes 80 = .ok (.lconst 1, 1) := by decide +kernel
theorem dX7_sneezes_81 : decode cX7_sneezes 81 = .ok (.ladd, 1) := by decide +kernel
theorem dX7_sneezes_82 : decode cX7_sneezes 82 = .ok (.iload_n 1, 1) := by decide +kernel
theorem dX7_sneezes_83 : decode cX7_sneezes 83 = .ok (.invokestatic 210, 3) := by decide +kernel
theorem dX7_sneezes_86 : decode cX7_sneezes 86 = .ok (.lreturn, 1) := by decide +kernel
theorem dX7_tune_0 : decode cX7_tune 0 = .ok (.iload_n 1, 1) := by decide +kernel
theorem dX7_tune_1 : decode cX7_tune 1 = .ok (.invokestatic 129, 3) := by decide +kernel
theorem dX7_tune_4 : decode cX7_tune 4 = .ok (.ifCond .eq 9, 3) := by decide +kernel
theorem dX7_tune_7 : decode cX7_tune 7 = .ok (.aload_n 0, 1) := by decide +kernel
theorem dX7_tune_8 : decode cX7_tune 8 = .ok (.iconst (-1), 1) := by decide +kernel
theorem dX7_tune_9 : decode cX7_tune 9 = .ok (.invokevirtual 133, 3) := by decide +kernel
theorem dX7_tune_12 : decode cX7_tune 12 = .ok (.ireturn, 1) := by decide +kernel
theorem dX7_tune_13 : decode cX7_tune 13 = .ok (.iload_n 2, 1) := by decide +kernel
theorem dX7_tune_14 : decode cX7_tune 14 = .ok (.i2l, 1) := by decide +kernel
theorem dX7_tune_15 : decode cX7_tune 15 = .ok (.lconst 0, 1) := by decide +kernel
theorem dX7_tune_16 : decode cX7_tune 16 = .ok (.ldc2_w 136, 3) := by decide +kernel
theorem dX7_tune_19 : decode cX7_tune 19 = .ok (.invokestatic 93, 3) := by decide +kernel
theorem dX7_tune_22 : decode cX7_tune 22 = .ok (.ifCond .ne 10, 3) := by decide +kernel
theorem dX7_tune_25 : decode cX7_tune 25 = .ok (.aload_n 0, 1) := by decide +kernel
theorem dX7_tune_26 : decode cX7_tune 26 = .ok (.bipush (-2), 2) := by decide +kernel
theorem dX7_tune_28 : decode cX7_tune 28 = .ok (.invokevirtual 133, 3) := by decide +kernel
theorem dX7_tune_31 : decode cX7_tune 31 = .ok (.ireturn, 1) := by decide +kernel
theorem dX7_tune_32 : decode cX7_tune 32 = .ok (.aload_n 0, 1) := by decide +kernel
theorem dX7_tune_33 : decode cX7_tune 33 = .ok (.getfield 90, 3) := by decide +kernel
theorem dX7_tune_36 : decode cX7_tune 36 = .ok (.ifCond .ne 10, 3) := by decide +kernel
theorem dX7_tune_39 : decode cX7_tune 39 = .ok (.aload_n 0, 1) := by decide +kernel
theorem dX7_tune_40 : decode cX7_tune 40 = .ok (.bipush (-3), 2) := by decide +kernel
theorem dX7_tune_42 : decode cX7_tune 42 = .ok (.invokevirtual 133, 3) := by decide +kernel
theorem dX7_tune_45 : decode cX7_tune 45 = .ok (.ireturn, 1) := by decide +kernel
theorem dX7_tune_46 : decode cX7_tune 46 = .ok (.aload_n 0, 1) := by decide +kernel
theorem dX7_tune_47 : decode cX7_tune 47 = .ok (.iload_n 1, 1) := by decide +kernel
theorem dX7_tune_48 : decode cX7_tune 48 = .ok (.iload_n 2, 1) := by decide +kernel
theorem dX7_tune_49 : decode cX7_tune 49 = .ok (.iload_n 3, 1) := by decide +kernel
theorem dX7_tune_50 : decode cX7_tune 50 = .ok (.iload 4, 2) := by decide +kernel
theorem dX7_tune_52 : decode cX7_tune 52 = .ok (.i2l, 1) := by decide +kernel
theorem dX7_tune_53 : decode cX7_tune 53 = .ok (.invokevirtual 138, 3) := by decide +kernel
theorem dX7_tune_56 : decode cX7_tune 56 = .ok (.istore 5, 2) := by decide +kernel
theorem dX7_tune_58 : decode cX7_tune 58 = .ok (.iload 5, 2) := by decide +kernel
theorem dX7_tune_60 : decode cX7_tune 60 = .ok (.ifCond .ge 6, 3) := by decide +kernel
theorem dX7_tune_63 : decode cX7_tune 63 = .ok (.iload 5, 2) := by decide +kernel
theorem dX7_tune_65 : decode cX7_tune 65 = .ok (.ireturn, 1) := by decide +kernel
theorem dX7_tune_66 : decode cX7_tune 66 = .ok (.iload 4, 2) := by decide +kernel
theorem dX7_tune_68 : decode cX7_tune 68 = .ok (.i2l, 1) := by decide +kernel
theorem dX7_tune_69 : decode cX7_tune 69 = .ok (.lconst 1, 1) := by decide +kernel
theorem dX7_tune_70 : decode cX7_tune 70 = .ok (.ldc2_w 214, 3) := by decide +kernel
theorem dX7_tune_73 : decode cX7_tune 73 = .ok (.invokestatic 93, 3) := by decide +kernel
theorem dX7_tune_76 : decode cX7_tune 76 = .ok (.ifCond .ne 10, 3) := by decide +kernel
theorem dX7_tune_79 : decode cX7_tune 79 = .ok (.aload_n 0, 1) := by decide +kernel
theorem dX7_tune_80 : decode cX7_tune 80 = .ok (.bipush (-2), 2) := by decide +kernel
theorem dX7_tune_82 : decode cX7_tune 82 = .ok (.invokevirtual 133, 3) := by decide +kernel
theorem dX7_tune_85 : decode cX7_tune 85 = .ok (.ireturn, 1) := by decide +kernel
theorem dX7_tune_86 : decode cX7_tune 86 = .ok (.iconst 0, 1) := by decide +kernel
theorem dX7_tune_87 : decode cX7_tune 87 = .ok (.istore 6, 2) := by decide +kernel
theorem dX7_tune_89 : decode cX7_tune 89 = .ok (.iload 6, 2) := by decide +kernel
theorem dX7_tune_91 : decode cX7_tune 91 = .ok (.iload 4, 2) := by decide +kernel
theorem dX7_tune_93 : decode cX7_tune 93 = .ok (.if_icmp .ge 36, 3) := by decide +kernel
theorem dX7_tune_96 : decode cX7_tune 96 = .ok (.aload_n 0, 1) := by decide +kernel
theorem dX7_tune_97 : decode cX7_tune 97 = .ok (.aload_n 0, 1) := by decide +kernel
theorem dX7_tune_98 : decode cX7_tune 98 = .ok (.getfield 74, 3) := by decide +kernel
theorem dX7_tune_101 : decode cX7_tune 101 = .ok (.bipush 60, 2) := by decide +kernel
theorem dX7_tune_103 : decode cX7_tune 103 = .ok (.iload_n 1, 1) := by decide +kernel
theorem dX7_tune_104 : decode cX7_tune 104 = .ok (.imul, 1) := by decide +kernel
theorem dX7_tune_105 : decode cX7_tune 105 = .ok (.iload_n 3, 1) := by decide +kernel
theorem dX7_tune_106 : decode cX7_tune 106 = .ok (.iadd, 1) := by decide +kernel
theorem dX7_tune_107 : decode cX7_tune 107 = .ok (.iload 6, 2) := by decide +kernel
theorem dX7_tune_109 : decode cX7_tune 109 = .ok (.iadd, 1) := by decide +kernel
theorem dX7_tune_110 : decode cX7_tune 110 = .ok (.iaload, 1) := by decide +kernel
theorem dX7_tune_111 : decode cX7_tune 111 = .ok (.invokevirtual 160, 3) := by decide +kernel
theorem dX7_tune_114 : decode cX7_tune 114 = .ok (.ifCond .eq 9, 3) := by decide +kernel
theorem dX7_tune_117 : decode cX7_tune 117 = .ok (.aload_n 0, 1) := by decide +kernel
theorem dX7_tune_118 : decode cX7_tune 118 = .ok (.iconst (-1), 1) := by decide +kernel
theorem dX7_tune_119 : decode cX7_tune 119 = .ok (.invokevirtual 133, 3) := by decide +kernel
theorem dX7_tune_122 : decode cX7_tune 122 = .ok (.ireturn, 1) := by decide +kernel
theorem dX7_tune_123 : decode cX7_tune 123 = .ok (.iinc 6 1, 3) := by decide +kernel
theorem dX7_tune_126 : decode cX7_tune 126 = .ok (.goto (-37), 3) := by decide +kernel
theorem dX7_tune_129 : decode cX7_tune 129 = .ok (.aload_n 0, 1) := by decide +kernel
theorem dX7_tune_130 : decode cX7_tune 130 = .ok (.invokevirtual 187, 3) := by decide +kernel
theorem dX7_tune_133 : decode cX7_tune 133 = .ok (.iconst 0, 1) := by decide +kernel
theorem dX7_tune_134 : decode cX7_tune 134 = .ok (.istore 6, 2) := by decide +kernel
theorem dX7_tune_136 : decode cX7_tune 136 = .ok (.iconst 0, 1) := by decide +kernel
theorem dX7_tune_137 : decode cX7_tune 137 = .ok (.istore 7, 2) := by decide +kernel
theorem dX7_tune_139 : decode cX7_tune 139 = .ok (.iload 7, 2) := by decide +kernel
theorem dX7_tune_141 : decode cX7_tune 141 = .ok (.sipush 400, 3) := by decide +kernel
theorem dX7_tune_144 : decode cX7_tune 144 = .ok (.if_icmp .ge 53, 3) := by decide +kernel
theorem dX7_tune_147 : decode cX7_tune 147 = .ok (.aload_n 0, 1) := by decide +kernel
theorem dX7_tune_148 : decode cX7_tune 148 = .ok (.getfield 46, 3) := by decide +kernel
theorem dX7_tune_151 : decode cX7_tune 151 = .ok (.iload 7, 2) := by decide +kernel
theorem dX7_tune_153 : decode cX7_tune 153 = .ok (.iaload, 1) := by decide +kernel
theorem dX7_tune_154 : decode cX7_tune 154 = .ok (.aload_n 0, 1) := by decide +kernel
theorem dX7_tune_155 : decode cX7_tune 155 = .ok (.getfield 74, 3) := by decide +kernel
theorem dX7_tune_158 : decode cX7_tune 158 = .ok (.bipush 60, 2) := by decide +kernel
theorem dX7_tune_160 : decode cX7_tune 160 = .ok (.iload_n 1, 1) := by decide +kernel
theorem dX7_tune_161 : decode cX7_tune 161 = .ok (.imul, 1) := by decide +kernel
theorem dX7_tune_162 : decode cX7_tune 162 = .ok (.iload_n 3, 1) := by decide +kernel
theorem dX7_tune_163 : decode cX7_tune 163 = .ok (.iadd, 1) := by decide +kernel
theorem dX7_tune_164 : decode cX7_tune 164 = .ok (.iload 6, 2) := by decide +kernel
theorem dX7_tune_166 : decode cX7_tune 166 = .ok (.iadd, 1) := by decide +kernel
theorem dX7_tune_167 : decode cX7_tune 167 = .ok (.iaload, 1) := by decide +kernel
theorem dX7_tune_168 : decode cX7_tune 168 = .ok (.invokestatic 166, 3) := by decide +kernel
theorem dX7_tune_171 : decode cX7_tune 171 = .ok (.ifCond .eq 20, 3) := by decide +kernel
theorem dX7_tune_174 : decode cX7_tune 174 = .ok (.iinc 6 1, 3) := by decide +kernel
theorem dX7_tune_177 : decode cX7_tune 177 = .ok (.iload 6, 2) := by decide +kernel
theorem dX7_tune_179 : decode cX7_tune 179 = .ok (.iload 4, 2) := by decide +kernel
theorem dX7_tune_181 : decode cX7_tune 181 = .ok (.if_icmp .ne 10, 3) := by decide +kernel
theorem dX7_tune_184 : decode cX7_tune 184 = .ok (.aload_n 0, 1) := by decide +kernel
theorem dX7_tune_185 : decode cX7_tune 185 = .ok (.iload 7, 2) := by decide +kernel
theorem dX7_tune_187 : decode cX7_tune 187 = .ok (.invokevirtual 133, 3) := by decide +kernel
theorem dX7_tune_190 : decode cX7_tune 190 = .ok (.ireturn, 1) := by decide +kernel
theorem dX7_tune_191 : decode cX7_tune 191 = .ok (.iinc 7 1, 3) := by decide +kernel
theorem dX7_tune_194 : decode cX7_tune 194 = .ok (.goto (-55), 3) := by decide +kernel
theorem dX7_tune_197 : decode cX7_tune 197 = .ok (.aload_n 0, 1) := by decide +kernel
theorem dX7_tune_198 : decode cX7_tune 198 = .ok (.bipush (-9), 2) := by decide +kernel
theorem dX7_tune_200 : decode cX7_tune 200 = .ok (.invokevirtual 133, 3) := by decide +kernel
theorem dX7_tune_203 : decode cX7_tune 203 = .ok (.ireturn, 1) := by decide +kernel
theorem dX7_noSheet_0 : decode cX7_noSheet 0 = .ok (.iload_n 0, 1) := by decide +kernel
theorem dX7_noSheet_1 : decode cX7_noSheet 1 = .ok (.i2l, 1) := by decide +kernel
theorem dX7_noSheet_2 : decode cX7_noSheet 2 = .ok (.lconst 0, 1) := by decide +kernel
theorem dX7_noSheet_3 : decode cX7_noSheet 3 = .ok (.ldc2_w 216, 3) := by decide +kernel
theorem dX7_noSheet_6 : decode cX7_noSheet 6 = .ok (.invokestatic 93, 3) := by decide +kernel
theorem dX7_noSheet_9 : decode cX7_noSheet 9 = .ok (.ifCond .ne 7, 3) := by decide +kernel
theorem dX7_noSheet_12 : decode cX7_noSheet 12 = .ok (.iconst 1, 1) := by decide +kernel
theorem dX7_noSheet_13 : decode cX7_noSheet 13 = .ok (.goto 4, 3) := by decide +kernel
theorem dX7_noSheet_16 : decode cX7_noSheet 16 = .ok (.iconst 0, 1) := by decide +kernel
theorem dX7_noSheet_17 : decode cX7_noSheet 17 = .ok (.ireturn, 1) := by decide +kernel
theorem dX7_sheet_0 : decode cX7_sheet 0 = .ok (.iload_n 1, 1) := by decide +kernel
theorem dX7_sheet_1 : decode cX7_sheet 1 = .ok (.invokestatic 129, 3) := by decide +kernel
theorem dX7_sheet_4 : decode cX7_sheet 4 = .ok (.ifCond .eq 9, 3) := by decide +kernel
theorem dX7_sheet_7 : decode cX7_sheet 7 = .ok (.aload_n 0, 1) := by decide +kernel
theorem dX7_sheet_8 : decode cX7_sheet 8 = .ok (.iconst (-1), 1) := by decide +kernel
theorem dX7_sheet_9 : decode cX7_sheet 9 = .ok (.invokevirtual 133, 3) := by decide +kernel
theorem dX7_sheet_12 : decode cX7_sheet 12 = .ok (.ireturn, 1) := by decide +kernel
theorem dX7_sheet_13 : decode cX7_sheet 13 = .ok (.iload_n 2, 1) := by decide +kernel
theorem dX7_sheet_14 : decode cX7_sheet 14 = .ok (.i2l, 1) := by decide +kernel
theorem dX7_sheet_15 : decode cX7_sheet 15 = .ok (.lconst 0, 1) := by decide +kernel
theorem dX7_sheet_16 : decode cX7_sheet 16 = .ok (.ldc2_w 136, 3) := by decide +kernel
theorem dX7_sheet_19 : decode cX7_sheet 19 = .ok (.invokestatic 93, 3) := by decide +kernel
theorem dX7_sheet_22 : decode cX7_sheet 22 = .ok (.ifCond .eq 9, 3) := by decide +kernel
theorem dX7_sheet_25 : decode cX7_sheet 25 = .ok (.iload_n 3, 1) := by decide +kernel
theorem dX7_sheet_26 : decode cX7_sheet 26 = .ok (.bipush 60, 2) := by decide +kernel
theorem dX7_sheet_28 : decode cX7_sheet 28 = .ok (.if_icmp .le 10, 3) := by decide +kernel
theorem dX7_sheet_31 : decode cX7_sheet 31 = .ok (.aload_n 0, 1) := by decide +kernel
theorem dX7_sheet_32 : decode cX7_sheet 32 = .ok (.bipush (-2), 2) := by decide +kernel
theorem dX7_sheet_34 : decode cX7_sheet 34 = .ok (.invokevirtual 133, 3) := by decide +kernel
theorem dX7_sheet_37 : decode cX7_sheet 37 = .ok (.ireturn, 1) := by decide +kernel
theorem dX7_sheet_38 : decode cX7_sheet 38 = .ok (.iload_n 3, 1) := by decide +kernel
theorem dX7_sheet_39 : decode cX7_sheet 39 = .ok (.ifCond .ge 9, 3) := by decide +kernel
theorem dX7_sheet_42 : decode cX7_sheet 42 = .ok (.aload_n 0, 1) := by decide +kernel
theorem dX7_sheet_43 : decode cX7_sheet 43 = .ok (.iconst 4, 1) := by decide +kernel
theorem dX7_sheet_44 : decode cX7_sheet 44 = .ok (.invokevirtual 121, 3) := by decide +kernel
theorem dX7_sheet_47 : decode cX7_sheet 47 = .ok (.ireturn, 1) := by decide +kernel
theorem dX7_sheet_48 : decode cX7_sheet 48 = .ok (.aload_n 0, 1) := by decide +kernel
theorem dX7_sheet_49 : decode cX7_sheet 49 = .ok (.getfield 68, 3) := by decide +kernel
theorem dX7_sheet_52 : decode cX7_sheet 52 = .ok (.iload_n 1, 1) := by decide +kernel
theorem dX7_sheet_53 : decode cX7_sheet 53 = .ok (.iload_n 3, 1) := by decide +kernel
theorem dX7_sheet_54 : decode cX7_sheet 54 = .ok (.iastore, 1) := by decide +kernel
theorem dX7_sheet_55 : decode cX7_sheet 55 = .ok (.aload_n 0, 1) := by decide +kernel
theorem dX7_sheet_56 : decode cX7_sheet 56 = .ok (.getfield 71, 3) := by decide +kernel
theorem dX7_sheet_59 : decode cX7_sheet 59 = .ok (.iload_n 1, 1) := by decide +kernel
theorem dX7_sheet_60 : decode cX7_sheet 60 = .ok (.iload_n 2, 1) := by decide +kernel
theorem dX7_sheet_61 : decode cX7_sheet 61 = .ok (.iastore, 1) := by decide +kernel
theorem dX7_sheet_62 : decode cX7_sheet 62 = .ok (.iconst 0, 1) := by decide +kernel
theorem dX7_sheet_63 : decode cX7_sheet 63 = .ok (.istore 4, 2) := by decide +kernel
theorem dX7_sheet_65 : decode cX7_sheet 65 = .ok (.iload 4, 2) := by decide +kernel
theorem dX7_sheet_67 : decode cX7_sheet 67 = .ok (.iload_n 3, 1) := by decide +kernel
theorem dX7_sheet_68 : decode cX7_sheet 68 = .ok (.if_icmp .ge 22, 3) := by decide +kernel
theorem dX7_sheet_71 : decode cX7_sheet 71 = .ok (.aload_n 0, 1) := by decide +kernel
theorem dX7_sheet_72 : decode cX7_sheet 72 = .ok (.getfield 74, 3) := by decide +kernel
theorem dX7_sheet_75 : decode cX7_sheet 75 = .ok (.bipush 60, 2) := by decide +kernel
theorem dX7_sheet_77 : decode cX7_sheet 77 = .ok (.iload_n 1, 1) := by decide +kernel
theorem dX7_sheet_78 : decode cX7_sheet 78 = .ok (.imul, 1) := by decide +kernel
theorem dX7_sheet_79 : decode cX7_sheet 79 = .ok (.iload 4, 2) := by decide +kernel
theorem dX7_sheet_81 : decode cX7_sheet 81 = .ok (.iadd, 1) := by decide +kernel
theorem dX7_sheet_82 : decode cX7_sheet 82 = .ok (.iconst 0, 1) := by decide +kernel
theorem dX7_sheet_83 : decode cX7_sheet 83 = .ok (.iastore, 1) := by decide +kernel
theorem dX7_sheet_84 : decode cX7_sheet 84 = .ok (.iinc 4 1, 3) := by decide +kernel
theorem dX7_sheet_87 : decode cX7_sheet 87 = .ok (.goto (-22), 3) := by decide +kernel
theorem dX7_sheet_90 : decode cX7_sheet 90 = .ok (.aload_n 0, 1) := by decide +kernel
theorem dX7_sheet_91 : decode cX7_sheet 91 = .ok (.iconst 1, 1) := by decide +kernel
theorem dX7_sheet_92 : decode cX7_sheet 92 = .ok (.invokevirtual 133, 3) := by decide +kernel
theorem dX7_sheet_95 : decode cX7_sheet 95 = .ok (.ireturn, 1) := by decide +kernel
theorem dX7_lose_0 : decode cX7_lose 0 = .ok (.iload_n 1, 1) := by decide +kernel
theorem dX7_lose_1 : decode cX7_lose 1 = .ok (.invokestatic 129, 3) := by decide +kernel
theorem dX7_lose_4 : decode cX7_lose 4 = .ok (.ifCond .eq 5, 3) := by decide +kernel
theorem dX7_lose_7 : decode cX7_lose 7 = .ok (.iconst (-1), 1) := by decide +kernel
theorem dX7_lose_8 : decode cX7_lose 8 = .ok (.ireturn, 1) := by decide +kernel
theorem dX7_lose_9 : decode cX7_lose 9 = .ok (.aload_n 0, 1) := by decide +kernel
theorem dX7_lose_10 : decode cX7_lose 10 = .ok (.getfield 68, 3) := by decide +kernel
theorem dX7_lose_13 : decode cX7_lose 13 = .ok (.iload_n 1, 1) := by decide +kernel
theorem dX7_lose_14 : decode cX7_lose 14 = .ok (.iaload, 1) := by decide +kernel
theorem dX7_lose_15 : decode cX7_lose 15 = .ok (.ifCond .ge 7, 3) := by decide +kernel
theorem dX7_lose_18 : decode cX7_lose 18 = .ok (.iconst 0, 1) := by decide +kernel
theorem dX7_lose_19 : decode cX7_lose 19 = .ok (.goto 4, 3) := by decide +kernel
theorem dX7_lose_22 : decode cX7_lose 22 = .ok (.iconst 1, 1) := by decide +kernel
theorem dX7_lose_23 : decode cX7_lose 23 = .ok (.istore_n 2, 1) := by decide +kernel
theorem dX7_lose_24 : decode cX7_lose 24 = .ok (.aload_n 0, 1) := by decide +kernel
theorem dX7_lose_25 : decode cX7_lose 25 = .ok (.getfield 68, 3) := by decide +kernel
theorem dX7_lose_28 : decode cX7_lose 28 = .ok (.iload_n 1, 1) := by decide +kernel
theorem dX7_lose_29 : decode cX7_lose 29 = .ok (.iconst (-1), 1) := by decide +kernel
theorem dX7_lose_30 : decode cX7_lose 30 = .ok (.iastore, 1) := by decide +kernel
theorem dX7_lose_31 : decode cX7_lose 31 = .ok (.iload_n 2, 1) := by decide +kernel
theorem dX7_lose_32 : decode cX7_lose 32 = .ok (.ireturn, 1) := by decide +kernel
theorem dX7_noCell_0 : decode cX7_noCell 0 = .ok (.aload_n 0, 1) := by decide +kernel
theorem dX7_noCell_1 : decode cX7_noCell 1 = .ok (.getfield 68, 3) := by decide +kernel
theorem dX7_noCell_4 : decode cX7_noCell 4 = .ok (.iload_n 1, 1) := by decide +kernel
theorem dX7_noCell_5 : decode cX7_noCell 5 = .ok (.iaload, 1) := by decide +kernel
theorem dX7_noCell_6 : decode cX7_noCell 6 = .ok (.ifCond .ge 7, 3) := by decide +kernel
theorem dX7_noCell_9 : decode cX7_noCell 9 = .ok (.iconst 1, 1) := by decide +kernel
theorem dX7_noCell_10 : decode cX7_noCell 10 = .ok (.goto 26, 3) := by decide +kernel
theorem dX7_noCell_13 : decode cX7_noCell 13 = .ok (.iload_n 2, 1) := by decide +kernel
theorem dX7_noCell_14 : decode cX7_noCell 14 = .ok (.i2l, 1) := by decide +kernel
theorem dX7_noCell_15 : decode cX7_noCell 15 = .ok (.lconst 0, 1) := by decide +kernel
theorem dX7_noCell_16 : decode cX7_noCell 16 = .ok (.aload_n 0, 1) := by decide +kernel
theorem dX7_noCell_17 : decode cX7_noCell 17 = .ok (.getfield 68, 3) := by decide +kernel
theorem dX7_noCell_20 : decode cX7_noCell 20 = .ok (.iload_n 1, 1) := by decide +kernel
theorem dX7_noCell_21 : decode cX7_noCell 21 = .ok (.iaload, 1) := by decide +kernel
theorem dX7_noCell_22 : decode cX7_noCell 22 = .ok (.i2l, 1) := by decide +kernel
theorem dX7_noCell_23 : decode cX7_noCell 23 = .ok (.lconst 1, 1) := by decide +kernel
theorem dX7_noCell_24 : decode cX7_noCell 24 = .ok (.lsub, 1) := by decide +kernel
theorem dX7_noCell_25 : decode cX7_noCell 25 = .ok (.invokestatic 93, 3) := by decide +kernel
theorem dX7_noCell_28 : decode cX7_noCell 28 = .ok (.ifCond .eq 7, 3) := by decide +kernel
theorem dX7_noCell_31 : decode cX7_noCell 31 = .ok (.iconst 0, 1) := by decide +kernel
theorem dX7_noCell_32 : decode cX7_noCell 32 = .ok (.goto 4, 3) := by decide +kernel
theorem dX7_noCell_35 : decode cX7_noCell 35 = .ok (.iconst 3, 1) := by decide +kernel
theorem dX7_noCell_36 : decode cX7_noCell 36 = .ok (.ireturn, 1) := by decide +kernel
theorem dX7_put_0 : decode cX7_put 0 = .ok (.iload_n 1, 1) := by decide +kernel
theorem dX7_put_1 : decode cX7_put 1 = .ok (.invokestatic 129, 3) := by decide +kernel
theorem dX7_put_4 : decode cX7_put 4 = .ok (.ifCond .eq 9, 3) := by decide +kernel
theorem dX7_put_7 : decode cX7_put 7 = .ok (.aload_n 0, 1) := by decide +kernel
theorem dX7_put_8 : decode cX7_put 8 = .ok (.iconst (-1), 1) := by decide +kernel
theorem dX7_put_9 : decode cX7_put 9 = .ok (.invokevirtual 133, 3) := by decide +kernel
theorem dX7_put_12 : decode cX7_put 12 = .ok (.ireturn, 1) := by decide +kernel
theorem dX7_put_13 : decode cX7_put 13 = .ok (.aload_n 0, 1) := by decide +kernel
theorem dX7_put_14 : decode cX7_put 14 = .ok (.iload_n 1, 1) := by decide +kernel
theorem dX7_put_15 : decode cX7_put 15 = .ok (.iload_n 2, 1) := by decide +kernel
theorem dX7_put_16 : decode cX7_put 16 = .ok (.invokevirtual 218, 3) := by decide +kernel
theorem dX7_put_19 : decode cX7_put 19 = .ok (.ifCond .le 14, 3) := by decide +kernel
theorem dX7_put_22 : decode cX7_put 22 = .ok (.aload_n 0, 1) := by decide +kernel
theorem dX7_put_23 : decode cX7_put 23 = .ok (.aload_n 0, 1) := by decide +kernel
theorem dX7_put_24 : decode cX7_put 24 = .ok (.iload_n 1, 1) := by decide +kernel
theorem dX7_put_25 : decode cX7_put 25 = .ok (.iload_n 2, 1) := by decide +kernel
theorem dX7_put_26 : decode cX7_put 26 = .ok (.invokevirtual 218, 3) := by decide +kernel
theorem dX7_put_29 : decode cX7_put 29 = .ok (.invokevirtual 121, 3) := by decide +kernel
theorem dX7_put_32 : decode cX7_put 32 = .ok (.ireturn, 1) := by decide +kernel
theorem dX7_put_33 : decode cX7_put 33 = .ok (.aload_n 0, 1) := by decide +kernel
theorem dX7_put_34 : decode cX7_put 34 = .ok (.getfield 74, 3) := by decide +kernel
theorem dX7_put_37 : decode cX7_put 37 = .ok (.bipush 60, 2) := by decide +kernel
theorem dX7_put_39 : decode cX7_put 39 = .ok (.iload_n 1, 1) := by decide +kernel
theorem dX7_put_40 : decode cX7_put 40 = .ok (.imul, 1) := by decide +kernel
theorem dX7_put_41 : decode cX7_put 41 = .ok (.iload_n 2, 1) := by decide +kernel
theorem dX7_put_42 : decode cX7_put 42 = .ok (.iadd, 1) := by decide +kernel
theorem dX7_put_43 : decode cX7_put 43 = .ok (.aload_n 0, 1) := by decide +kernel
theorem dX7_put_44 : decode cX7_put 44 = .ok (.getfield 71, 3) := by decide +kernel
theorem dX7_put_47 : decode cX7_put 47 = .ok (.iload_n 1, 1) := by decide +kernel
theorem dX7_put_48 : decode cX7_put 48 = .ok (.iaload, 1) := by decide +kernel
theorem dX7_put_49 : decode cX7_put 49 = .ok (.ifCond .ne 8, 3) := by decide +kernel
theorem dX7_put_52 : decode cX7_put 52 = .ok (.iload_n 3, 1) := by decide +kernel
theorem dX7_put_53 : decode cX7_put 53 = .ok (.i2b, 1) := by decide +kernel
theorem dX7_put_54 : decode cX7_put 54 = .ok (.goto 19, 3) := by decide +kernel
theorem dX7_put_57 : decode cX7_put 57 = .ok (.aload_n 0, 1) := by decide +kernel
theorem dX7_put_58 : decode cX7_put 58 = .ok (.getfield 71, 3) := by decide +kernel
theorem dX7_put_61 : decode cX7_put 61 = .ok (.iload_n 1, 1) := by decide +kernel
theorem dX7_put_62 : decode cX7_put 62 = .ok (.iaload, 1) := by decide +kernel
theorem dX7_put_63 : decode cX7_put 63 = .ok (.iconst 1, 1) := by decide +kernel
theorem dX7_put_64 : decode cX7_put 64 = .ok (.if_icmp .ne 8, 3) := by decide +kernel
theorem dX7_put_67 : decode cX7_put 67 = .ok (.iload_n 3, 1) := by decide +kernel
theorem dX7_put_68 : decode cX7_put 68 = .ok (.i2s, 1) := by decide +kernel
theorem dX7_put_69 : decode cX7_put 69 = .ok (.goto 4, 3) := by decide +kernel
theorem dX7_put_72 : decode cX7_put 72 = .ok (.iload_n 3, 1) := by decide +kernel
theorem dX7_put_73 : decode cX7_put 73 = .ok (.iastore, 1) := by decide +kernel
theorem dX7_put_74 : decode cX7_put 74 = .ok (.aload_n 0, 1) := by decide +kernel
theorem dX7_put_75 : decode cX7_put 75 = .ok (.iconst 1, 1) := by decide +kernel
theorem dX7_put_76 : decode cX7_put 76 = .ok (.invokevirtual 133, 3) := by decide +kernel
theorem dX7_put_79 : decode cX7_put 79 = .ok (.ireturn, 1) := by decide +kernel
theorem dX7_cell_0 : decode cX7_cell 0 = .ok (.aload_n 0, 1) := by decide +kernel
theorem dX7_cell_1 : decode cX7_cell 1 = .ok (.iconst 0, 1) := by decide +kernel
theorem dX7_cell_2 : decode cX7_cell 2 = .ok (.putfield 82, 3) := by decide +kernel
theorem dX7_cell_5 : decode cX7_cell 5 = .ok (.iload_n 1, 1) := by decide +kernel
theorem dX7_cell_6 : decode cX7_cell 6 = .ok (.invokestatic 129, 3) := by decide +kernel
theorem dX7_cell_9 : decode cX7_cell 9 = .ok (.ifCond .ne 15, 3) := by decide +kernel
theorem dX7_cell_12 : decode cX7_cell 12 = .ok (.iload_n 3, 1) := by decide +kernel
theorem dX7_cell_13 : decode cX7_cell 13 = .ok (.i2l, 1) := by decide +kernel
theorem dX7_cell_14 : decode cX7_cell 14 = .ok (.lconst 0, 1) := by decide +kernel
theorem dX7_cell_15 : decode cX7_cell 15 = .ok (.ldc2_w 136, 3) := by decide +kernel
theorem dX7_cell_18 : decode cX7_cell 18 = .ok (.invokestatic 93, 3) := by decide +kernel
theorem dX7_cell_21 : decode cX7_cell 21 = .ok (.ifCond .ne 7, 3) := by decide +kernel
theorem dX7_cell_24 : decode cX7_cell 24 = .ok (.invokestatic 86, 3) := by decide +kernel
theorem dX7_cell_27 : decode cX7_cell 27 = .ok (.lreturn, 1) := by decide +kernel
theorem dX7_cell_28 : decode cX7_cell 28 = .ok (.aload_n 0, 1) := by decide +kernel
theorem dX7_cell_29 : decode cX7_cell 29 = .ok (.getfield 68, 3) := by decide +kernel
theorem dX7_cell_32 : decode cX7_cell 32 = .ok (.iload_n 1, 1) := by decide +kernel
theorem dX7_cell_33 : decode cX7_cell 33 = .ok (.iaload, 1) := by decide +kernel
theorem dX7_cell_34 : decode cX7_cell 34 = .ok (.ifCond .lt 19, 3) := by decide +kernel
theorem dX7_cell_37 : decode cX7_cell 37 = .ok (.aload_n 0, 1) := by decide +kernel
theorem dX7_cell_38 : decode cX7_cell 38 = .ok (.getfield 71, 3) := by decide +kernel
theorem dX7_cell_41 : decode cX7_cell 41 = .ok (.iload_n 1, 1) := by decide +kernel
theorem dX7_cell_42 : decode cX7_cell 42 = .ok (.iaload, 1) := by decide +kernel
theorem dX7_cell_43 : decode cX7_cell 43 = .ok (.iload_n 3, 1) := by decide +kernel
theorem dX7_cell_44 : decode cX7_cell 44 = .ok (.if_icmp .eq 9, 3) := by decide +kernel
theorem dX7_cell_47 : decode cX7_cell 47 = .ok (.aload_n 0, 1) := by decide +kernel
theorem dX7_cell_48 : decode cX7_cell 48 = .ok (.iconst 2, 1) := by decide +kernel
theorem dX7_cell_49 : decode cX7_cell 49 = .ok (.invokevirtual 221, 3) := by decide +kernel
theorem dX7_cell_52 : decode cX7_cell 52 = .ok (.lreturn, 1) := by decide +kernel
theorem dX7_cell_53 : decode cX7_cell 53 = .ok (.aload_n 0, 1) := by decide +kernel
theorem dX7_cell_54 : decode cX7_cell 54 = .ok (.iload_n 1, 1) := by decide +kernel
theorem dX7_cell_55 : decode cX7_cell 55 = .ok (.iload_n 2, 1) := by decide +kernel
theorem dX7_cell_56 : decode cX7_cell 56 = .ok (.invokevirtual 218, 3) := by decide +kernel
theorem dX7_cell_59 : decode cX7_cell 59 = .ok (.ifCond .le 16, 3) := by decide +kernel
theorem dX7_cell_62 : decode cX7_cell 62 = .ok (.aload_n 0, 1) := by decide +kernel
theorem dX7_cell_63 : decode cX7_cell 63 = .ok (.aload_n 0, 1) := by decide +kernel
theorem dX7_cell_64 : decode cX7_cell 64 = .ok (.iload_n 1, 1) := by decide +kernel
theorem dX7_cell_65 : decode cX7_cell 65 = .ok (.iload_n 2, 1) := by decide +kernel
theorem dX7_cell_66 : decode cX7_cell 66 = .ok (.invokevirtual 218, 3) := by decide +kernel
theorem dX7_cell_69 : decode cX7_cell 69 = .ok (.invokevirtual 221, 3) := by decide +kernel
theorem dX7_cell_72 : decode cX7_cell 72 = .ok (.goto 15, 3) := by decide +kernel
theorem dX7_cell_75 : decode cX7_cell 75 = .ok (.aload_n 0, 1) := by decide +kernel
theorem dX7_cell_76 : decode cX7_cell 76 = .ok (.getfield 74, 3) := by decide +kernel
theorem dX7_cell_79 : decode cX7_cell 79 = .ok (.bipush 60, 2) := by decide +kernel
theorem dX7_cell_81 : decode cX7_cell 81 = .ok (.iload_n 1, 1) := by decide +kernel
theorem dX7_cell_82 : decode cX7_cell 82 = .ok (.imul, 1) := by decide +kernel
theorem dX7_cell_83 : decode cX7_cell 83 = .ok (.iload_n 2, 1) := by decide +kernel
theorem dX7_cell_84 : decode cX7_cell 84 = .ok (.iadd, 1) := by decide +kernel
theorem dX7_cell_85 : decode cX7_cell 85 = .ok (.iaload, 1) := by decide +kernel
theorem dX7_cell_86 : decode cX7_cell 86 = .ok (.i2l, 1) := by decide +kernel
theorem dX7_cell_87 : decode cX7_cell 87 = .ok (.lreturn, 1) := by decide +kernel
theorem dX7_isBeyond_0 : decode cX7_isBeyond 0 = .ok (.iload_n 0, 1) := by decide +kernel
theorem dX7_isBeyond_1 : decode cX7_isBeyond 1 = .ok (.ifCond .lt 19, 3) := by decide +kernel
theorem dX7_isBeyond_4 : decode cX7_isBeyond 4 = .ok (.lload_n 1, 1) := by decide +kernel
theorem dX7_isBeyond_5 : decode cX7_isBeyond 5 = .ok (.lconst 0, 1) := by decide +kernel
theorem dX7_isBeyond_6 : decode cX7_isBeyond 6 = .ok (.lcmp, 1) := by decide +kernel
theorem dX7_isBeyond_7 : decode cX7_isBeyond 7 = .ok (.ifCond .lt 13, 3) := by decide +kernel
theorem dX7_isBeyond_10 : decode cX7_isBeyond 10 = .ok (.iload_n 0, 1) := by decide +kernel
theorem dX7_isBeyond_11 : decode cX7_isBeyond 11 = .ok (.i2l, 1) := by decide +kernel
theorem dX7_isBeyond_12 : decode cX7_isBeyond 12 = .ok (.lload_n 1, 1) := by decide +kernel
theorem dX7_isBeyond_13 : decode cX7_isBeyond 13 = .ok (.ladd, 1) := by decide +kernel
theorem dX7_isBeyond_14 : decode cX7_isBeyond 14 = .ok (.iload_n 3, 1) := by decide +kernel
theorem dX7_isBeyond_15 : decode cX7_isBeyond 15 = .ok (.i2l, 1) := by decide +kernel
theorem dX7_isBeyond_16 : decode cX7_isBeyond 16 = .ok (.lcmp, 1) := by decide +kernel
theorem dX7_isBeyond_17 : decode cX7_isBeyond 17 = .ok (.ifCond .le 7, 3) := by decide +kernel
theorem dX7_isBeyond_20 : decode cX7_isBeyond 20 = .ok (.iconst 1, 1) := by decide +kernel
theorem dX7_isBeyond_21 : decode cX7_isBeyond 21 = .ok (.goto 4, 3) := by decide +kernel
theorem dX7_isBeyond_24 : decode cX7_isBeyond 24 = .ok (.iconst 0, 1) := by decide +kernel
theorem dX7_isBeyond_25 : decode cX7_isBeyond 25 = .ok (.ireturn, 1) := by decide +kernel
theorem dX7_copy_0 : decode cX7_copy 0 = .ok (.iload_n 1, 1) := by decide +kernel
theorem dX7_copy_1 : decode cX7_copy 1 = .ok (.invokestatic 129, 3) := by decide +kernel
theorem dX7_copy_4 : decode cX7_copy 4 = .ok (.ifCond .ne 10, 3) := by decide +kernel
theorem dX7_copy_7 : decode cX7_copy 7 = .ok (.iload_n 3, 1) := by decide +kernel
theorem dX7_copy_8 : decode cX7_copy 8 = .ok (.invokestatic 129, 3) := by decide +kernel
theorem dX7_copy_11 : decode cX7_copy 11 = .ok (.ifCond .eq 9, 3) := by decide +kernel
theorem dX7_copy_14 : decode cX7_copy 14 = .ok (.aload_n 0, 1) := by decide +kernel
theorem dX7_copy_15 : decode cX7_copy 15 = .ok (.iconst (-1), 1) := by decide +kernel
theorem dX7_copy_16 : decode cX7_copy 16 = .ok (.invokevirtual 133, 3) := by decide +kernel
theorem dX7_copy_19 : decode cX7_copy 19 = .ok (.ireturn, 1) := by decide +kernel
theorem dX7_copy_20 : decode cX7_copy 20 = .ok (.aload_n 0, 1) := by decide +kernel
theorem dX7_copy_21 : decode cX7_copy 21 = .ok (.getfield 68, 3) := by decide +kernel
theorem dX7_copy_24 : decode cX7_copy 24 = .ok (.iload_n 1, 1) := by decide +kernel
theorem dX7_copy_25 : decode cX7_copy 25 = .ok (.iaload, 1) := by decide +kernel
theorem dX7_copy_26 : decode cX7_copy 26 = .ok (.ifCond .lt 12, 3) := by decide +kernel
theorem dX7_copy_29 : decode cX7_copy 29 = .ok (.aload_n 0, 1) := by decide +kernel
theorem dX7_copy_30 : decode cX7_copy 30 = .ok (.getfield 68, 3) := by decide +kernel
theorem dX7_copy_33 : decode cX7_copy 33 = .ok (.iload_n 3, 1) := by decide +kernel
theorem dX7_copy_34 : decode cX7_copy 34 = .ok (.iaload, 1) := by decide +kernel
theorem dX7_copy_35 : decode cX7_copy 35 = .ok (.ifCond .ge 9, 3) := by decide +kernel
theorem dX7_copy_38 : decode cX7_copy 38 = .ok (.aload_n 0, 1) := by decide +kernel
theorem dX7_copy_39 : decode cX7_copy 39 = .ok (.iconst 1, 1) := by decide +kernel
theorem dX7_copy_40 : decode cX7_copy 40 = .ok (.invokevirtual 121, 3) := by decide +kernel
theorem dX7_copy_43 : decode cX7_copy 43 = .ok (.ireturn, 1) := by decide +kernel
theorem dX7_copy_44 : decode cX7_copy 44 = .ok (.aload_n 0, 1) := by decide +kernel
theorem dX7_copy_45 : decode cX7_copy 45 = .ok (.getfield 71, 3) := by decide +kernel
theorem dX7_copy_48 : decode cX7_copy 48 = .ok (.iload_n 1, 1) := by decide +kernel
theorem dX7_copy_49 : decode cX7_copy 49 = .ok (.iaload, 1) := by decide +kernel
theorem dX7_copy_50 : decode cX7_copy 50 = .ok (.aload_n 0, 1) := by decide +kernel
theorem dX7_copy_51 : decode cX7_copy 51 = .ok (.getfield 71, 3) := by decide +kernel
theorem dX7_copy_54 : decode cX7_copy 54 = .ok (.iload_n 3, 1) := by decide +kernel
theorem dX7_copy_55 : decode cX7_copy 55 = .ok (.iaload, 1) := by decide +kernel
theorem dX7_copy_56 : decode cX7_copy 56 = .ok (.if_icmp .eq 9, 3) := by decide +kernel
theorem dX7_copy_59 : decode cX7_copy 59 = .ok (.aload_n 0, 1) := by decide +kernel
theorem dX7_copy_60 : decode cX7_copy 60 = .ok (.iconst 2, 1) := by decide +kernel
theorem dX7_copy_61 : decode cX7_copy 61 = .ok (.invokevirtual 121, 3) := by decide +kernel
theorem dX7_copy_64 : decode cX7_copy 64 = .ok (.ireturn, 1) := by decide +kernel
theorem dX7_copy_65 : decode cX7_copy 65 = .ok (.iload_n 2, 1) := by decide +kernel
theorem dX7_copy_66 : decode cX7_copy 66 = .ok (.iload 5, 2) := by decide +kernel
theorem dX7_copy_68 : decode cX7_copy 68 = .ok (.i2l, 1) := by decide +kernel
theorem dX7_copy_69 : decode cX7_copy 69 = .ok (.aload_n 0, 1) := by decide +kernel
theorem dX7_copy_70 : decode cX7_copy 70 = .ok (.getfield 68, 3) := by decide +kernel
theorem dX7_copy_73 : decode cX7_copy 73 = .ok (.iload_n 1, 1) := by decide +kernel
theorem dX7_copy_74 : decode cX7_copy 74 = .ok (.iaload, 1) := by decide +kernel
theorem dX7_copy_75 : decode cX7_copy 75 = .ok (.invokestatic 125, 3) := by decide +kernel
theorem dX7_copy_78 : decode cX7_copy 78 = .ok (.ifCond .ne 20, 3) := by decide +kernel
theorem dX7_copy_81 : decode cX7_copy 81 = .ok (.iload 4, 2) := by decide +kernel
theorem dX7_copy_83 : decode cX7_copy 83 = .ok (.iload 5, 2) := by decide +kernel
theorem dX7_copy_85 : decode cX7_copy 85 = .ok (.i2l, 1) := by decide +kernel
theorem dX7_copy_86 : decode cX7_copy 86 = .ok (.aload_n 0, 1) := by decide +kernel
theorem dX7_copy_87 : decode cX7_copy 87 = .ok (.getfield 68, 3) := by decide +kernel
theorem dX7_copy_90 : decode cX7_copy 90 = .ok (.iload_n 3, 1) := by decide +kernel
theorem dX7_copy_91 : decode cX7_copy 91 = .ok (.iaload, 1) := by decide +kernel
theorem dX7_copy_92 : decode cX7_copy 92 = .ok (.invokestatic 125, 3) := by decide +kernel
theorem dX7_copy_95 : decode cX7_copy 95 = .ok (.ifCond .eq 9, 3) := by decide +kernel
theorem dX7_copy_98 : decode cX7_copy 98 = .ok (.aload_n 0, 1) := by decide +kernel
theorem dX7_copy_99 : decode cX7_copy 99 = .ok (.iconst 3, 1) := by decide +kernel
theorem dX7_copy_100 : decode cX7_copy 100 = .ok (.invokevirtual 121, 3) := by decide +kernel
theorem dX7_copy_103 : decode cX7_copy 103 = .ok (.ireturn, 1) := by decide +kernel
theorem dX7_copy_104 : decode cX7_copy 104 = .ok (.iconst 0, 1) := by decide +kernel
theorem dX7_copy_105 : decode cX7_copy 105 = .ok (.istore 6, 2) := by decide +kernel
theorem dX7_copy_107 : decode cX7_copy 107 = .ok (.iload 6, 2) := by decide +kernel
theorem dX7_copy_109 : decode cX7_copy 109 = .ok (.iload 5, 2) := by decide +kernel
theorem dX7_copy_111 : decode cX7_copy 111 = .ok (.if_icmp .ge 30, 3) := by decide +kernel
theorem dX7_copy_114 : decode cX7_copy 114 = .ok (.aload_n 0, 1) := by decide +kernel
theorem dX7_copy_115 : decode cX7_copy 115 = .ok (.getfield 77, 3) := by decide +kernel
theorem dX7_copy_118 : decode cX7_copy 118 = .ok (.iload 6, 2) := by decide +kernel
theorem dX7_copy_120 : decode cX7_copy 120 = .ok (.aload_n 0, 1) := by decide +kernel
theorem dX7_copy_121 : decode cX7_copy 121 = .ok (.getfield 74, 3) := by decide +kernel
theorem dX7_copy_124 : decode cX7_copy 124 = .ok (.bipush 60, 2) := by decide +kernel
theorem dX7_copy_126 : decode cX7_copy 126 = .ok (.iload_n 1, 1) := by decide +kernel
theorem dX7_copy_127 : decode cX7_copy 127 = .ok (.imul, 1) := by decide +kernel
theorem dX7_copy_128 : decode cX7_copy 128 = .ok (.iload_n 2, 1) := by decide +kernel
theorem dX7_copy_129 : decode cX7_copy 129 = .ok (.iadd, 1) := by decide +kernel
theorem dX7_copy_130 : decode cX7_copy 130 = .ok (.iload 6, 2) := by decide +kernel
theorem dX7_copy_132 : decode cX7_copy 132 = .ok (.iadd, 1) := by decide +kernel
theorem dX7_copy_133 : decode cX7_copy 133 = .ok (.iaload, 1) := by decide +kernel
theorem dX7_copy_134 : decode cX7_copy 134 = .ok (.iastore, 1) := by decide +kernel
theorem dX7_copy_135 : decode cX7_copy 135 = .ok (.iinc 6 1, 3) := by decide +kernel
theorem dX7_copy_138 : decode cX7_copy 138 = .ok (.goto (-31), 3) := by decide +kernel
theorem dX7_copy_141 : decode cX7_copy 141 = .ok (.iconst 0, 1) := by decide +kernel
theorem dX7_copy_142 : decode cX7_copy 142 = .ok (.istore 6, 2) := by decide +kernel
theorem dX7_copy_144 : decode cX7_copy 144 = .ok (.iload 6, 2) := by decide +kernel
theorem dX7_copy_146 : decode cX7_copy 146 = .ok (.iload 5, 2) := by decide +kernel
theorem dX7_copy_148 : decode cX7_copy 148 = .ok (.if_icmp .ge 31, 3) := by decide +kernel
theorem dX7_copy_151 : decode cX7_copy 151 = .ok (.aload_n 0, 1) := by decide +kernel
theorem dX7_copy_152 : decode cX7_copy 152 = .ok (.getfield 74, 3) := by decide +kernel
theorem dX7_copy_155 : decode cX7_copy 155 = .ok (.bipush 60, 2) := by decide +kernel
theorem dX7_copy_157 : decode cX7_copy 157 = .ok (.iload_n 3, 1) := by decide +kernel
theorem dX7_copy_158 : decode cX7_copy 158 = .ok (.imul, 1) := by decide +kernel
theorem dX7_copy_159 : decode cX7_copy 159 = .ok (.iload 4, 2) := by decide +kernel
theorem dX7_copy_161 : decode cX7_copy 161 = .ok (.iadd, 1) := by decide +kernel
theorem dX7_copy_162 : decode cX7_copy 162 = .ok (.iload 6, 2) := by decide +kernel
theorem dX7_copy_164 : decode cX7_copy 164 = .ok (.iadd, 1) := by decide +kernel
theorem dX7_copy_165 : decode cX7_copy 165 = .ok (.aload_n 0, 1) := by decide +kernel
theorem dX7_copy_166 : decode cX7_copy 166 = .ok (.getfield 77, 3) := by decide +kernel
theorem dX7_copy_169 : decode cX7_copy 169 = .ok (.iload 6, 2) := by decide +kernel
theorem dX7_copy_171 : decode cX7_copy 171 = .ok (.iaload, 1) := by decide +kernel
theorem dX7_copy_172 : decode cX7_copy 172 = .ok (.iastore, 1) := by decide +kernel
theorem dX7_copy_173 : decode cX7_copy 173 = .ok (.iinc 6 1, 3) := by decide +kernel
theorem dX7_copy_176 : decode cX7_copy 176 = .ok (.goto (-32), 3) := by decide +kernel
theorem dX7_copy_179 : decode cX7_copy 179 = .ok (.aload_n 0, 1) := by decide +kernel
theorem dX7_copy_180 : decode cX7_copy 180 = .ok (.iload 5, 2) := by decide +kernel
theorem dX7_copy_182 : decode cX7_copy 182 = .ok (.invokevirtual 133, 3) := by decide +kernel
theorem dX7_copy_185 : decode cX7_copy 185 = .ok (.ireturn, 1) := by decide +kernel
theorem dX7_traced_0 : decode cX7_traced 0 = .ok (.aload_n 0, 1) := by decide +kernel
theorem dX7_traced_1 : decode cX7_traced 1 = .ok (.bipush 31, 2) := by decide +kernel
theorem dX7_traced_3 : decode cX7_traced 3 = .ok (.aload_n 0, 1) := by decide +kernel
theorem dX7_traced_4 : decode cX7_traced 4 = .ok (.getfield 225, 3) := by decide +kernel
theorem dX7_traced_7 : decode cX7_traced 7 = .ok (.imul, 1) := by decide +kernel
theorem dX7_traced_8 : decode cX7_traced 8 = .ok (.iload_n 1, 1) := by decide +kernel
theorem dX7_traced_9 : decode cX7_traced 9 = .ok (.iadd, 1) := by decide +kernel
theorem dX7_traced_10 : decode cX7_traced 10 = .ok (.putfield 225, 3) := by decide +kernel
theorem dX7_traced_13 : decode cX7_traced 13 = .ok (.return_, 1) := by decide +kernel
theorem dX7_tell_0 : decode cX7_tell 0 = .ok (.aload_n 0, 1) := by decide +kernel
theorem dX7_tell_1 : decode cX7_tell 1 = .ok (.iload_n 1, 1) := by decide +kernel
theorem dX7_tell_2 : decode cX7_tell 2 = .ok (.invokevirtual 160, 3) := by decide +kernel
theorem dX7_tell_5 : decode cX7_tell 5 = .ok (.ifCond .eq 5, 3) := by decide +kernel
theorem dX7_tell_8 : decode cX7_tell 8 = .ok (.iconst (-1), 1) := by decide +kernel
theorem dX7_tell_9 : decode cX7_tell 9 = .ok (.ireturn, 1) := by decide +kernel
theorem dX7_tell_10 : decode cX7_tell 10 = .ok (.aload_n 0, 1) := by decide +kernel
theorem dX7_tell_11 : decode cX7_tell 11 = .ok (.getfield 7, 3) := by decide +kernel
theorem dX7_tell_14 : decode cX7_tell 14 = .ok (.iload_n 1, 1) := by decide +kernel
theorem dX7_tell_15 : decode cX7_tell 15 = .ok (.iaload, 1) := by decide +kernel
theorem dX7_tell_16 : decode cX7_tell 16 = .ok (.istore_n 2, 1) := by decide +kernel
theorem dX7_tell_17 : decode cX7_tell 17 = .ok (.iload_n 2, 1) := by decide +kernel
theorem dX7_tell_18 : decode cX7_tell 18 = .ok (.iconst 2, 1) := by decide +kernel
theorem dX7_tell_19 : decode cX7_tell 19 = .ok (.if_icmp .ne 8, 3) := by decide +kernel
theorem dX7_tell_22 : decode cX7_tell 22 = .ok (.aload_n 0, 1) := by decide +kernel
theorem dX7_tell_23 : decode cX7_tell 23 = .ok (.iconst 3, 1) := by decide +kernel
theorem dX7_tell_24 : decode cX7_tell 24 = .ok (.invokevirtual 228, 3) := by decide +kernel
theorem dX7_tell_27 : decode cX7_tell 27 = .ok (.iload_n 2, 1) := by decide +kernel
theorem dX7_tell_28 : decode cX7_tell 28 = .ok (.ifCond .le 8, 3) := by decide +kernel
theorem dX7_tell_31 : decode cX7_tell 31 = .ok (.aload_n 0, 1) := by decide +kernel
theorem dX7_tell_32 : decode cX7_tell 32 = .ok (.iconst 2, 1) := by decide +kernel
theorem dX7_tell_33 : decode cX7_tell 33 = .ok (.invokevirtual 228, 3) := by decide +kernel
theorem dX7_tell_36 : decode cX7_tell 36 = .ok (.aload_n 0, 1) := by decide +kernel
theorem dX7_tell_37 : decode cX7_tell 37 = .ok (.iconst 1, 1) := by decide +kernel
theorem dX7_tell_38 : decode cX7_tell 38 = .ok (.invokevirtual 228, 3) := by decide +kernel
theorem dX7_tell_41 : decode cX7_tell 41 = .ok (.iload_n 2, 1) := by decide +kernel
theorem dX7_tell_42 : decode cX7_tell 42 = .ok (.iconst 2, 1) := by decide +kernel
theorem dX7_tell_43 : decode cX7_tell 43 = .ok (.if_icmp .ne 8, 3) := by decide +kernel
theorem dX7_tell_46 : decode cX7_tell 46 = .ok (.aload_n 0, 1) := by decide +kernel
theorem dX7_tell_47 : decode cX7_tell 47 = .ok (.iconst 1, 1) := by decide +kernel
theorem dX7_tell_48 : decode cX7_tell 48 = .ok (.invokevirtual 228, 3) := by decide +kernel
theorem dX7_tell_51 : decode cX7_tell 51 = .ok (.aload_n 0, 1) := by decide +kernel
theorem dX7_tell_52 : decode cX7_tell 52 = .ok (.getfield 13, 3) := by decide +kernel
theorem dX7_tell_55 : decode cX7_tell 55 = .ok (.iload_n 1, 1) := by decide +kernel
theorem dX7_tell_56 : decode cX7_tell 56 = .ok (.iaload, 1) := by decide +kernel
theorem dX7_tell_57 : decode cX7_tell 57 = .ok (.istore_n 3, 1) := by decide +kernel
theorem dX7_tell_58 : decode cX7_tell 58 = .ok (.iload_n 2, 1) := by decide +kernel
theorem dX7_tell_59 : decode cX7_tell 59 = .ok (.ifCond .ne 7, 3) := by decide +kernel
theorem dX7_tell_62 : decode cX7_tell 62 = .ok (.iload_n 3, 1) := by decide +kernel
theorem dX7_tell_63 : decode cX7_tell 63 = .ok (.goto 21, 3) := by decide +kernel
theorem dX7_tell_66 : decode cX7_tell 66 = .ok (.iload_n 2, 1) := by decide +kernel
theorem dX7_tell_67 : decode cX7_tell 67 = .ok (.iconst 1, 1) := by decide +kernel
theorem dX7_tell_68 : decode cX7_tell 68 = .ok (.if_icmp .ne 10, 3) := by decide +kernel
theorem dX7_tell_71 : decode cX7_tell 71 = .ok (.iload_n 3, 1) := by decide +kernel
theorem dX7_tell_72 : decode cX7_tell 72 = .ok (.bipush 100, 2) := by decide +kernel
theorem dX7_tell_74 : decode cX7_tell 74 = .ok (.iadd, 1) := by decide +kernel
theorem dX7_tell_75 : decode cX7_tell 75 = .ok (.goto 9, 3) := by decide +kernel
theorem dX7_tell_78 : decode cX7_tell 78 = .ok (.iconst 2, 1) := by decide +kernel
theorem dX7_tell_79 : decode cX7_tell 79 = .ok (.iload_n 3, 1) := by decide +kernel
theorem dX7_tell_80 : decode cX7_tell 80 = .ok (.imul, 1) := by decide +kernel
theorem dX7_tell_81 : decode cX7_tell 81 = .ok (.bipush 100, 2) := by decide +kernel
theorem dX7_tell_83 : decode cX7_tell 83 = .ok (.iadd, 1) := by decide +kernel
theorem dX7_tell_84 : decode cX7_tell 84 = .ok (.ireturn, 1) := by decide +kernel
theorem dX7_hail_0 : decode cX7_hail 0 = .ok (.aload_n 0, 1) := by decide +kernel
theorem dX7_hail_1 : decode cX7_hail 1 = .ok (.iload_n 1, 1) := by decide +kernel
theorem dX7_hail_2 : decode cX7_hail 2 = .ok (.invokevirtual 160, 3) := by decide +kernel
theorem dX7_hail_5 : decode cX7_hail 5 = .ok (.ifCond .eq 5, 3) := by decide +kernel
theorem dX7_hail_8 : decode cX7_hail 8 = .ok (.iconst (-1), 1) := by decide +kernel
theorem dX7_hail_9 : decode cX7_hail 9 = .ok (.ireturn, 1) := by decide +kernel
theorem dX7_hail_10 : decode cX7_hail 10 = .ok (.aload_n 0, 1) := by decide +kernel
theorem dX7_hail_11 : decode cX7_hail 11 = .ok (.aload_n 0, 1) := by decide +kernel
theorem dX7_hail_12 : decode cX7_hail 12 = .ok (.getfield 7, 3) := by decide +kernel
theorem dX7_hail_15 : decode cX7_hail 15 = .ok (.iload_n 1, 1) := by decide +kernel
theorem dX7_hail_16 : decode cX7_hail 16 = .ok (.iaload, 1) := by decide +kernel
theorem dX7_hail_17 : decode cX7_hail 17 = .ok (.iconst 2, 1) := by decide +kernel
theorem dX7_hail_18 : decode cX7_hail 18 = .ok (.if_icmp .ne 7, 3) := by decide +kernel
theorem dX7_hail_21 : decode cX7_hail 21 = .ok (.iconst 5, 1) := by decide +kernel
theorem dX7_hail_22 : decode cX7_hail 22 = .ok (.goto 4, 3) := by decide +kernel
theorem dX7_hail_25 : decode cX7_hail 25 = .ok (.iconst 4, 1) := by decide +kernel
theorem dX7_hail_26 : decode cX7_hail 26 = .ok (.invokevirtual 228, 3) := by decide +kernel
theorem dX7_hail_29 : decode cX7_hail 29 = .ok (.aload_n 0, 1) := by decide +kernel
theorem dX7_hail_30 : decode cX7_hail 30 = .ok (.getfield 7, 3) := by decide +kernel
theorem dX7_hail_33 : decode cX7_hail 33 = .ok (.iload_n 1, 1) := by decide +kernel
theorem dX7_hail_34 : decode cX7_hail 34 = .ok (.iaload, 1) := by decide +kernel
theorem dX7_hail_35 : decode cX7_hail 35 = .ok (.iconst 2, 1) := by decide +kernel
theorem dX7_hail_36 : decode cX7_hail 36 = .ok (.if_icmp .ne 8, 3) := by decide +kernel
theorem dX7_hail_39 : decode cX7_hail 39 = .ok (.bipush 90, 2) := by decide +kernel
theorem dX7_hail_41 : decode cX7_hail 41 = .ok (.goto 4, 3) := by decide +kernel
theorem dX7_hail_44 : decode cX7_hail 44 = .ok (.iload_n 1, 1) := by decide +kernel
theorem dX7_hail_45 : decode cX7_hail 45 = .ok (.ireturn, 1) := by decide +kernel
theorem dX7_as_0 : decode cX7_as 0 = .ok (.aload_n 0, 1) := by decide +kernel
theorem dX7_as_1 : decode cX7_as 1 = .ok (.iload_n 1, 1) := by decide +kernel
theorem dX7_as_2 : decode cX7_as 2 = .ok (.invokevirtual 160, 3) := by decide +kernel
theorem dX7_as_5 : decode cX7_as 5 = .ok (.ifCond .eq 9, 3) := by decide +kernel
theorem dX7_as_8 : decode cX7_as 8 = .ok (.aload_n 0, 1) := by decide +kernel
theorem dX7_as_9 : decode cX7_as 9 = .ok (.iconst (-1), 1) := by decide +kernel
theorem dX7_as_10 : decode cX7_as 10 = .ok (.invokevirtual 133, 3) := by decide +kernel
theorem dX7_as_13 : decode cX7_as 13 = .ok (.ireturn, 1) := by decide +kernel
theorem dX7_as_14 : decode cX7_as 14 = .ok (.iload_n 2, 1) := by decide +kernel
theorem dX7_as_15 : decode cX7_as 15 = .ok (.i2l, 1) := by decide +kernel
theorem dX7_as_16 : decode cX7_as 16 = .ok (.lconst 0, 1) := by decide +kernel
theorem dX7_as_17 : decode cX7_as 17 = .ok (.ldc2_w 136, 3) := by decide +kernel
theorem dX7_as_20 : decode cX7_as 20 = .ok (.invokestatic 93, 3) := by decide +kernel
theorem dX7_as_23 : decode cX7_as 23 = .ok (.ifCond .ne 10, 3) := by decide +kernel
theorem dX7_as_26 : decode cX7_as 26 = .ok (.aload_n 0, 1) := by decide +kernel
theorem dX7_as_27 : decode cX7_as 27 = .ok (.bipush (-2), 2) := by decide +kernel
theorem dX7_as_29 : decode cX7_as 29 = .ok (.invokevirtual 133, 3) := by decide +kernel
theorem dX7_as_32 : decode cX7_as 32 = .ok (.ireturn, 1) := by decide +kernel
theorem dX7_as_33 : decode cX7_as 33 = .ok (.aload_n 0, 1) := by decide +kernel
theorem dX7_as_34 : decode cX7_as 34 = .ok (.getfield 7, 3) := by decide +kernel
theorem dX7_as_37 : decode cX7_as 37 = .ok (.iload_n 1, 1) := by decide +kernel
theorem dX7_as_38 : decode cX7_as 38 = .ok (.iaload, 1) := by decide +kernel
theorem dX7_as_39 : decode cX7_as 39 = .ok (.iload_n 2, 1) := by decide +kernel
theorem dX7_as_40 : decode cX7_as 40 = .ok (.if_icmp .lt 11, 3) := by decide +kernel
theorem dX7_as_43 : decode cX7_as 43 = .ok (.aload_n 0, 1) := by decide +kernel
theorem dX7_as_44 : decode cX7_as 44 = .ok (.iconst 1, 1) := by decide +kernel
theorem dX7_as_45 : decode cX7_as 45 = .ok (.invokevirtual 133, 3) := by decide +kernel
theorem dX7_as_48 : decode cX7_as 48 = .ok (.goto 8, 3) := by decide +kernel
theorem dX7_as_51 : decode cX7_as 51 = .ok (.aload_n 0, 1) := by decide +kernel
theorem dX7_as_52 : decode cX7_as 52 = .ok (.iconst 2, 1) := by decide +kernel
theorem dX7_as_53 : decode cX7_as 53 = .ok (.invokevirtual 121, 3) := by decide +kernel
theorem dX7_as_56 : decode cX7_as 56 = .ok (.ireturn, 1) := by decide +kernel
theorem dX7_trace_0 : decode cX7_trace 0 = .ok (.aload_n 0, 1) := by decide +kernel
theorem dX7_trace_1 : decode cX7_trace 1 = .ok (.getfield 225, 3) := by decide +kernel
theorem dX7_trace_4 : decode cX7_trace 4 = .ok (.ireturn, 1) := by decide +kernel
theorem dX7_fault_0 : decode cX7_fault 0 = .ok (.aload_n 0, 1) := by decide +kernel
theorem dX7_fault_1 : decode cX7_fault 1 = .ok (.getfield 82, 3) := by decide +kernel
theorem dX7_fault_4 : decode cX7_fault 4 = .ok (.ireturn, 1) := by decide +kernel
theorem dX7_many_0 : decode cX7_many 0 = .ok (.iload_n 1, 1) := by decide +kernel
theorem dX7_many_1 : decode cX7_many 1 = .ok (.tableswitch 60 0 4 #[35, 40, 45, 50, 55], 35) := by decide +kernel
theorem dX7_many_36 : decode cX7_many 36 = .ok (.aload_n 0, 1) := by decide +kernel
theorem dX7_many_37 : decode cX7_many 37 = .ok (.getfield 90, 3) := by decide +kernel
theorem dX7_many_40 : decode cX7_many 40 = .ok (.ireturn, 1) := by decide +kernel
theorem dX7_many_41 : decode cX7_many 41 = .ok (.aload_n 0, 1) := by decide +kernel
theorem dX7_many_42 : decode cX7_many 42 = .ok (.getfield 145, 3) := by decide +kernel
theorem dX7_many_45 : decode cX7_many 45 = .ok (.ireturn, 1) := by decide +kernel
theorem dX7_many_46 : decode cX7_many 46 = .ok (.aload_n 0, 1) := by decide +kernel
theorem dX7_many_47 : decode cX7_many 47 = .ok (.getfield 154, 3) := by decide +kernel
theorem dX7_many_50 : decode cX7_many 50 = .ok (.ireturn, 1) := by decide +kernel
theorem dX7_many_51 : decode cX7_many 51 = .ok (.aload_n 0, 1) := by decide +kernel
theorem dX7_many_52 : decode cX7_many 52 = .ok (.getfield 157, 3) := by decide +kernel
theorem dX7_many_55 : decode cX7_many 55 = .ok (.ireturn, 1) := by decide +kernel
theorem dX7_many_56 : decode cX7_many 56 = .ok (.aload_n 0, 1) := by decide +kernel
theorem dX7_many_57 : decode cX7_many 57 = .ok (.getfield 151, 3) := by decide +kernel
theorem dX7_many_60 : decode cX7_many 60 = .ok (.ireturn, 1) := by decide +kernel
theorem dX7_many_61 : decode cX7_many 61 = .ok (.bipush (-2), 2) := by decide +kernel
theorem dX7_many_63 : decode cX7_many 63 = .ok (.ireturn, 1) := by decide +kernel
theorem dL_law_0 : decode cL_law 0 = .ok (.new 7, 3) := by decide +kernel
theorem dL_law_3 : decode cL_law 3 = .ok (.dup, 1) := by decide +kernel
theorem dL_law_4 : decode cL_law 4 = .ok (.invokespecial 9, 3) := by decide +kernel
theorem dL_law_7 : decode cL_law 7 = .ok (.astore_n 1, 1) := by decide +kernel
theorem dL_law_8 : decode cL_law 8 = .ok (.new 10, 3) := by decide +kernel
theorem dL_law_11 : decode cL_law 11 = .ok (.dup, 1) := by decide +kernel
theorem dL_law_12 : decode cL_law 12 = .ok (.invokespecial 12, 3) := by decide +kernel
theorem dL_law_15 : decode cL_law 15 = .ok (.astore_n 2, 1) := by decide +kernel
theorem dL_law_16 : decode cL_law 16 = .ok (.iconst 0, 1) := by decide +kernel
theorem dL_law_17 : decode cL_law 17 = .ok (.istore_n 3, 1) := by decide +kernel
theorem dL_law_18 : decode cL_law 18 = .ok (.iload_n 3, 1) := by decide +kernel
theorem dL_law_19 : decode cL_law 19 = .ok (.aload_n 0, 1) := by decide +kernel
theorem dL_law_20 : decode cL_law 20 = .ok (.arraylength, 1) := by decide +kernel
theorem dL_law_21 : decode cL_law 21 = .ok (.bipush 6, 2) := by decide +kernel
theorem dL_law_23 : decode cL_law 23 = .ok (.isub, 1) := by decide +kernel
theorem dL_law_24 : decode cL_law 24 = .ok (.if_icmp .gt 1108, 3) := by decide +kernel
theorem dL_law_27 : decode cL_law 27 = .ok (.aload_n 0, 1) := by decide +kernel
theorem dL_law_28 : decode cL_law 28 = .ok (.iload_n 3, 1) := by decide +kernel
theorem dL_law_29 : decode cL_law 29 = .ok (.iaload, 1) := by decide +kernel
theorem dL_law_30 : decode cL_law 30 = .ok (.bipush 31, 2) := by decide +kernel
theorem dL_law_32 : decode cL_law 32 = .ok (.iand, 1) := by decide +kernel
theorem dL_law_33 : decode cL_law 33 = .ok (.tableswitch 1093 0 31 #[143, 196, 229, 262, 311, 334, 367, 390, 413, 446, 469, 482, 505, 528, 551, 564, 623, 646, 659, 672, 696, 749, 792, 815, 858, 902, 965, 988, 1011, 1044, 1057, 1070], 143) := by decide +kernel
theorem dL_law_176 : decode cL_law 176 = .ok (.aload_n 1, 1) := by decide +kernel
theorem dL_law_177 : decode cL_law 177 = .ok (.aload_n 0, 1) := by decide +kernel
theorem dL_law_178 : decode cL_law 178 = .ok (.iload_n 3, 1) := by decide +kernel
theorem dL_law_179 : decode cL_law 179 = .ok (.iconst 1, 1) := by decide +kernel
theorem dL_law_180 : decode cL_law 180 = .ok (.iadd, 1) := by decide +kernel
theorem dL_law_181 : decode cL_law 181 = .ok (.iaload, 1) := by decide +kernel
theorem dL_law_182 : decode cL_law 182 = .ok (.aload_n 0, 1) := by decide +kernel
theorem dL_law_183 : decode cL_law 183 = .ok (.iload_n 3, 1) := by decide +kernel
theorem dL_law_184 : decode cL_law 184 = .ok (.iconst 2, 1) := by decide +kernel
theorem dL_law_185 : decode cL_law 185 = .ok (.iadd, 1) := by decide +kernel
theorem dL_law_186 : decode cL_law 186 = .ok (.iaload, 1) := by decide +kernel
theorem dL_law_187 : decode cL_law 187 = .ok (.aload_n 0, 1) := by decide +kernel
theorem dL_law_188 : decode cL_law 188 = .ok (.iload_n 3, 1) := by decide +kernel
theorem dL_law_189 : decode cL_law 189 = .ok (.iconst 3, 1) := by decide +kernel
theorem dL_law_190 : decode cL_law 190 = .ok (.iadd, 1) := by decide +kernel
theorem dL_law_191 : decode cL_law 191 = .ok (.iaload, 1) := by decide +kernel
theorem dL_law_192 : decode cL_law 192 = .ok (.aload_n 0, 1) := by decide +kernel
theorem dL_law_193 : decode cL_law 193 = .ok (.iload_n 3, 1) := by decide +kernel
theorem dL_law_194 : decode cL_law 194 = .ok (.iconst 4, 1) := by decide +kernel
theorem dL_law_195 : decode cL_law 195 = .ok (.iadd, 1) := by decide +kernel
theorem dL_law_196 : decode cL_law 196 = .ok (.iaload, 1) := by decide +kernel
theorem dL_law_197 : decode cL_law 197 = .ok (.invokevirtual 13, 3) := by decide +kernel
theorem dL_law_200 : decode cL_law 200 = .ok (.aload_n 2, 1) := by decide +kernel
theorem dL_law_201 : decode cL_law 201 = .ok (.aload_n 0, 1) := by decide +kernel
theorem dL_law_202 : decode cL_law 202 = .ok (.iload_n 3, 1) := by decide +kernel
theorem dL_law_203 : decode cL_law 203 = .ok (.iconst 1, 1) := by decide +kernel
theorem dL_law_204 : decode cL_law 204 = .ok (.iadd, 1) := by decide +kernel
theorem dL_law_205 : decode cL_law 205 = .ok (.iaload, 1) := by decide +kernel
theorem dL_law_206 : decode cL_law 206 = .ok (.aload_n 0, 1) := by decide +kernel
theorem dL_law_207 : decode cL_law 207 = .ok (.iload_n 3, 1) := by decide +kernel
theorem dL_law_208 : decode cL_law 208 = .ok (.iconst 2, 1) := by decide +kernel
theorem dL_law_209 : decode cL_law 209 = .ok (.iadd, 1) := by decide +kernel
theorem dL_law_210 : decode cL_law 210 = .ok (.iaload, 1) := by decide +kernel
theorem dL_law_211 : decode cL_law 211 = .ok (.aload_n 0, 1) := by decide +kernel
theorem dL_law_212 : decode cL_law 212 = .ok (.iload_n 3, 1) := by decide +kernel
theorem dL_law_213 : decode cL_law 213 = .ok (.iconst 3, 1) := by decide +kernel
theorem dL_law_214 : decode cL_law 214 = .ok (.iadd, 1) := by decide +kernel
theorem dL_law_215 : decode cL_law 215 = .ok (.iaload, 1) := by decide +kernel
theorem dL_law_216 : decode cL_law 216 = .ok (.aload_n 0, 1) := by decide +kernel
theorem dL_law_217 : decode cL_law 217 = .ok (.iload_n 3, 1) := by decide +kernel
theorem dL_law_218 : decode cL_law 218 = .ok (.iconst 4, 1) := by decide +kernel
theorem dL_law_219 : decode cL_law 219 = .ok (.iadd, 1) := by decide +kernel
theorem dL_law_220 : decode cL_law 220 = .ok (.iaload, 1) := by decide +kernel
theorem dL_law_221 : decode cL_law 221 = .ok (.invokevirtual 17, 3) := by decide +kernel
theorem dL_law_224 : decode cL_law 224 = .ok (.if_icmp .eq 902, 3) := by decide +kernel
theorem dL_law_227 : decode cL_law 227 = .ok (.iconst 0, 1) := by decide +kernel
theorem dL_law_228 : decode cL_law 228 = .ok (.ireturn, 1) := by decide +kernel
theorem dL_law_229 : decode cL_law 229 = .ok (.aload_n 1, 1) := by decide +kernel
theorem dL_law_230 : decode cL_law 230 = .ok (.aload_n 0, 1) := by decide +kernel
theorem dL_law_231 : decode cL_law 231 = .ok (.iload_n 3, 1) := by decide +kernel
theorem dL_law_232 : decode cL_law 232 = .ok (.iconst 1, 1) := by decide +kernel
theorem dL_law_233 : decode cL_law 233 = .ok (.iadd, 1) := by decide +kernel
theorem dL_law_234 : decode cL_law 234 = .ok (.iaload, 1) := by decide +kernel
theorem dL_law_235 : decode cL_law 235 = .ok (.aload_n 0, 1) := by decide +kernel
theorem dL_law_236 : decode cL_law 236 = .ok (.iload_n 3, 1) := by decide +kernel
theorem dL_law_237 : decode cL_law 237 = .ok (.iconst 2, 1) := by decide +kernel
theorem dL_law_238 : decode cL_law 238 = .ok (.iadd, 1) := by decide +kernel
theorem dL_law_239 : decode cL_law 239 = .ok (.iaload, 1) := by decide +kernel
theorem dL_law_240 : decode cL_law 240 = .ok (.invokevirtual 18, 3) := by decide +kernel
theorem dL_law_243 : decode cL_law 243 = .ok (.aload_n 2, 1) := by decide +kernel
theorem dL_law_244 : decode cL_law 244 = .ok (.aload_n 0, 1) := by decide +kernel
theorem dL_law_245 : decode cL_law 245 = .ok (.iload_n 3, 1) := by decide +kernel
theorem dL_law_246 : decode cL_law 246 = .ok (.iconst 1, 1) := by decide +kernel
theorem dL_law_247 : decode cL_law 247 = .ok (.iadd, 1) := by decide +kernel
theorem dL_law_248 : decode cL_law 248 = .ok (.iaload, 1) := by decide +kernel
theorem dL_law_249 : decode cL_law 249 = .ok (.aload_n 0, 1) := by decide +kernel
theorem dL_law_250 : decode cL_law 250 = .ok (.iload_n 3, 1) := by decide +kernel
theorem dL_law_251 : decode cL_law 251 = .ok (.iconst 2, 1) := by decide +kernel
theorem dL_law_252 : decode cL_law 252 = .ok (.iadd, 1) := by decide +kernel
theorem dL_law_253 : decode cL_law 253 = .ok (.iaload, 1) := by decide +kernel
theorem dL_law_254 : decode cL_law 254 = .ok (.invokevirtual 22, 3) := by decide +kernel
theorem dL_law_257 : decode cL_law 257 = .ok (.if_icmp .eq 869, 3) := by decide +kernel
theorem dL_law_260 : decode cL_law 260 = .ok (.iconst 0, 1) := by decide +kernel
theorem dL_law_261 : decode cL_law 261 = .ok (.ireturn, 1) := by decide +kernel
theorem dL_law_262 : decode cL_law 262 = .ok (.aload_n 1, 1) := by decide +kernel
theorem dL_law_263 : decode cL_law 263 = .ok (.aload_n 0, 1) := by decide +kernel
theorem dL_law_264 : decode cL_law 264 = .ok (.iload_n 3, 1) := by decide +kernel
theorem dL_law_265 : decode cL_law 265 = .ok (.iconst 1, 1) := by decide +kernel
theorem dL_law_266 : decode cL_law 266 = .ok (.iadd, 1) := by decide +kernel
theorem dL_law_267 : decode cL_law 267 = .ok (.iaload, 1) := by decide +kernel
theorem dL_law_268 : decode cL_law 268 = .ok (.aload_n 0, 1) := by decide +kernel
theorem dL_law_269 : decode cL_law 269 = .ok (.iload_n 3, 1) := by decide +kernel
theorem dL_law_270 : decode cL_law 270 = .ok (.iconst 2, 1) := by decide +kernel
theorem dL_law_271 : decode cL_law 271 = .ok (.iadd, 1) := by decide +kernel
theorem dL_law_272 : decode cL_law 272 = .ok (.iaload, 1) := by decide +kernel
theorem dL_law_273 : decode cL_law 273 = .ok (.invokevirtual 23, 3) := by decide +kernel
theorem dL_law_276 : decode cL_law 276 = .ok (.aload_n 2, 1) := by decide +kernel
theorem dL_law_277 : decode cL_law 277 = .ok (.aload_n 0, 1) := by decide +kernel
theorem dL_law_278 : decode cL_law 278 = .ok (.iload_n 3, 1) := by decide +kernel
theorem dL_law_279 : decode cL_law 279 = .ok (.iconst 1, 1) := by decide +kernel
theorem dL_law_280 : decode cL_law 280 = .ok (.iadd, 1) := by decide +kernel
theorem dL_law_281 : decode cL_law 281 = .ok (.iaload, 1) := by decide +kernel
theorem dL_law_282 : decode cL_law 282 = .ok (.aload_n 0, 1) := by decide +kernel
theorem dL_law_283 : decode cL_law 283 = .ok (.iload_n 3, 1) := by decide +kernel
theorem dL_law_284 : decode cL_law 284 = .ok (.iconst 2, 1) := by decide +kernel
theorem dL_law_285 : decode cL_law 285 = .ok (.iadd, 1) := by decide +kernel
theorem dL_law_286 : decode cL_law 286 = .ok (.iaload, 1) := by decide +kernel
theorem dL_law_287 : decode cL_law 287 = .ok (.invokevirtual 26, 3) := by decide +kernel
theorem dL_law_290 : decode cL_law 290 = .ok (.if_icmp .eq 836, 3) := by decide +kernel
theorem dL_law_293 : decode cL_law 293 = .ok (.iconst 0, 1) := by decide +kernel
theorem dL_law_294 : decode cL_law 294 = .ok (.ireturn, 1) := by decide +kernel
theorem dL_law_295 : decode cL_law 295 = .ok (.aload_n 1, 1) := by decide +kernel
theorem dL_law_296 : decode cL_law 296 = .ok (.aload_n 0, 1) := by decide +kernel
theorem dL_law_297 : decode cL_law 297 = .ok (.iload_n 3, 1) := by decide +kernel
theorem dL_law_298 : decode cL_law 298 = .ok (.iconst 1, 1) := by decide +kernel
theorem dL_law_299 : decode cL_law 299 = .ok (.iadd, 1) := by decide +kernel
theorem dL_law_300 : decode cL_law 300 = .ok (.iaload, 1) := by decide +kernel
theorem dL_law_301 : decode cL_law 301 = .ok (.aload_n 0, 1) := by decide +kernel
theorem dL_law_302 : decode cL_law 302 = .ok (.iload_n 3, 1) := by decide +kernel
theorem dL_law_303 : decode cL_law 303 = .ok (.iconst 2, 1) := by decide +kernel
theorem dL_law_304 : decode cL_law 304 = .ok (.iadd, 1) := by decide +kernel
theorem dL_law_305 : decode cL_law 305 = .ok (.iaload, 1) := by decide +kernel
theorem dL_law_306 : decode cL_law 306 = .ok (.ifCond .eq 7, 3) := by decide +kernel
theorem dL_law_309 : decode cL_law 309 = .ok (.iconst 1, 1) := by decide +kernel
theorem dL_law_310 : decode cL_law 310 = .ok (.goto 4, 3) := by decide +kernel
theorem dL_law_313 : decode cL_law 313 = .ok (.iconst 0, 1) := by decide +kernel
theorem dL_law_314 : decode cL_law 314 = .ok (.invokevirtual 27, 3) := by decide +kernel
theorem dL_law_317 : decode cL_law 317 = .ok (.aload_n 2, 1) := by decide +kernel
theorem dL_law_318 : decode cL_law 318 = .ok (.aload_n 0, 1) := by decide +kernel
theorem dL_law_319 : decode cL_law 319 = .ok (.iload_n 3, 1) := by decide +kernel
theorem dL_law_320 : decode cL_law 320 = .ok (.iconst 1, 1) := by decide +kernel
theorem dL_law_321 : decode cL_law 321 = .ok (.iadd, 1) := by decide +kernel
theorem dL_law_322 : decode cL_law 322 = .ok (.iaload, 1) := by decide +kernel
theorem dL_law_323 : decode cL_law 323 = .ok (.aload_n 0, 1) := by decide +kernel
theorem dL_law_324 : decode cL_law 324 = .ok (.iload_n 3, 1) := by decide +kernel
theorem dL_law_325 : decode cL_law 325 = .ok (.iconst 2, 1) := by decide +kernel
theorem dL_law_326 : decode cL_law 326 = .ok (.iadd, 1) := by decide +kernel
theorem dL_law_327 : decode cL_law 327 = .ok (.iaload, 1) := by decide +kernel
theorem dL_law_328 : decode cL_law 328 = .ok (.ifCond .eq 7, 3) := by decide +kernel
theorem dL_law_331 : decode cL_law 331 = .ok (.iconst 1, 1) := by decide +kernel
theorem dL_law_332 : decode cL_law 332 = .ok (.goto 4, 3) := by decide +kernel
theorem dL_law_335 : decode cL_law 335 = .ok (.iconst 0, 1) := by decide +kernel
theorem dL_law_336 : decode cL_law 336 = .ok (.invokevirtual 31, 3) := by decide +kernel
theorem dL_law_339 : decode cL_law 339 = .ok (.if_icmp .eq 787, 3) := by decide +kernel
theorem dL_law_342 : decode cL_law 342 = .ok (.iconst 0, 1) := by decide +kernel
theorem dL_law_343 : decode cL_law 343 = .ok (.ireturn, 1) := by decide +kernel
theorem dL_law_344 : decode cL_law 344 = .ok (.aload_n 1, 1) := by decide +kernel
theorem dL_law_345 : decode cL_law 345 = .ok (.aload_n 0, 1) := by decide +kernel
theorem dL_law_346 : decode cL_law 346 = .ok (.iload_n 3, 1) := by decide +kernel
theorem dL_law_347 : decode cL_law 347 = .ok (.iconst 1, 1) := by decide +kernel
theorem dL_law_348 : decode cL_law 348 = .ok (.iadd, 1) := by decide +kernel
theorem dL_law_349 : decode cL_law 349 = .ok (.iaload, 1) := by decide +kernel
theorem dL_law_350 : decode cL_law 350 = .ok (.invokevirtual 32, 3) := by decide +kernel
theorem dL_law_353 : decode cL_law 353 = .ok (.aload_n 2, 1) := by decide +kernel
theorem dL_law_354 : decode cL_law 354 = .ok (.aload_n 0, 1) := by decide +kernel
theorem dL_law_355 : decode cL_law 355 = .ok (.iload_n 3, 1) := by decide +kernel
theorem dL_law_356 : decode cL_law 356 = .ok (.iconst 1, 1) := by decide +kernel
theorem dL_law_357 : decode cL_law 357 = .ok (.iadd, 1) := by decide +kernel
theorem dL_law_358 : decode cL_law 358 = .ok (.iaload, 1) := by decide +kernel
theorem dL_law_359 : decode cL_law 359 = .ok (.invokevirtual 36, 3) := by decide +kernel
theorem dL_law_362 : decode cL_law 362 = .ok (.if_icmp .eq 764, 3) := by decide +kernel
theorem dL_law_365 : decode cL_law 365 = .ok (.iconst 0, 1) := by decide +kernel
theorem dL_law_366 : decode cL_law 366 = .ok (.ireturn, 1) := by decide +kernel
theorem dL_law_367 : decode cL_law 367 = .ok (.aload_n 1, 1) := by decide +kernel
theorem dL_law_368 : decode cL_law 368 = .ok (.aload_n 0, 1) := by decide +kernel
theorem dL_law_369 : decode cL_law 369 = .ok (.iload_n 3, 1) := by decide +kernel
theorem dL_law_370 : decode cL_law 370 = .ok (.iconst 1, 1) := by decide +kernel
theorem dL_law_371 : decode cL_law 371 = .ok (.iadd, 1) := by decide +kernel
theorem dL_law_372 : decode cL_law 372 = .ok (.iaload, 1) := by decide +kernel
theorem dL_law_373 : decode cL_law 373 = .ok (.aload_n 0, 1) := by decide +kernel
theorem dL_law_374 : decode cL_law 374 = .ok (.iload_n 3, 1) := by decide +kernel
theorem dL_law_375 : decode cL_law 375 = .ok (.iconst 2, 1) := by decide +kernel
theorem dL_law_376 : decode cL_law 376 = .ok (.iadd, 1) := by decide +kernel
theorem dL_law_377 : decode cL_law 377 = .ok (.iaload, 1) := by decide +kernel
theorem dL_law_378 : decode cL_law 378 = .ok (.invokevirtual 37, 3) := by decide +kernel
theorem dL_law_381 : decode cL_law 381 = .ok (.aload_n 2, 1) := by decide +kernel
theorem dL_law_382 : decode cL_law 382 = .ok (.aload_n 0, 1) := by decide +kernel
theorem dL_law_383 : decode cL_law 383 = .ok (.iload_n 3, 1) := by decide +kernel
theorem dL_law_384 : decode cL_law 384 = .ok (.iconst 1, 1) := by decide +kernel
theorem dL_law_385 : decode cL_law 385 = .ok (.iadd, 1) := by decide +kernel
theorem dL_law_386 : decode cL_law 386 = .ok (.iaload, 1) := by decide +kernel
theorem dL_law_387 : decode cL_law 387 = .ok (.aload_n 0, 1) := by decide +kernel
theorem dL_law_388 : decode cL_law 388 = .ok (.iload_n 3, 1) := by decide +kernel
theorem dL_law_389 : decode cL_law 389 = .ok (.iconst 2, 1) := by decide +kernel
theorem dL_law_390 : decode cL_law 390 = .ok (.iadd, 1) := by decide +kernel
theorem dL_law_391 : decode cL_law 391 = .ok (.iaload, 1) := by decide +kernel
theorem dL_law_392 : decode cL_law 392 = .ok (.invokevirtual 40, 3) := by decide +kernel
theorem dL_law_395 : decode cL_law 395 = .ok (.if_icmp .eq 731, 3) := by decide +kernel
theorem dL_law_398 : decode cL_law 398 = .ok (.iconst 0, 1) := by decide +kernel
theorem dL_law_399 : decode cL_law 399 = .ok (.ireturn, 1) := by decide +kernel
theorem dL_law_400 : decode cL_law 400 = .ok (.aload_n 1, 1) := by decide +kernel
theorem dL_law_401 : decode cL_law 401 = .ok (.aload_n 0, 1) := by decide +kernel
theorem dL_law_402 : decode cL_law 402 = .ok (.iload_n 3, 1) := by decide +kernel
theorem dL_law_403 : decode cL_law 403 = .ok (.iconst 1, 1) := by decide +kernel
theorem dL_law_404 : decode cL_law 404 = .ok (.iadd, 1) := by decide +kernel
theorem dL_law_405 : decode cL_law 405 = .ok (.iaload, 1) := by decide +kernel
theorem dL_law_406 : decode cL_law 406 = .ok (.invokevirtual 41, 3) := by decide +kernel
theorem dL_law_409 : decode cL_law 409 = .ok (.aload_n 2, 1) := by decide +kernel
theorem dL_law_410 : decode cL_law 410 = .ok (.aload_n 0, 1) := by decide +kernel
theorem dL_law_411 : decode cL_law 411 = .ok (.iload_n 3, 1) := by decide +kernel
theorem dL_law_412 : decode cL_law 412 = .ok (.iconst 1, 1) := by decide +kernel
theorem dL_law_413 : decode cL_law 413 = .ok (.iadd, 1) := by decide +kernel
theorem dL_law_414 : decode cL_law 414 = .ok (.iaload, 1) := by decide +kernel
theorem dL_law_415 : decode cL_law 415 = .ok (.invokevirtual 44, 3) := by decide +kernel
theorem dL_law_418 : decode cL_law 418 = .ok (.if_icmp .eq 708, 3) := by decide +kernel
theorem dL_law_421 : decode cL_law 421 = .ok (.iconst 0, 1) := by decide +kernel
theorem dL_law_422 : decode cL_law 422 = .ok (.ireturn, 1) := by decide +kernel
theorem dL_law_423 : decode cL_law 423 = .ok (.aload_n 1, 1) := by decide +kernel
theorem dL_law_424 : decode cL_law 424 = .ok (.aload_n 0, 1) := by decide +kernel
theorem dL_law_425 : decode cL_law 425 = .ok (.iload_n 3, 1) := by decide +kernel
theorem dL_law_426 : decode cL_law 426 = .ok (.iconst 1, 1) := by decide +kernel
theorem dL_law_427 : decode cL_law 427 = .ok (.iadd, 1) := by decide +kernel
theorem dL_law_428 : decode cL_law 428 = .ok (.iaload, 1) := by decide +kernel
theorem dL_law_429 : decode cL_law 429 = .ok (.invokevirtual 45, 3) := by decide +kernel
theorem dL_law_432 : decode cL_law 432 = .ok (.aload_n 2, 1) := by decide +kernel
theorem dL_law_433 : decode cL_law 433 = .ok (.aload_n 0, 1) := by decide +kernel
theorem dL_law_434 : decode cL_law 434 = .ok (.iload_n 3, 1) := by decide +kernel
theorem dL_law_435 : decode cL_law 435 = .ok (.iconst 1, 1) := by decide +kernel
theorem dL_law_436 : decode cL_law 436 = .ok (.iadd, 1) := by decide +kernel
theorem dL_law_437 : decode cL_law 437 = .ok (.iaload, 1) := by decide +kernel
theorem dL_law_438 : decode cL_law 438 = .ok (.invokevirtual 48, 3) := by decide +kernel
theorem dL_law_441 : decode cL_law 441 = .ok (.if_icmp .eq 685, 3) := by decide +kernel
theorem dL_law_444 : decode cL_law 444 = .ok (.iconst 0, 1) := by decide +kernel
theorem dL_law_445 : decode cL_law 445 = .ok (.ireturn, 1) := by decide +kernel
theorem dL_law_446 : decode cL_law 446 = .ok (.aload_n 1, 1) := by decide +kernel
theorem dL_law_447 : decode cL_law 447 = .ok (.aload_n 0, 1) := by decide +kernel
theorem dL_law_448 : decode cL_law 448 = .ok (.iload_n 3, 1) := by decide +kernel
theorem dL_law_449 : decode cL_law 449 = .ok (.iconst 1, 1) := by decide +kernel
theorem dL_law_450 : decode cL_law 450 = .ok (.iadd, 1) := by decide +kernel
theorem dL_law_451 : decode cL_law 451 = .ok (.iaload, 1) := by decide +kernel
theorem dL_law_452 : decode cL_law 452 = .ok (.aload_n 0, 1) := by decide +kernel
theorem dL_law_453 : decode cL_law 453 = .ok (.iload_n 3, 1) := by decide +kernel
theorem dL_law_454 : decode cL_law 454 = .ok (.iconst 2, 1) := by decide +kernel
theorem dL_law_455 : decode cL_law 455 = .ok (.iadd, 1) := by decide +kernel
theorem dL_law_456 : decode cL_law 456 = .ok (.iaload, 1) := by decide +kernel
theorem dL_law_457 : decode cL_law 457 = .ok (.invokevirtual 49, 3) := by decide +kernel
theorem dL_law_460 : decode cL_law 460 = .ok (.aload_n 2, 1) := by decide +kernel
theorem dL_law_461 : decode cL_law 461 = .ok (.aload_n 0, 1) := by decide +kernel
theorem dL_law_462 : decode cL_law 462 = .ok (.iload_n 3, 1) := by decide +kernel
theorem dL_law_463 : decode cL_law 463 = .ok (.iconst 1, 1) := by decide +kernel
theorem dL_law_464 : decode cL_law 464 = .ok (.iadd, 1) := by decide +kernel
theorem dL_law_465 : decode cL_law 465 = .ok (.iaload, 1) := by decide +kernel
theorem dL_law_466 : decode cL_law 466 = .ok (.aload_n 0, 1) := by decide +kernel
theorem dL_law_467 : decode cL_law 467 = .ok (.iload_n 3, 1) := by decide +kernel
theorem dL_law_468 : decode cL_law 468 = .ok (.iconst 2, 1) := by decide +kernel
theorem dL_law_469 : decode cL_law 469 = .ok (.iadd, 1) := by decide +kernel
theorem dL_law_470 : decode cL_law 470 = .ok (.iaload, 1) := by decide +kernel
theorem dL_law_471 : decode cL_law 471 = .ok (.invokevirtual 52, 3) := by decide +kernel
theorem dL_law_474 : decode cL_law 474 = .ok (.if_icmp .eq 652, 3) := by decide +kernel
theorem dL_law_477 : decode cL_law 477 = .ok (.iconst 0, 1) := by decide +kernel
theorem dL_law_478 : decode cL_law 478 = .ok (.ireturn, 1) := by decide +kernel
theorem dL_law_479 : decode cL_law 479 = .ok (.aload_n 1, 1) := by decide +kernel
theorem dL_law_480 : decode cL_law 480 = .ok (.aload_n 0, 1) := by decide +kernel
theorem dL_law_481 : decode cL_law 481 = .ok (.iload_n 3, 1) := by decide +kernel
theorem dL_law_482 : decode cL_law 482 = .ok (.iconst 1, 1) := by decide +kernel
theorem dL_law_483 : decode cL_law 483 = .ok (.iadd, 1) := by decide +kernel
theorem dL_law_484 : decode cL_law 484 = .ok (.iaload, 1) := by decide +kernel
theorem dL_law_485 : decode cL_law 485 = .ok (.invokevirtual 53, 3) := by decide +kernel
theorem dL_law_488 : decode cL_law 488 = .ok (.aload_n 2, 1) := by decide +kernel
theorem dL_law_489 : decode cL_law 489 = .ok (.aload_n 0, 1) := by decide +kernel
theorem dL_law_490 : decode cL_law 490 = .ok (.iload_n 3, 1) := by decide +kernel
theorem dL_law_491 : decode cL_law 491 = .ok (.iconst 1, 1) := by decide +kernel
theorem dL_law_492 : decode cL_law 492 = .ok (.iadd, 1) := by decide +kernel
theorem dL_law_493 : decode cL_law 493 = .ok (.iaload, 1) := by decide +kernel
theorem dL_law_494 : decode cL_law 494 = .ok (.invokevirtual 56, 3) := by decide +kernel
theorem dL_law_497 : decode cL_law 497 = .ok (.if_icmp .eq 629, 3) := by decide +kernel
theorem dL_law_500 : decode cL_law 500 = .ok (.iconst 0, 1) := by decide +kernel
theorem dL_law_501 : decode cL_law 501 = .ok (.ireturn, 1) := by decide +kernel
theorem dL_law_502 : decode cL_law 502 = .ok (.aload_n 1, 1) := by decide +kernel
theorem dL_law_503 : decode cL_law 503 = .ok (.invokevirtual 57, 3) := by decide +kernel
theorem dL_law_506 : decode cL_law 506 = .ok (.aload_n 2, 1) := by decide +kernel
theorem dL_law_507 : decode cL_law 507 = .ok (.invokevirtual 61, 3) := by decide +kernel
theorem dL_law_510 : decode cL_law 510 = .ok (.if_icmp .eq 616, 3) := by decide +kernel
theorem dL_law_513 : decode cL_law 513 = .ok (.iconst 0, 1) := by decide +kernel
theorem dL_law_514 : decode cL_law 514 = .ok (.ireturn, 1) := by decide +kernel
theorem dL_law_515 : decode cL_law 515 = .ok (.aload_n 1, 1) := by decide +kernel
theorem dL_law_516 : decode cL_law 516 = .ok (.aload_n 0, 1) := by decide +kernel
theorem dL_law_517 : decode cL_law 517 = .ok (.iload_n 3, 1) := by decide +kernel
theorem dL_law_518 : decode cL_law 518 = .ok (.iconst 1, 1) := by decide +kernel
theorem dL_law_519 : decode cL_law 519 = .ok (.iadd, 1) := by decide +kernel
theorem dL_law_520 : decode cL_law 520 = .ok (.iaload, 1) := by decide +kernel
theorem dL_law_521 : decode cL_law 521 = .ok (.invokevirtual 62, 3) := by decide +kernel
theorem dL_law_524 : decode cL_law 524 = .ok (.aload_n 2, 1) := by decide +kernel
theorem dL_law_525 : decode cL_law 525 = .ok (.aload_n 0, 1) := by decide +kernel
theorem dL_law_526 : decode cL_law 526 = .ok (.iload_n 3, 1) := by decide +kernel
theorem dL_law_527 : decode cL_law 527 = .ok (.iconst 1, 1) := by decide +kernel
theorem dL_law_528 : decode cL_law 528 = .ok (.iadd, 1) := by decide +kernel
theorem dL_law_529 : decode cL_law 529 = .ok (.iaload, 1) := by decide +kernel
theorem dL_law_530 : decode cL_law 530 = .ok (.invokevirtual 65, 3) := by decide +kernel
theorem dL_law_533 : decode cL_law 533 = .ok (.if_icmp .eq 593, 3) := by decide +kernel
theorem dL_law_536 : decode cL_law 536 = .ok (.iconst 0, 1) := by decide +kernel
theorem dL_law_537 : decode cL_law 537 = .ok (.ireturn, 1) := by decide +kernel
theorem dL_law_538 : decode cL_law 538 = .ok (.aload_n 1, 1) := by decide +kernel
theorem dL_law_539 : decode cL_law 539 = .ok (.aload_n 0, 1) := by decide +kernel
theorem dL_law_540 : decode cL_law 540 = .ok (.iload_n 3, 1) := by decide +kernel
theorem dL_law_541 : decode cL_law 541 = .ok (.iconst 1, 1) := by decide +kernel
theorem dL_law_542 : decode cL_law 542 = .ok (.iadd, 1) := by decide +kernel
theorem dL_law_543 : decode cL_law 543 = .ok (.iaload, 1) := by decide +kernel
theorem dL_law_544 : decode cL_law 544 = .ok (.invokevirtual 66, 3) := by decide +kernel
theorem dL_law_547 : decode cL_law 547 = .ok (.aload_n 2, 1) := by decide +kernel
theorem dL_law_548 : decode cL_law 548 = .ok (.aload_n 0, 1) := by decide +kernel
theorem dL_law_549 : decode cL_law 549 = .ok (.iload_n 3, 1) := by decide +kernel
theorem dL_law_550 : decode cL_law 550 = .ok (.iconst 1, 1) := by decide +kernel
theorem dL_law_551 : decode cL_law 551 = .ok (.iadd, 1) := by decide +kernel
theorem dL_law_552 : decode cL_law 552 = .ok (.iaload, 1) := by decide +kernel
theorem dL_law_553 : decode cL_law 553 = .ok (.invokevirtual 69, 3) := by decide +kernel
theorem dL_law_556 : decode cL_law 556 = .ok (.if_icmp .eq 570, 3) := by decide +kernel
theorem dL_law_559 : decode cL_law 559 = .ok (.iconst 0, 1) := by decide +kernel
theorem dL_law_560 : decode cL_law 560 = .ok (.ireturn, 1) := by decide +kernel
theorem dL_law_561 : decode cL_law 561 = .ok (.aload_n 1, 1) := by decide +kernel
theorem dL_law_562 : decode cL_law 562 = .ok (.aload_n 0, 1) := by decide +kernel
theorem dL_law_563 : decode cL_law 563 = .ok (.iload_n 3, 1) := by decide +kernel
theorem dL_law_564 : decode cL_law 564 = .ok (.iconst 1, 1) := by decide +kernel
theorem dL_law_565 : decode cL_law 565 = .ok (.iadd, 1) := by decide +kernel
theorem dL_law_566 : decode cL_law 566 = .ok (.iaload, 1) := by decide +kernel
theorem dL_law_567 : decode cL_law 567 = .ok (.invokevirtual 70, 3) := by decide +kernel
theorem dL_law_570 : decode cL_law 570 = .ok (.aload_n 2, 1) := by decide +kernel
theorem dL_law_571 : decode cL_law 571 = .ok (.aload_n 0, 1) := by decide +kernel
theorem dL_law_572 : decode cL_law 572 = .ok (.iload_n 3, 1) := by decide +kernel
theorem dL_law_573 : decode cL_law 573 = .ok (.iconst 1, 1) := by decide +kernel
theorem dL_law_574 : decode cL_law 574 = .ok (.iadd, 1) := by decide +kernel
theorem dL_law_575 : decode cL_law 575 = .ok (.iaload, 1) := by decide +kernel
theorem dL_law_576 : decode cL_law 576 = .ok (.invokevirtual 73, 3) := by decide +kernel
theorem dL_law_579 : decode cL_law 579 = .ok (.if_icmp .eq 547, 3) := by decide +kernel
theorem dL_law_582 : decode cL_law 582 = .ok (.iconst 0, 1) := by decide +kernel
theorem dL_law_583 : decode cL_law 583 = .ok (.ireturn, 1) := by decide +kernel
theorem dL_law_584 : decode cL_law 584 = .ok (.aload_n 1, 1) := by decide +kernel
theorem dL_law_585 : decode cL_law 585 = .ok (.invokevirtual 74, 3) := by decide +kernel
theorem dL_law_588 : decode cL_law 588 = .ok (.aload_n 2, 1) := by decide +kernel
theorem dL_law_589 : decode cL_law 589 = .ok (.invokevirtual 77, 3) := by decide +kernel
theorem dL_law_592 : decode cL_law 592 = .ok (.if_icmp .eq 534, 3) := by decide +kernel
theorem dL_law_595 : decode cL_law 595 = .ok (.iconst 0, 1) := by decide +kernel
theorem dL_law_596 : decode cL_law 596 = .ok (.ireturn, 1) := by decide +kernel
theorem dL_law_597 : decode cL_law 597 = .ok (.aload_n 1, 1) := by decide +kernel
theorem dL_law_598 : decode cL_law 598 = .ok (.aload_n 0, 1) := by decide +kernel
theorem dL_law_599 : decode cL_law 599 = .ok (.iload_n 3, 1) := by decide +kernel
theorem dL_law_600 : decode cL_law 600 = .ok (.iconst 1, 1) := by decide +kernel
theorem dL_law_601 : decode cL_law 601 = .ok (.iadd, 1) := by decide +kernel
theorem dL_law_602 : decode cL_law 602 = .ok (.iaload, 1) := by decide +kernel
theorem dL_law_603 : decode cL_law 603 = .ok (.aload_n 0, 1) := by decide +kernel
theorem dL_law_604 : decode cL_law 604 = .ok (.iload_n 3, 1) := by decide +kernel
theorem dL_law_605 : decode cL_law 605 = .ok (.iconst 2, 1) := by decide +kernel
theorem dL_law_606 : decode cL_law 606 = .ok (.iadd, 1) := by decide +kernel
theorem dL_law_607 : decode cL_law 607 = .ok (.iaload, 1) := by decide +kernel
theorem dL_law_608 : decode cL_law 608 = .ok (.aload_n 0, 1) := by decide +kernel
theorem dL_law_609 : decode cL_law 609 = .ok (.iload_n 3, 1) := by decide +kernel
theorem dL_law_610 : decode cL_law 610 = .ok (.iconst 3, 1) := by decide +kernel
theorem dL_law_611 : decode cL_law 611 = .ok (.iadd, 1) := by decide +kernel
theorem dL_law_612 : decode cL_law 612 = .ok (.iaload, 1) := by decide +kernel
theorem dL_law_613 : decode cL_law 613 = .ok (.ifCond .eq 7, 3) := by decide +kernel
theorem dL_law_616 : decode cL_law 616 = .ok (.iconst 1, 1) := by decide +kernel
theorem dL_law_617 : decode cL_law 617 = .ok (.goto 4, 3) := by decide +kernel
theorem dL_law_620 : decode cL_law 620 = .ok (.iconst 0, 1) := by decide +kernel
theorem dL_law_621 : decode cL_law 621 = .ok (.invokevirtual 78, 3) := by decide +kernel
theorem dL_law_624 : decode cL_law 624 = .ok (.aload_n 2, 1) := by decide +kernel
theorem dL_law_625 : decode cL_law 625 = .ok (.aload_n 0, 1) := by decide +kernel
theorem dL_law_626 : decode cL_law 626 = .ok (.iload_n 3, 1) := by decide +kernel
theorem dL_law_627 : decode cL_law 627 = .ok (.iconst 1, 1) := by decide +kernel
theorem dL_law_628 : decode cL_law 628 = .ok (.iadd, 1) := by decide +kernel
theorem dL_law_629 : decode cL_law 629 = .ok (.iaload, 1) := by decide +kernel
theorem dL_law_630 : decode cL_law 630 = .ok (.aload_n 0, 1) := by decide +kernel
theorem dL_law_631 : decode cL_law 631 = .ok (.iload_n 3, 1) := by decide +kernel
theorem dL_law_632 : decode cL_law 632 = .ok (.iconst 2, 1) := by decide +kernel
theorem dL_law_633 : decode cL_law 633 = .ok (.iadd, 1) := by decide +kernel
theorem dL_law_634 : decode cL_law 634 = .ok (.iaload, 1) := by decide +kernel
theorem dL_law_635 : decode cL_law 635 = .ok (.aload_n 0, 1) := by decide +kernel
theorem dL_law_636 : decode cL_law 636 = .ok (.iload_n 3, 1) := by decide +kernel
theorem dL_law_637 : decode cL_law 637 = .ok (.iconst 3, 1) := by decide +kernel
theorem dL_law_638 : decode cL_law 638 = .ok (.iadd, 1) := by decide +kernel
theorem dL_law_639 : decode cL_law 639 = .ok (.iaload, 1) := by decide +kernel
theorem dL_law_640 : decode cL_law 640 = .ok (.ifCond .eq 7, 3) := by decide +kernel
theorem dL_law_643 : decode cL_law 643 = .ok (.iconst 1, 1) := by decide +kernel
theorem dL_law_644 : decode cL_law 644 = .ok (.goto 4, 3) := by decide +kernel
theorem dL_law_647 : decode cL_law 647 = .ok (.iconst 0, 1) := by decide +kernel
theorem dL_law_648 : decode cL_law 648 = .ok (.invokevirtual 82, 3) := by decide +kernel
theorem dL_law_651 : decode cL_law 651 = .ok (.if_icmp .eq 475, 3) := by decide +kernel
theorem dL_law_654 : decode cL_law 654 = .ok (.iconst 0, 1) := by decide +kernel
theorem dL_law_655 : decode cL_law 655 = .ok (.ireturn, 1) := by decide +kernel
theorem dL_law_656 : decode cL_law 656 = .ok (.aload_n 1, 1) := by decide +kernel
theorem dL_law_657 : decode cL_law 657 = .ok (.aload_n 0, 1) := by decide +kernel
theorem dL_law_658 : decode cL_law 658 = .ok (.iload_n 3, 1) := by decide +kernel
theorem dL_law_659 : decode cL_law 659 = .ok (.iconst 1, 1) := by decide +kernel
theorem dL_law_660 : decode cL_law 660 = .ok (.iadd, 1) := by decide +kernel
theorem dL_law_661 : decode cL_law 661 = .ok (.iaload, 1) := by decide +kernel
theorem dL_law_662 : decode cL_law 662 = .ok (.invokevirtual 83, 3) := by decide +kernel
theorem dL_law_665 : decode cL_law 665 = .ok (.aload_n 2, 1) := by decide +kernel
theorem dL_law_666 : decode cL_law 666 = .ok (.aload_n 0, 1) := by decide +kernel
theorem dL_law_667 : decode cL_law 667 = .ok (.iload_n 3, 1) := by decide +kernel
theorem dL_law_668 : decode cL_law 668 = .ok (.iconst 1, 1) := by decide +kernel
theorem dL_law_669 : decode cL_law 669 = .ok (.iadd, 1) := by decide +kernel
theorem dL_law_670 : decode cL_law 670 = .ok (.iaload, 1) := by decide +kernel
theorem dL_law_671 : decode cL_law 671 = .ok (.invokevirtual 86, 3) := by decide +kernel
theorem dL_law_674 : decode cL_law 674 = .ok (.if_icmp .eq 452, 3) := by decide +kernel
theorem dL_law_677 : decode cL_law 677 = .ok (.iconst 0, 1) := by decide +kernel
theorem dL_law_678 : decode cL_law 678 = .ok (.ireturn, 1) := by decide +kernel
theorem dL_law_679 : decode cL_law 679 = .ok (.aload_n 1, 1) := by decide +kernel
theorem dL_law_680 : decode cL_law 680 = .ok (.invokevirtual 87, 3) := by decide +kernel
theorem dL_law_683 : decode cL_law 683 = .ok (.aload_n 2, 1) := by decide +kernel
theorem dL_law_684 : decode cL_law 684 = .ok (.invokevirtual 90, 3) := by decide +kernel
theorem dL_law_687 : decode cL_law 687 = .ok (.if_icmp .eq 439, 3) := by decide +kernel
theorem dL_law_690 : decode cL_law 690 = .ok (.iconst 0, 1) := by decide +kernel
theorem dL_law_691 : decode cL_law 691 = .ok (.ireturn, 1) := by decide +kernel
theorem dL_law_692 : decode cL_law 692 = .ok (.aload_n 1, 1) := by decide +kernel
theorem dL_law_693 : decode cL_law 693 = .ok (.invokevirtual 91, 3) := by decide +kernel
theorem dL_law_696 : decode cL_law 696 = .ok (.aload_n 2, 1) := by decide +kernel
theorem dL_law_697 : decode cL_law 697 = .ok (.invokevirtual 94, 3) := by decide +kernel
theorem dL_law_700 : decode cL_law 700 = .ok (.if_icmp .eq 426, 3) := by decide +kernel
theorem dL_law_703 : decode cL_law 703 = .ok (.iconst 0, 1) := by decide +kernel
theorem dL_law_704 : decode cL_law 704 = .ok (.ireturn, 1) := by decide +kernel
theorem dL_law_705 : decode cL_law 705 = .ok (.aload_n 1, 1) := by decide +kernel
theorem dL_law_706 : decode cL_law 706 = .ok (.aload_n 0, 1) := by decide +kernel
theorem dL_law_707 : decode cL_law 707 = .ok (.iload_n 3, 1) := by decide +kernel
theorem dL_law_708 : decode cL_law 708 = .ok (.iconst 1, 1) := by decide +kernel
theorem dL_law_709 : decode cL_law 709 = .ok (.iadd, 1) := by decide +kernel
theorem dL_law_710 : decode cL_law 710 = .ok (.iaload, 1) := by decide +kernel
theorem dL_law_711 : decode cL_law 711 = .ok (.invokevirtual 95, 3) := by decide +kernel
theorem dL_law_714 : decode cL_law 714 = .ok (.aload_n 2, 1) := by decide +kernel
theorem dL_law_715 : decode cL_law 715 = .ok (.aload_n 0, 1) := by decide +kernel
theorem dL_law_716 : decode cL_law 716 = .ok (.iload_n 3, 1) := by decide +kernel
theorem dL_law_717 : decode cL_law 717 = .ok (.iconst 1, 1) := by decide +kernel
theorem dL_law_718 : decode cL_law 718 = .ok (.iadd, 1) := by decide +kernel
theorem dL_law_719 : decode cL_law 719 = .ok (.iaload, 1) := by decide +kernel
theorem dL_law_720 : decode cL_law 720 = .ok (.invokevirtual 99, 3) := by decide +kernel
theorem dL_law_723 : decode cL_law 723 = .ok (.lcmp, 1) := by decide +kernel
theorem dL_law_724 : decode cL_law 724 = .ok (.ifCond .eq 402, 3) := by decide +kernel
theorem dL_law_727 : decode cL_law 727 = .ok (.iconst 0, 1) := by decide +kernel
theorem dL_law_728 : decode cL_law 728 = .ok (.ireturn, 1) := by decide +kernel
theorem dL_law_729 : decode cL_law 729 = .ok (.aload_n 1, 1) := by decide +kernel
theorem dL_law_730 : decode cL_law 730 = .ok (.aload_n 0, 1) := by decide +kernel
theorem dL_law_731 : decode cL_law 731 = .ok (.iload_n 3, 1) := by decide +kernel
theorem dL_law_732 : decode cL_law 732 = .ok (.iconst 1, 1) := by decide +kernel
theorem dL_law_733 : decode cL_law 733 = .ok (.iadd, 1) := by decide +kernel
theorem dL_law_734 : decode cL_law 734 = .ok (.iaload, 1) := by decide +kernel
theorem dL_law_735 : decode cL_law 735 = .ok (.aload_n 0, 1) := by decide +kernel
theorem dL_law_736 : decode cL_law 736 = .ok (.iload_n 3, 1) := by decide +kernel
theorem dL_law_737 : decode cL_law 737 = .ok (.iconst 2, 1) := by decide +kernel
theorem dL_law_738 : decode cL_law 738 = .ok (.iadd, 1) := by decide +kernel
theorem dL_law_739 : decode cL_law 739 = .ok (.iaload, 1) := by decide +kernel
theorem dL_law_740 : decode cL_law 740 = .ok (.aload_n 0, 1) := by decide +kernel
theorem dL_law_741 : decode cL_law 741 = .ok (.iload_n 3, 1) := by decide +kernel
theorem dL_law_742 : decode cL_law 742 = .ok (.iconst 3, 1) := by decide +kernel
theorem dL_law_743 : decode cL_law 743 = .ok (.iadd, 1) := by decide +kernel
theorem dL_law_744 : decode cL_law 744 = .ok (.iaload, 1) := by decide +kernel
theorem dL_law_745 : decode cL_law 745 = .ok (.aload_n 0, 1) := by decide +kernel
theorem dL_law_746 : decode cL_law 746 = .ok (.iload_n 3, 1) := by decide +kernel
theorem dL_law_747 : decode cL_law 747 = .ok (.iconst 4, 1) := by decide +kernel
theorem dL_law_748 : decode cL_law 748 = .ok (.iadd, 1) := by decide +kernel
theorem dL_law_749 : decode cL_law 749 = .ok (.iaload, 1) := by decide +kernel
theorem dL_law_750 : decode cL_law 750 = .ok (.invokevirtual 100, 3) := by decide +kernel
theorem dL_law_753 : decode cL_law 753 = .ok (.aload_n 2, 1) := by decide +kernel
theorem dL_law_754 : decode cL_law 754 = .ok (.aload_n 0, 1) := by decide +kernel
theorem dL_law_755 : decode cL_law 755 = .ok (.iload_n 3, 1) := by decide +kernel
theorem dL_law_756 : decode cL_law 756 = .ok (.iconst 1, 1) := by decide +kernel
theorem dL_law_757 : decode cL_law 757 = .ok (.iadd, 1) := by decide +kernel
theorem dL_law_758 : decode cL_law 758 = .ok (.iaload, 1) := by decide +kernel
theorem dL_law_759 : decode cL_law 759 = .ok (.aload_n 0, 1) := by decide +kernel
theorem dL_law_760 : decode cL_law 760 = .ok (.iload_n 3, 1) := by decide +kernel
theorem dL_law_761 : decode cL_law 761 = .ok (.iconst 2, 1) := by decide +kernel
theorem dL_law_762 : decode cL_law 762 = .ok (.iadd, 1) := by decide +kernel
theorem dL_law_763 : decode cL_law 763 = .ok (.iaload, 1) := by decide +kernel
theorem dL_law_764 : decode cL_law 764 = .ok (.aload_n 0, 1) := by decide +kernel
theorem dL_law_765 : decode cL_law 765 = .ok (.iload_n 3, 1) := by decide +kernel
theorem dL_law_766 : decode cL_law 766 = .ok (.iconst 3, 1) := by decide +kernel
theorem dL_law_767 : decode cL_law 767 = .ok (.iadd, 1) := by decide +kernel
theorem dL_law_768 : decode cL_law 768 = .ok (.iaload, 1) := by decide +kernel
theorem dL_law_769 : decode cL_law 769 = .ok (.aload_n 0, 1) := by decide +kernel
theorem dL_law_770 : decode cL_law 770 = .ok (.iload_n 3, 1) := by decide +kernel
theorem dL_law_771 : decode cL_law 771 = .ok (.iconst 4, 1) := by decide +kernel
theorem dL_law_772 : decode cL_law 772 = .ok (.iadd, 1) := by decide +kernel
theorem dL_law_773 : decode cL_law 773 = .ok (.iaload, 1) := by decide +kernel
theorem dL_law_774 : decode cL_law 774 = .ok (.invokevirtual 103, 3) := by decide +kernel
theorem dL_law_777 : decode cL_law 777 = .ok (.if_icmp .eq 349, 3) := by decide +kernel
theorem dL_law_780 : decode cL_law 780 = .ok (.iconst 0, 1) := by decide +kernel
theorem dL_law_781 : decode cL_law 781 = .ok (.ireturn, 1) := by decide +kernel
theorem dL_law_782 : decode cL_law 782 = .ok (.aload_n 1, 1) := by decide +kernel
theorem dL_law_783 : decode cL_law 783 = .ok (.aload_n 0, 1) := by decide +kernel
theorem dL_law_784 : decode cL_law 784 = .ok (.iload_n 3, 1) := by decide +kernel
theorem dL_law_785 : decode cL_law 785 = .ok (.iconst 1, 1) := by decide +kernel
theorem dL_law_786 : decode cL_law 786 = .ok (.iadd, 1) := by decide +kernel
theorem dL_law_787 : decode cL_law 787 = .ok (.iaload, 1) := by decide +kernel
theorem dL_law_788 : decode cL_law 788 = .ok (.aload_n 0, 1) := by decide +kernel
theorem dL_law_789 : decode cL_law 789 = .ok (.iload_n 3, 1) := by decide +kernel
theorem dL_law_790 : decode cL_law 790 = .ok (.iconst 2, 1) := by decide +kernel
theorem dL_law_791 : decode cL_law 791 = .ok (.iadd, 1) := by decide +kernel
theorem dL_law_792 : decode cL_law 792 = .ok (.iaload, 1) := by decide +kernel
theorem dL_law_793 : decode cL_law 793 = .ok (.aload_n 0, 1) := by decide +kernel
theorem dL_law_794 : decode cL_law 794 = .ok (.iload_n 3, 1) := by decide +kernel
theorem dL_law_795 : decode cL_law 795 = .ok (.iconst 3, 1) := by decide +kernel
theorem dL_law_796 : decode cL_law 796 = .ok (.iadd, 1) := by decide +kernel
theorem dL_law_797 : decode cL_law 797 = .ok (.iaload, 1) := by decide +kernel
theorem dL_law_798 : decode cL_law 798 = .ok (.invokevirtual 104, 3) := by decide +kernel
theorem dL_law_801 : decode cL_law 801 = .ok (.aload_n 2, 1) := by decide +kernel
theorem dL_law_802 : decode cL_law 802 = .ok (.aload_n 0, 1) := by decide +kernel
theorem dL_law_803 : decode cL_law 803 = .ok (.iload_n 3, 1) := by decide +kernel
theorem dL_law_804 : decode cL_law 804 = .ok (.iconst 1, 1) := by decide +kernel
theorem dL_law_805 : decode cL_law 805 = .ok (.iadd, 1) := by decide +kernel
theorem dL_law_806 : decode cL_law 806 = .ok (.iaload, 1) := by decide +kernel
theorem dL_law_807 : decode cL_law 807 = .ok (.aload_n 0, 1) := by decide +kernel
theorem dL_law_808 : decode cL_law 808 = .ok (.iload_n 3, 1) := by decide +kernel
theorem dL_law_809 : decode cL_law 809 = .ok (.iconst 2, 1) := by decide +kernel
theorem dL_law_810 : decode cL_law 810 = .ok (.iadd, 1) := by decide +kernel
theorem dL_law_811 : decode cL_law 811 = .ok (.iaload, 1) := by decide +kernel
theorem dL_law_812 : decode cL_law 812 = .ok (.aload_n 0, 1) := by decide +kernel
theorem dL_law_813 : decode cL_law 813 = .ok (.iload_n 3, 1) := by decide +kernel
theorem dL_law_814 : decode cL_law 814 = .ok (.iconst 3, 1) := by decide +kernel
theorem dL_law_815 : decode cL_law 815 = .ok (.iadd, 1) := by decide +kernel
theorem dL_law_816 : decode cL_law 816 = .ok (.iaload, 1) := by decide +kernel
theorem dL_law_817 : decode cL_law 817 = .ok (.invokevirtual 108, 3) := by decide +kernel
theorem dL_law_820 : decode cL_law 820 = .ok (.if_icmp .eq 306, 3) := by decide +kernel
theorem dL_law_823 : decode cL_law 823 = .ok (.iconst 0, 1) := by decide +kernel
theorem dL_law_824 : decode cL_law 824 = .ok (.ireturn, 1) := by decide +kernel
theorem dL_law_825 : decode cL_law 825 = .ok (.aload_n 1, 1) := by decide +kernel
theorem dL_law_826 : decode cL_law 826 = .ok (.aload_n 0, 1) := by decide +kernel
theorem dL_law_827 : decode cL_law 827 = .ok (.iload_n 3, 1) := by decide +kernel
theorem dL_law_828 : decode cL_law 828 = .ok (.iconst 1, 1) := by decide +kernel
theorem dL_law_829 : decode cL_law 829 = .ok (.iadd, 1) := by decide +kernel
theorem dL_law_830 : decode cL_law 830 = .ok (.iaload, 1) := by decide +kernel
theorem dL_law_831 : decode cL_law 831 = .ok (.invokevirtual 109, 3) := by decide +kernel
theorem dL_law_834 : decode cL_law 834 = .ok (.aload_n 2, 1) := by decide +kernel
theorem dL_law_835 : decode cL_law 835 = .ok (.aload_n 0, 1) := by decide +kernel
theorem dL_law_836 : decode cL_law 836 = .ok (.iload_n 3, 1) := by decide +kernel
theorem dL_law_837 : decode cL_law 837 = .ok (.iconst 1, 1) := by decide +kernel
theorem dL_law_838 : decode cL_law 838 = .ok (.iadd, 1) := by decide +kernel
theorem dL_law_839 : decode cL_law 839 = .ok (.iaload, 1) := by decide +kernel
theorem dL_law_840 : decode cL_law 840 = .ok (.invokevirtual 112, 3) := by decide +kernel
theorem dL_law_843 : decode cL_law 843 = .ok (.if_icmp .eq 283, 3) := by decide +kernel
theorem dL_law_846 : decode cL_law 846 = .ok (.iconst 0, 1) := by decide +kernel
theorem dL_law_847 : decode cL_law 847 = .ok (.ireturn, 1) := by decide +kernel
theorem dL_law_848 : decode cL_law 848 = .ok (.aload_n 1, 1) := by decide +kernel
theorem dL_law_849 : decode cL_law 849 = .ok (.aload_n 0, 1) := by decide +kernel
theorem dL_law_850 : decode cL_law 850 = .ok (.iload_n 3, 1) := by decide +kernel
theorem dL_law_851 : decode cL_law 851 = .ok (.iconst 1, 1) := by decide +kernel
theorem dL_law_852 : decode cL_law 852 = .ok (.iadd, 1) := by decide +kernel
theorem dL_law_853 : decode cL_law 853 = .ok (.iaload, 1) := by decide +kernel
theorem dL_law_854 : decode cL_law 854 = .ok (.aload_n 0, 1) := by decide +kernel
theorem dL_law_855 : decode cL_law 855 = .ok (.iload_n 3, 1) := by decide +kernel
theorem dL_law_856 : decode cL_law 856 = .ok (.iconst 2, 1) := by decide +kernel
theorem dL_law_857 : decode cL_law 857 = .ok (.iadd, 1) := by decide +kernel
theorem dL_law_858 : decode cL_law 858 = .ok (.iaload, 1) := by decide +kernel
theorem dL_law_859 : decode cL_law 859 = .ok (.aload_n 0, 1) := by decide +kernel
theorem dL_law_860 : decode cL_law 860 = .ok (.iload_n 3, 1) := by decide +kernel
theorem dL_law_861 : decode cL_law 861 = .ok (.iconst 3, 1) := by decide +kernel
theorem dL_law_862 : decode cL_law 862 = .ok (.iadd, 1) := by decide +kernel
theorem dL_law_863 : decode cL_law 863 = .ok (.iaload, 1) := by decide +kernel
theorem dL_law_864 : decode cL_law 864 = .ok (.invokevirtual 113, 3) := by decide +kernel
theorem dL_law_867 : decode cL_law 867 = .ok (.aload_n 2, 1) := by decide +kernel
theorem dL_law_868 : decode cL_law 868 = .ok (.aload_n 0, 1) := by decide +kernel
theorem dL_law_869 : decode cL_law 869 = .ok (.iload_n 3, 1) := by decide +kernel
theorem dL_law_870 : decode cL_law 870 = .ok (.iconst 1, 1) := by decide +kernel
theorem dL_law_871 : decode cL_law 871 = .ok (.iadd, 1) := by decide +kernel
theorem dL_law_872 : decode cL_law 872 = .ok (.iaload, 1) := by decide +kernel
theorem dL_law_873 : decode cL_law 873 = .ok (.aload_n 0, 1) := by decide +kernel
theorem dL_law_874 : decode cL_law 874 = .ok (.iload_n 3, 1) := by decide +kernel
theorem dL_law_875 : decode cL_law 875 = .ok (.iconst 2, 1) := by decide +kernel
theorem dL_law_876 : decode cL_law 876 = .ok (.iadd, 1) := by decide +kernel
theorem dL_law_877 : decode cL_law 877 = .ok (.iaload, 1) := by decide +kernel
theorem dL_law_878 : decode cL_law 878 = .ok (.aload_n 0, 1) := by decide +kernel
theorem dL_law_879 : decode cL_law 879 = .ok (.iload_n 3, 1) := by decide +kernel
theorem dL_law_880 : decode cL_law 880 = .ok (.iconst 3, 1) := by decide +kernel
theorem dL_law_881 : decode cL_law 881 = .ok (.iadd, 1) := by decide +kernel
theorem dL_law_882 : decode cL_law 882 = .ok (.iaload, 1) := by decide +kernel
theorem dL_law_883 : decode cL_law 883 = .ok (.invokevirtual 116, 3) := by decide +kernel
theorem dL_law_886 : decode cL_law 886 = .ok (.if_icmp .eq 240, 3) := by decide +kernel
theorem dL_law_889 : decode cL_law 889 = .ok (.iconst 0, 1) := by decide +kernel
theorem dL_law_890 : decode cL_law 890 = .ok (.ireturn, 1) := by decide +kernel
theorem dL_law_891 : decode cL_law 891 = .ok (.aload_n 1, 1) := by decide +kernel
theorem dL_law_892 : decode cL_law 892 = .ok (.aload_n 0, 1) := by decide +kernel
theorem dL_law_893 : decode cL_law 893 = .ok (.iload_n 3, 1) := by decide +kernel
theorem dL_law_894 : decode cL_law 894 = .ok (.iconst 1, 1) := by decide +kernel
theorem dL_law_895 : decode cL_law 895 = .ok (.iadd, 1) := by decide +kernel
theorem dL_law_896 : decode cL_law 896 = .ok (.iaload, 1) := by decide +kernel
theorem dL_law_897 : decode cL_law 897 = .ok (.aload_n 0, 1) := by decide +kernel
theorem dL_law_898 : decode cL_law 898 = .ok (.iload_n 3, 1) := by decide +kernel
theorem dL_law_899 : decode cL_law 899 = .ok (.iconst 2, 1) := by decide +kernel
theorem dL_law_900 : decode cL_law 900 = .ok (.iadd, 1) := by decide +kernel
theorem dL_law_901 : decode cL_law 901 = .ok (.iaload, 1) := by decide +kernel
theorem dL_law_902 : decode cL_law 902 = .ok (.aload_n 0, 1) := by decide +kernel
theorem dL_law_903 : decode cL_law 903 = .ok (.iload_n 3, 1) := by decide +kernel
theorem dL_law_904 : decode cL_law 904 = .ok (.iconst 3, 1) := by decide +kernel
theorem dL_law_905 : decode cL_law 905 = .ok (.iadd, 1) := by decide +kernel
theorem dL_law_906 : decode cL_law 906 = .ok (.iaload, 1) := by decide +kernel
theorem dL_law_907 : decode cL_law 907 = .ok (.invokevirtual 117, 3) := by decide +kernel
theorem dL_law_910 : decode cL_law 910 = .ok (.aload_n 2, 1) := by decide +kernel
theorem dL_law_911 : decode cL_law 911 = .ok (.aload_n 0, 1) := by decide +kernel
theorem dL_law_912 : decode cL_law 912 = .ok (.iload_n 3, 1) := by decide +kernel
theorem dL_law_913 : decode cL_law 913 = .ok (.iconst 1, 1) := by decide +kernel
theorem dL_law_914 : decode cL_law 914 = .ok (.iadd, 1) := by decide +kernel
theorem dL_law_915 : decode cL_law 915 = .ok (.iaload, 1) := by decide +kernel
theorem dL_law_916 : decode cL_law 916 = .ok (.aload_n 0, 1) := by decide +kernel
theorem dL_law_917 : decode cL_law 917 = .ok (.iload_n 3, 1) := by decide +kernel
theorem dL_law_918 : decode cL_law 918 = .ok (.iconst 2, 1) := by decide +kernel
theorem dL_law_919 : decode cL_law 919 = .ok (.iadd, 1) := by decide +kernel
theorem dL_law_920 : decode cL_law 920 = .ok (.iaload, 1) := by decide +kernel
theorem dL_law_921 : decode cL_law 921 = .ok (.aload_n 0, 1) := by decide +kernel
theorem dL_law_922 : decode cL_law 922 = .ok (.iload_n 3, 1) := by decide +kernel
theorem dL_law_923 : decode cL_law 923 = .ok (.iconst 3, 1) := by decide +kernel
theorem dL_law_924 : decode cL_law 924 = .ok (.iadd, 1) := by decide +kernel
theorem dL_law_925 : decode cL_law 925 = .ok (.iaload, 1) := by decide +kernel
theorem dL_law_926 : decode cL_law 926 = .ok (.invokevirtual 121, 3) := by decide +kernel
theorem dL_law_929 : decode cL_law 929 = .ok (.lcmp, 1) := by decide +kernel
theorem dL_law_930 : decode cL_law 930 = .ok (.ifCond .eq 196, 3) := by decide +kernel
theorem dL_law_933 : decode cL_law 933 = .ok (.iconst 0, 1) := by decide +kernel
theorem dL_law_934 : decode cL_law 934 = .ok (.ireturn, 1) := by decide +kernel
theorem dL_law_935 : decode cL_law 935 = .ok (.aload_n 1, 1) := by decide +kernel
theorem dL_law_936 : decode cL_law 936 = .ok (.aload_n 0, 1) := by decide +kernel
theorem dL_law_937 : decode cL_law 937 = .ok (.iload_n 3, 1) := by decide +kernel
theorem dL_law_938 : decode cL_law 938 = .ok (.iconst 1, 1) := by decide +kernel
theorem dL_law_939 : decode cL_law 939 = .ok (.iadd, 1) := by decide +kernel
theorem dL_law_940 : decode cL_law 940 = .ok (.iaload, 1) := by decide +kernel
theorem dL_law_941 : decode cL_law 941 = .ok (.aload_n 0, 1) := by decide +kernel
theorem dL_law_942 : decode cL_law 942 = .ok (.iload_n 3, 1) := by decide +kernel
theorem dL_law_943 : decode cL_law 943 = .ok (.iconst 2, 1) := by decide +kernel
theorem dL_law_944 : decode cL_law 944 = .ok (.iadd, 1) := by decide +kernel
theorem dL_law_945 : decode cL_law 945 = .ok (.iaload, 1) := by decide +kernel
theorem dL_law_946 : decode cL_law 946 = .ok (.aload_n 0, 1) := by decide +kernel
theorem dL_law_947 : decode cL_law 947 = .ok (.iload_n 3, 1) := by decide +kernel
theorem dL_law_948 : decode cL_law 948 = .ok (.iconst 3, 1) := by decide +kernel
theorem dL_law_949 : decode cL_law 949 = .ok (.iadd, 1) := by decide +kernel
theorem dL_law_950 : decode cL_law 950 = .ok (.iaload, 1) := by decide +kernel
theorem dL_law_951 : decode cL_law 951 = .ok (.aload_n 0, 1) := by decide +kernel
theorem dL_law_952 : decode cL_law 952 = .ok (.iload_n 3, 1) := by decide +kernel
theorem dL_law_953 : decode cL_law 953 = .ok (.iconst 4, 1) := by decide +kernel
theorem dL_law_954 : decode cL_law 954 = .ok (.iadd, 1) := by decide +kernel
theorem dL_law_955 : decode cL_law 955 = .ok (.iaload, 1) := by decide +kernel
theorem dL_law_956 : decode cL_law 956 = .ok (.aload_n 0, 1) := by decide +kernel
theorem dL_law_957 : decode cL_law 957 = .ok (.iload_n 3, 1) := by decide +kernel
theorem dL_law_958 : decode cL_law 958 = .ok (.iconst 5, 1) := by decide +kernel
theorem dL_law_959 : decode cL_law 959 = .ok (.iadd, 1) := by decide +kernel
theorem dL_law_960 : decode cL_law 960 = .ok (.iaload, 1) := by decide +kernel
theorem dL_law_961 : decode cL_law 961 = .ok (.invokevirtual 122, 3) := by decide +kernel
theorem dL_law_964 : decode cL_law 964 = .ok (.aload_n 2, 1) := by decide +kernel
theorem dL_law_965 : decode cL_law 965 = .ok (.aload_n 0, 1) := by decide +kernel
theorem dL_law_966 : decode cL_law 966 = .ok (.iload_n 3, 1) := by decide +kernel
theorem dL_law_967 : decode cL_law 967 = .ok (.iconst 1, 1) := by decide +kernel
theorem dL_law_968 : decode cL_law 968 = .ok (.iadd, 1) := by decide +kernel
theorem dL_law_969 : decode cL_law 969 = .ok (.iaload, 1) := by decide +kernel
theorem dL_law_970 : decode cL_law 970 = .ok (.aload_n 0, 1) := by decide +kernel
theorem dL_law_971 : decode cL_law 971 = .ok (.iload_n 3, 1) := by decide +kernel
theorem dL_law_972 : decode cL_law 972 = .ok (.iconst 2, 1) := by decide +kernel
theorem dL_law_973 : decode cL_law 973 = .ok (.iadd, 1) := by decide +kernel
theorem dL_law_974 : decode cL_law 974 = .ok (.iaload, 1) := by decide +kernel
theorem dL_law_975 : decode cL_law 975 = .ok (.aload_n 0, 1) := by decide +kernel
theorem dL_law_976 : decode cL_law 976 = .ok (.iload_n 3, 1) := by decide +kernel
theorem dL_law_977 : decode cL_law 977 = .ok (.iconst 3, 1) := by decide +kernel
theorem dL_law_978 : decode cL_law 978 = .ok (.iadd, 1) := by decide +kernel
theorem dL_law_979 : decode cL_law 979 = .ok (.iaload, 1) := by decide +kernel
theorem dL_law_980 : decode cL_law 980 = .ok (.aload_n 0, 1) := by decide +kernel
theorem dL_law_981 : decode cL_law 981 = .ok (.iload_n 3, 1) := by decide +kernel
theorem dL_law_982 : decode cL_law 982 = .ok (.iconst 4, 1) := by decide +kernel
theorem dL_law_983 : decode cL_law 983 = .ok (.iadd, 1) := by decide +kernel
theorem dL_law_984 : decode cL_law 984 = .ok (.iaload, 1) := by decide +kernel
theorem dL_law_985 : decode cL_law 985 = .ok (.aload_n 0, 1) := by decide +kernel
theorem dL_law_986 : decode cL_law 986 = .ok (.iload_n 3, 1) := by decide +kernel
theorem dL_law_987 : decode cL_law 987 = .ok (.iconst 5, 1) := by decide +kernel
theorem dL_law_988 : decode cL_law 988 = .ok (.iadd, 1) := by decide +kernel
theorem dL_law_989 : decode cL_law 989 = .ok (.iaload, 1) := by decide +kernel
theorem dL_law_990 : decode cL_law 990 = .ok (.invokevirtual 126, 3) := by decide +kernel
theorem dL_law_993 : decode cL_law 993 = .ok (.if_icmp .eq 133, 3) := by decide +kernel
theorem dL_law_996 : decode cL_law 996 = .ok (.iconst 0, 1) := by decide +kernel
theorem dL_law_997 : decode cL_law 997 = .ok (.ireturn, 1) := by decide +kernel
theorem dL_law_998 : decode cL_law 998 = .ok (.aload_n 1, 1) := by decide +kernel
theorem dL_law_999 : decode cL_law 999 = .ok (.aload_n 0, 1) := by decide +kernel
theorem dL_law_1000 : decode cL_law 1000 = .ok (.iload_n 3, 1) := by decide +kernel
theorem dL_law_1001 : decode cL_law 1001 = .ok (.iconst 1, 1) := by decide +kernel
theorem dL_law_1002 : decode cL_law 1002 = .ok (.iadd, 1) := by decide +kernel
theorem dL_law_1003 : decode cL_law 1003 = .ok (.iaload, 1) := by decide +kernel
theorem dL_law_1004 : decode cL_law 1004 = .ok (.invokevirtual 127, 3) := by decide +kernel
theorem dL_law_1007 : decode cL_law 1007 = .ok (.aload_n 2, 1) := by decide +kernel
theorem dL_law_1008 : decode cL_law 1008 = .ok (.aload_n 0, 1) := by decide +kernel
theorem dL_law_1009 : decode cL_law 1009 = .ok (.iload_n 3, 1) := by decide +kernel
theorem dL_law_1010 : decode cL_law 1010 = .ok (.iconst 1, 1) := by decide +kernel
theorem dL_law_1011 : decode cL_law 1011 = .ok (.iadd, 1) := by decide +kernel
theorem dL_law_1012 : decode cL_law 1012 = .ok (.iaload, 1) := by decide +kernel
theorem dL_law_1013 : decode cL_law 1013 = .ok (.invokevirtual 130, 3) := by decide +kernel
theorem dL_law_1016 : decode cL_law 1016 = .ok (.if_icmp .eq 110, 3) := by decide +kernel
theorem dL_law_1019 : decode cL_law 1019 = .ok (.iconst 0, 1) := by decide +kernel
theorem dL_law_1020 : decode cL_law 1020 = .ok (.ireturn, 1) := by decide +kernel
theorem dL_law_1021 : decode cL_law 1021 = .ok (.aload_n 1, 1) := by decide +kernel
theorem dL_law_1022 : decode cL_law 1022 = .ok (.aload_n 0, 1) := by decide +kernel
theorem dL_law_1023 : decode cL_law 1023 = .ok (.iload_n 3, 1) := by decide +kernel
theorem dL_law_1024 : decode cL_law 1024 = .ok (.iconst 1, 1) := by decide +kernel
theorem dL_law_1025 : decode cL_law 1025 = .ok (.iadd, 1) := by decide +kernel
theorem dL_law_1026 : decode cL_law 1026 = .ok (.iaload, 1) := by decide +kernel
theorem dL_law_1027 : decode cL_law 1027 = .ok (.invokevirtual 131, 3) := by decide +kernel
theorem dL_law_1030 : decode cL_law 1030 = .ok (.aload_n 2, 1) := by decide +kernel
theorem dL_law_1031 : decode cL_law 1031 = .ok (.aload_n 0, 1) := by decide +kernel
theorem dL_law_1032 : decode cL_law 1032 = .ok (.iload_n 3, 1) := by decide +kernel
theorem dL_law_1033 : decode cL_law 1033 = .ok (.iconst 1, 1) := by decide +kernel
theorem dL_law_1034 : decode cL_law 1034 = .ok (.iadd, 1) := by decide +kernel
theorem dL_law_1035 : decode cL_law 1035 = .ok (.iaload, 1) := by decide +kernel
theorem dL_law_1036 : decode cL_law 1036 = .ok (.invokevirtual 134, 3) := by decide +kernel
theorem dL_law_1039 : decode cL_law 1039 = .ok (.if_icmp .eq 87, 3) := by decide +kernel
theorem dL_law_1042 : decode cL_law 1042 = .ok (.iconst 0, 1) := by decide +kernel
theorem dL_law_1043 : decode cL_law 1043 = .ok (.ireturn, 1) := by decide +kernel
theorem dL_law_1044 : decode cL_law 1044 = .ok (.aload_n 1, 1) := by decide +kernel
theorem dL_law_1045 : decode cL_law 1045 = .ok (.aload_n 0, 1) := by decide +kernel
theorem dL_law_1046 : decode cL_law 1046 = .ok (.iload_n 3, 1) := by decide +kernel
theorem dL_law_1047 : decode cL_law 1047 = .ok (.iconst 1, 1) := by decide +kernel
theorem dL_law_1048 : decode cL_law 1048 = .ok (.iadd, 1) := by decide +kernel
theorem dL_law_1049 : decode cL_law 1049 = .ok (.iaload, 1) := by decide +kernel
theorem dL_law_1050 : decode cL_law 1050 = .ok (.aload_n 0, 1) := by decide +kernel
theorem dL_law_1051 : decode cL_law 1051 = .ok (.iload_n 3, 1) := by decide +kernel
theorem dL_law_1052 : decode cL_law 1052 = .ok (.iconst 2, 1) := by decide +kernel
theorem dL_law_1053 : decode cL_law 1053 = .ok (.iadd, 1) := by decide +kernel
theorem dL_law_1054 : decode cL_law 1054 = .ok (.iaload, 1) := by decide +kernel
theorem dL_law_1055 : decode cL_law 1055 = .ok (.invokevirtual 135, 3) := by decide +kernel
theorem dL_law_1058 : decode cL_law 1058 = .ok (.aload_n 2, 1) := by decide +kernel
theorem dL_law_1059 : decode cL_law 1059 = .ok (.aload_n 0, 1) := by decide +kernel
theorem dL_law_1060 : decode cL_law 1060 = .ok (.iload_n 3, 1) := by decide +kernel
theorem dL_law_1061 : decode cL_law 1061 = .ok (.iconst 1, 1) := by decide +kernel
theorem dL_law_1062 : decode cL_law 1062 = .ok (.iadd, 1) := by decide +kernel
theorem dL_law_1063 : decode cL_law 1063 = .ok (.iaload, 1) := by decide +kernel
theorem dL_law_1064 : decode cL_law 1064 = .ok (.aload_n 0, 1) := by decide +kernel
theorem dL_law_1065 : decode cL_law 1065 = .ok (.iload_n 3, 1) := by decide +kernel
theorem dL_law_1066 : decode cL_law 1066 = .ok (.iconst 2, 1) := by decide +kernel
theorem dL_law_1067 : decode cL_law 1067 = .ok (.iadd, 1) := by decide +kernel
theorem dL_law_1068 : decode cL_law 1068 = .ok (.iaload, 1) := by decide +kernel
theorem dL_law_1069 : decode cL_law 1069 = .ok (.invokevirtual 138, 3) := by decide +kernel
theorem dL_law_1072 : decode cL_law 1072 = .ok (.if_icmp .eq 54, 3) := by decide +kernel
theorem dL_law_1075 : decode cL_law 1075 = .ok (.iconst 0, 1) := by decide +kernel
theorem dL_law_1076 : decode cL_law 1076 = .ok (.ireturn, 1) := by decide +kernel
theorem dL_law_1077 : decode cL_law 1077 = .ok (.aload_n 1, 1) := by decide +kernel
theorem dL_law_1078 : decode cL_law 1078 = .ok (.invokevirtual 139, 3) := by decide +kernel
theorem dL_law_1081 : decode cL_law 1081 = .ok (.aload_n 2, 1) := by decide +kernel
theorem dL_law_1082 : decode cL_law 1082 = .ok (.invokevirtual 142, 3) := by decide +kernel
theorem dL_law_1085 : decode cL_law 1085 = .ok (.if_icmp .eq 41, 3) := by decide +kernel
theorem dL_law_1088 : decode cL_law 1088 = .ok (.iconst 0, 1) := by decide +kernel
theorem dL_law_1089 : decode cL_law 1089 = .ok (.ireturn, 1) := by decide +kernel
theorem dL_law_1090 : decode cL_law 1090 = .ok (.aload_n 1, 1) := by decide +kernel
theorem dL_law_1091 : decode cL_law 1091 = .ok (.invokevirtual 143, 3) := by decide +kernel
theorem dL_law_1094 : decode cL_law 1094 = .ok (.aload_n 2, 1) := by decide +kernel
theorem dL_law_1095 : decode cL_law 1095 = .ok (.invokevirtual 146, 3) := by decide +kernel
theorem dL_law_1098 : decode cL_law 1098 = .ok (.if_icmp .eq 28, 3) := by decide +kernel
theorem dL_law_1101 : decode cL_law 1101 = .ok (.iconst 0, 1) := by decide +kernel
theorem dL_law_1102 : decode cL_law 1102 = .ok (.ireturn, 1) := by decide +kernel
theorem dL_law_1103 : decode cL_law 1103 = .ok (.aload_n 1, 1) := by decide +kernel
theorem dL_law_1104 : decode cL_law 1104 = .ok (.aload_n 0, 1) := by decide +kernel
theorem dL_law_1105 : decode cL_law 1105 = .ok (.iload_n 3, 1) := by decide +kernel
theorem dL_law_1106 : decode cL_law 1106 = .ok (.iconst 1, 1) := by decide +kernel
theorem dL_law_1107 : decode cL_law 1107 = .ok (.iadd, 1) := by decide +kernel
theorem dL_law_1108 : decode cL_law 1108 = .ok (.iaload, 1) := by decide +kernel
theorem dL_law_1109 : decode cL_law 1109 = .ok (.invokevirtual 147, 3) := by decide +kernel
theorem dL_law_1112 : decode cL_law 1112 = .ok (.aload_n 2, 1) := by decide +kernel
theorem dL_law_1113 : decode cL_law 1113 = .ok (.aload_n 0, 1) := by decide +kernel
theorem dL_law_1114 : decode cL_law 1114 = .ok (.iload_n 3, 1) := by decide +kernel
theorem dL_law_1115 : decode cL_law 1115 = .ok (.iconst 1, 1) := by decide +kernel
theorem dL_law_1116 : decode cL_law 1116 = .ok (.iadd, 1) := by decide +kernel
theorem dL_law_1117 : decode cL_law 1117 = .ok (.iaload, 1) := by decide +kernel
theorem dL_law_1118 : decode cL_law 1118 = .ok (.invokevirtual 150, 3) := by decide +kernel
theorem dL_law_1121 : decode cL_law 1121 = .ok (.if_icmp .eq 5, 3) := by decide +kernel
theorem dL_law_1124 : decode cL_law 1124 = .ok (.iconst 0, 1) := by decide +kernel
theorem dL_law_1125 : decode cL_law 1125 = .ok (.ireturn, 1) := by decide +kernel
theorem dL_law_1126 : decode cL_law 1126 = .ok (.iinc 3 6, 3) := by decide +kernel
theorem dL_law_1129 : decode cL_law 1129 = .ok (.goto (-1111), 3) := by decide +kernel
theorem dL_law_1132 : decode cL_law 1132 = .ok (.iconst 1, 1) := by decide +kernel
theorem dL_law_1133 : decode cL_law 1133 = .ok (.ireturn, 1) := by decide +kernel
end
section
abbrev XT : Type := Program × Launch × Env × Room × State × MethodId × Array Value × List Frame × Method × Code × Nat × Nat
abbrev GT : Type := va_G × ClassId × ClassId × ClassId
abbrev tyl (G : GT) : List (ClassId × FieldType) := [(G.2.1, .int), (G.2.2.1, .boolean), (G.2.2.2, .object "RopedBells$Sheet")]
/-- the machine, at a pc, with these locals, this stack, this world, comes to a state with Q -/
def KJ (X : XT) (Q : State → Prop) (G : GT) (A : Nat → Prop) (nL pc : Nat) (lv : List (Nat × Value)) (st : List Value) (ws : va_W) : Prop :=
  match X with
  | (p, l, e, R, s, m, args, below, meth, c, kc, ks) => ∀ (H : Heap) (locs : List Loc) (ls : Array Slot), va_P G.1 vwCl ws H → va_D A ws → va_S A s.heap H locs → lv_has ls nL lv → W p l e R s m args below meth c H locs kc ks Q (F0 m pc ls st)
/-- what holds all through a method -/
def Cx (X : XT) (cc : ByteArray) (nL : Nat) (own : String) (G : GT) (fr lo : Nat) (ret : Option FieldType) : Prop :=
  match X with
  | (p, _, _, R, s, m, args, _, meth, c, kc, ks) => p.tables.exec = Jvm.exec ∧ c.code = cc ∧ c.maxLocals = nL ∧ s.vm.findClass own = some m.cls ∧ (∀ w ∈ TB, w.before args s = true) ∧ va_K G.1 vwCl (tyl G) s ∧ meth.locks = false ∧ meth.sig.returnType = ret ∧ R.frames = fr ∧ R.locals = lo ∧ kc ≤ R.cells ∧ ks ≤ R.slots
/-- the cells of a world -/
def aIn (w : va_W) : Nat → Prop := fun q => ∃ (k : Nat) (e : va_E), w[k]? = some (q, e)
def QcR (G : GT) (w : va_W) (o : Option Value) (w' : va_W) : Array Value → State → Outcome → State → Prop := fun _ st oc t => oc = .returned o ∧ va_P G.1 vwCl w' t.heap ∧ va_F (aIn w) st t
def QR (X : XT) (G : GT) (w : va_W) (o : Option Value) (w' : va_W) : State → Prop :=
  match X with
  | (_, _, _, _, s, _, args, below, _, _, kc, ks) => MQ below (QcR G w o w') args s kc ks (aIn w)
/-- a method's contract: from the world w, with these arguments, it answers o and leaves the world w' -/
def CT (l : Launch) (y : MethodName) (cc : ByteArray) (nL : Nat) (ret : Option FieldType) (fr lo : Nat) (av : List Value) (G : GT) (w : va_W) (o : Option Value) (w' : va_W) : Prop :=
  Met l y (.code y cc nL ret :: TB) ({ frames := fr, cells := 0, slots := 0, locals := lo } : Room) (va_Pc av (fun U => va_P G.1 vwCl w U.heap ∧ va_K G.1 vwCl (tyl G) U ∧ va_D (fun _ => True) w)) (QcR G w o w') 0 0 (aIn w)
theorem aIn_D {w : va_W} {A : Nat → Prop} (h : va_D A w) : va_D (aIn w) w := ⟨h.1, fun k q hk => ⟨k, q.2, hk⟩⟩
theorem ct_intro {l : Launch} {y : MethodName} {cc : ByteArray} {nL : Nat} {ret : Option FieldType} {fr lo : Nat} {av : List Value} {G : GT} {w : va_W} {o : Option Value} {w' : va_W} (own : String) (lv0 : List (Nat × Value)) (hy : plainName y.cls = true) (ho : y.cls = own) (hn : (lg_sl av).length ≤ nL) (h0 : lv_args 0 av = lv0)
    (body : ∀ X : XT, X.2.1 = l → Cx X cc nL own G fr lo ret → KJ X (QR X G w o w') G (aIn w) nL 0 lv0 [] w) : CT l y cc nL ret fr lo av G w o w' := by
  refine Met.ofW (cc := cc) (maxL := nL) (ret := ret) hy rfl ?_
  intro p e s m args below meth c s₁ B hml hv
  obtain ⟨rfl, hP, hK, hD0⟩ := hv
  have hts : ∀ w ∈ TB, w.before av.toArray s = true := fun w hw => atoms_spec (ws := .code y cc nL ret :: TB) B.pre w (List.mem_cons_of_mem _ hw)
  have hown : s.vm.findClass own = some m.cls := by rw [← ho]; exact findClass_of_methodNamed B.named
  have hl := lv_entry av (n := nL) hn
  rw [lg_entry_eq]
  rw [h0] at hl
  exact body (p, l, e, _, s, m, av.toArray, below, meth, c, 0, 0) rfl ⟨B.exec, B.bytes, hml, hown, hts, hK, B.notSynchronized, B.returns, rfl, rfl, Nat.le_refl _, Nat.le_refl _⟩ s.heap [] _ hP (aIn_D hD0) va_S.rf hl
-- the model's own words
def gB {α : Type} (b : Bool) (x : Option α) : Option α := if b = true then x else none
def nme {α β : Type} (a : α) (f : α → β) : β := f a
def inb (i : Int32) (n : Nat) : Bool := decide (0 ≤ i.toInt ∧ i.toInt < (n : Int))
theorem bnd {α β : Type} {x : Option α} {f : α → Option β} {y : β} (h : x.bind f = some y) : ∃ u, x = some u ∧ f u = some y := Option.bind_eq_some_iff.mp h
theorem gB_s {α : Type} {b : Bool} {x : Option α} {y : α} (h : gB b x = some y) : b = true ∧ x = some y := by
  unfold gB at h
  split at h
  · exact ⟨by assumption, h⟩
  · cases h
theorem noS {α : Type} {y : α} {P : Prop} (h : (none : Option α) = some y) : P := by cases h
theorem inb_in {i : Int32} {n : Nat} (h : inb i n = true) : vp_in i n := vp_in_iff.mpr (of_decide_eq_true h)
section KJ
variable {X : XT} {Q : State → Prop} {G : GT} {A : Nat → Prop} {nL : Nat} {lv lv' : List (Nat × Value)} {st : List Value} {ws : va_W} {cc : ByteArray} {own : String} {fr lo : Nat} {ret : Option FieldType}
theorem k_lv (ks : List Nat) (hl : lv_pick lv ks = lv') {pc : Nat} (k : KJ X Q G A nL pc lv' st ws) : KJ X Q G A nL pc lv st ws := by
  obtain ⟨p, l, e, R, s, m, args, below, meth, c, kc, ks⟩ := X
  exact fun H locs ls hP hD hS hl' => k H locs ls hP hD hS (lv_sub hl' _ hl)
theorem k_iload (pc : Nat) (cx : Cx X cc nL own G fr lo ret) {i : Nat} {x : Int32} (hd : decode cc pc = .ok (.iload i, 2)) (n : Nat) (h : lv[n]? = some (i, .int x)) (k : KJ X Q G A nL (pc + 2) lv (.int x :: st) ws) : KJ X Q G A nL pc lv st ws := by
  obtain ⟨p, l, e, R, s, m, args, below, meth, c, kc, ks⟩ := X
  obtain ⟨hx, hb, hml, hown, hts, hK, hlk, hr, hfr, hlo, hkc, hks⟩ := cx
  exact fun H locs ls hP hD hS hl => lv_iload hx hb hd (lv_at hl n h) (k H locs ls hP hD hS hl)
theorem k_iload_n (pc : Nat) (cx : Cx X cc nL own G fr lo ret) {j : Fin 4} {i : Nat} {x : Int32} (hd : decode cc pc = .ok (.iload_n j, 1)) (hi : (j : Nat) = i) (n : Nat) (h : lv[n]? = some (i, .int x)) (k : KJ X Q G A nL (pc + 1) lv (.int x :: st) ws) : KJ X Q G A nL pc lv st ws := by
  obtain ⟨p, l, e, R, s, m, args, below, meth, c, kc, ks⟩ := X
  obtain ⟨hx, hb, hml, hown, hts, hK, hlk, hr, hfr, hlo, hkc, hks⟩ := cx
  exact fun H locs ls hP hD hS hl => lv_iload_n hx hb hd hi (lv_at hl n h) (k H locs ls hP hD hS hl)
theorem k_lload (pc : Nat) (cx : Cx X cc nL own G fr lo ret) {i : Nat} {x : Int64} (hd : decode cc pc = .ok (.lload i, 2)) (n : Nat) (h : lv[n]? = some (i, .long x)) (k : KJ X Q G A nL (pc + 2) lv (.long x :: st) ws) : KJ X Q G A nL pc lv st ws := by
  obtain ⟨p, l, e, R, s, m, args, below, meth, c, kc, ks⟩ := X
  obtain ⟨hx, hb, hml, hown, hts, hK, hlk, hr, hfr, hlo, hkc, hks⟩ := cx
  exact fun H locs ls hP hD hS hl => lv_lload hx hb hd (lv_at hl n h) (k H locs ls hP hD hS hl)
theorem k_lload_n (pc : Nat) (cx : Cx X cc nL own G fr lo ret) {j : Fin 4} {i : Nat} {x : Int64} (hd : decode cc pc = .ok (.lload_n j, 1)) (hi : (j : Nat) = i) (n : Nat) (h : lv[n]? = some (i, .long x)) (k : KJ X Q G A nL (pc + 1) lv (.long x :: st) ws) : KJ X Q G A nL pc lv st ws := by
  obtain ⟨p, l, e, R, s, m, args, below, meth, c, kc, ks⟩ := X
  obtain ⟨hx, hb, hml, hown, hts, hK, hlk, hr, hfr, hlo, hkc, hks⟩ := cx
  exact fun H locs ls hP hD hS hl => lv_lload_n hx hb hd hi (lv_at hl n h) (k H locs ls hP hD hS hl)
theorem k_aload (pc : Nat) (cx : Cx X cc nL own G fr lo ret) {i : Nat} {x : Nat} (hd : decode cc pc = .ok (.aload i, 2)) (n : Nat) (h : lv[n]? = some (i, .ref x)) (k : KJ X Q G A nL (pc + 2) lv (.ref x :: st) ws) : KJ X Q G A nL pc lv st ws := by
  obtain ⟨p, l, e, R, s, m, args, below, meth, c, kc, ks⟩ := X
  obtain ⟨hx, hb, hml, hown, hts, hK, hlk, hr, hfr, hlo, hkc, hks⟩ := cx
  exact fun H locs ls hP hD hS hl => lv_aload hx hb hd (lv_at hl n h) (k H locs ls hP hD hS hl)
theorem k_aload_n (pc : Nat) (cx : Cx X cc nL own G fr lo ret) {j : Fin 4} {i : Nat} {x : Nat} (hd : decode cc pc = .ok (.aload_n j, 1)) (hi : (j : Nat) = i) (n : Nat) (h : lv[n]? = some (i, .ref x)) (k : KJ X Q G A nL (pc + 1) lv (.ref x :: st) ws) : KJ X Q G A nL pc lv st ws := by
  obtain ⟨p, l, e, R, s, m, args, below, meth, c, kc, ks⟩ := X
  obtain ⟨hx, hb, hml, hown, hts, hK, hlk, hr, hfr, hlo, hkc, hks⟩ := cx
  exact fun H locs ls hP hD hS hl => lv_aload_n hx hb hd hi (lv_at hl n h) (k H locs ls hP hD hS hl)
theorem k_istore (pc : Nat) (cx : Cx X cc nL own G fr lo ret) {i : Nat} {x : Int32} (hd : decode cc pc = .ok (.istore i, 2)) (hn : i < nL) (hl0 : (i, Value.int x) :: lv.filter (fun q => !(q.1 == i) && !(q.1 + 1 == i && q.2.category == 2)) = lv') (k : KJ X Q G A nL (pc + 2) lv' st ws) : KJ X Q G A nL pc lv (.int x :: st) ws := by
  obtain ⟨p, l, e, R, s, m, args, below, meth, c, kc, ks⟩ := X
  obtain ⟨hx, hb, hml, hown, hts, hK, hlk, hr, hfr, hlo, hkc, hks⟩ := cx
  exact fun H locs ls hP hD hS hl => lv_istore hx hb hd hl hn hl0 (fun ls' hl' => k H locs ls' hP hD hS hl')
theorem k_istore_n (pc : Nat) (cx : Cx X cc nL own G fr lo ret) {j : Fin 4} {i : Nat} {x : Int32} (hd : decode cc pc = .ok (.istore_n j, 1)) (hi : (j : Nat) = i) (hn : i < nL) (hl0 : (i, Value.int x) :: lv.filter (fun q => !(q.1 == i) && !(q.1 + 1 == i && q.2.category == 2)) = lv') (k : KJ X Q G A nL (pc + 1) lv' st ws) : KJ X Q G A nL pc lv (.int x :: st) ws := by
  obtain ⟨p, l, e, R, s, m, args, below, meth, c, kc, ks⟩ := X
  obtain ⟨hx, hb, hml, hown, hts, hK, hlk, hr, hfr, hlo, hkc, hks⟩ := cx
  exact fun H locs ls hP hD hS hl => lv_istore_n hx hb hd hi hl hn hl0 (fun ls' hl' => k H locs ls' hP hD hS hl')
theorem k_lstore (pc : Nat) (cx : Cx X cc nL own G fr lo ret) {i : Nat} {x : Int64} (hd : decode cc pc = .ok (.lstore i, 2)) (hn : i + 1 < nL) (hl0 : (i, Value.long x) :: lv.filter (fun q => !(q.1 == i) && (!(q.1 == i + 1) && !(q.1 + 1 == i && q.2.category == 2))) = lv') (k : KJ X Q G A nL (pc + 2) lv' st ws) : KJ X Q G A nL pc lv (.long x :: st) ws := by
  obtain ⟨p, l, e, R, s, m, args, below, meth, c, kc, ks⟩ := X
  obtain ⟨hx, hb, hml, hown, hts, hK, hlk, hr, hfr, hlo, hkc, hks⟩ := cx
  exact fun H locs ls hP hD hS hl => lv_lstore hx hb hd hl hn hl0 (fun ls' hl' => k H locs ls' hP hD hS hl')
theorem k_lstore_n (pc : Nat) (cx : Cx X cc nL own G fr lo ret) {j : Fin 4} {i : Nat} {x : Int64} (hd : decode cc pc = .ok (.lstore_n j, 1)) (hi : (j : Nat) = i) (hn : i + 1 < nL) (hl0 : (i, Value.long x) :: lv.filter (fun q => !(q.1 == i) && (!(q.1 == i + 1) && !(q.1 + 1 == i && q.2.category == 2))) = lv') (k : KJ X Q G A nL (pc + 1) lv' st ws) : KJ X Q G A nL pc lv (.long x :: st) ws := by
  obtain ⟨p, l, e, R, s, m, args, below, meth, c, kc, ks⟩ := X
  obtain ⟨hx, hb, hml, hown, hts, hK, hlk, hr, hfr, hlo, hkc, hks⟩ := cx
  exact fun H locs ls hP hD hS hl => lv_lstore_n hx hb hd hi hl hn hl0 (fun ls' hl' => k H locs ls' hP hD hS hl')
theorem k_astore (pc : Nat) (cx : Cx X cc nL own G fr lo ret) {i : Nat} {x : Nat} (hd : decode cc pc = .ok (.astore i, 2)) (hn : i < nL) (hl0 : (i, Value.ref x) :: lv.filter (fun q => !(q.1 == i) && !(q.1 + 1 == i && q.2.category == 2)) = lv') (k : KJ X Q G A nL (pc + 2) lv' st ws) : KJ X Q G A nL pc lv (.ref x :: st) ws := by
  obtain ⟨p, l, e, R, s, m, args, below, meth, c, kc, ks⟩ := X
  obtain ⟨hx, hb, hml, hown, hts, hK, hlk, hr, hfr, hlo, hkc, hks⟩ := cx
  exact fun H locs ls hP hD hS hl => lv_astore hx hb hd hl hn hl0 (fun ls' hl' => k H locs ls' hP hD hS hl')
theorem k_astore_n (pc : Nat) (cx : Cx X cc nL own G fr lo ret) {j : Fin 4} {i : Nat} {x : Nat} (hd : decode cc pc = .ok (.astore_n j, 1)) (hi : (j : Nat) = i) (hn : i < nL) (hl0 : (i, Value.ref x) :: lv.filter (fun q => !(q.1 == i) && !(q.1 + 1 == i && q.2.category == 2)) = lv') (k : KJ X Q G A nL (pc + 1) lv' st ws) : KJ X Q G A nL pc lv (.ref x :: st) ws := by
  obtain ⟨p, l, e, R, s, m, args, below, meth, c, kc, ks⟩ := X
  obtain ⟨hx, hb, hml, hown, hts, hK, hlk, hr, hfr, hlo, hkc, hks⟩ := cx
  exact fun H locs ls hP hD hS hl => lv_astore_n hx hb hd hi hl hn hl0 (fun ls' hl' => k H locs ls' hP hD hS hl')
theorem k_iinc {β : Type} (pc : Nat) (cx : Cx X cc nL own G fr lo ret) {i : Nat} {n : Int} {x v : Int32} {b : Int32 → Option β} {y : β} (hd : decode cc pc = .ok (.iinc i n, 3)) (q : Nat) (h : lv[q]? = some (i, .int x)) (hv : Int32.ofInt n = v) (hn : i < nL) (lw : Int32 → List (Nat × Value)) (hl0 : ∀ z, (i, Value.int z) :: lv.filter (fun q => !(q.1 == i) && !(q.1 + 1 == i && q.2.category == 2)) = lw z) (hm : nme (x + v) b = some y) (k : ∀ z : Int32, b z = some y → KJ X Q G A nL (pc + 3) (lw z) st ws) : KJ X Q G A nL pc lv st ws := by
  obtain ⟨p, l, e, R, s, m, args, below, meth, c, kc, ks⟩ := X
  obtain ⟨hx, hb, hml, hown, hts, hK, hlk, hr, hfr, hlo, hkc, hks⟩ := cx
  exact fun H locs ls hP hD hS hl => lv_iinc hx hb hd hl h rfl hn (hl0 _) (fun ls' hl' => by subst hv; exact k (x + Int32.ofInt n) hm H locs ls' hP hD hS hl')
theorem k_nm {β : Type} {x : Int32} {b : Int32 → Option β} {y : β} {pc : Nat} (hm : nme x b = some y) (k : ∀ z : Int32, b z = some y → KJ X Q G A nL pc lv (.int z :: st) ws) : KJ X Q G A nL pc lv (.int x :: st) ws := k x hm
theorem k_nml {β : Type} {x : Int64} {b : Int64 → Option β} {y : β} {pc : Nat} (hm : nme x b = some y) (k : ∀ z : Int64, b z = some y → KJ X Q G A nL pc lv (.long z :: st) ws) : KJ X Q G A nL pc lv (.long x :: st) ws := k x hm
theorem k_iconst (pc : Nat) (cx : Cx X cc nL own G fr lo ret) {n : Int} {v : Int32} (hd : decode cc pc = .ok (.iconst n, 1)) (hv : Int32.ofInt n = v) (k : KJ X Q G A nL (pc + 1) lv (.int v :: st) ws) : KJ X Q G A nL pc lv st ws := by
  obtain ⟨p, l, e, R, s, m, args, below, meth, c, kc, ks⟩ := X
  obtain ⟨hx, hb, hml, hown, hts, hK, hlk, hr, hfr, hlo, hkc, hks⟩ := cx
  exact fun H locs ls hP hD hS hl => lv_iconst hx hb hd hv (k H locs ls hP hD hS hl)
theorem k_bipush (pc : Nat) (cx : Cx X cc nL own G fr lo ret) {n : Int} {v : Int32} (hd : decode cc pc = .ok (.bipush n, 2)) (hv : (Int8.ofInt n).toInt32 = v) (k : KJ X Q G A nL (pc + 2) lv (.int v :: st) ws) : KJ X Q G A nL pc lv st ws := by
  obtain ⟨p, l, e, R, s, m, args, below, meth, c, kc, ks⟩ := X
  obtain ⟨hx, hb, hml, hown, hts, hK, hlk, hr, hfr, hlo, hkc, hks⟩ := cx
  exact fun H locs ls hP hD hS hl => lv_bipush hx hb hd hv (k H locs ls hP hD hS hl)
theorem k_sipush (pc : Nat) (cx : Cx X cc nL own G fr lo ret) {n : Int} {v : Int32} (hd : decode cc pc = .ok (.sipush n, 3)) (hv : (Int16.ofInt n).toInt32 = v) (k : KJ X Q G A nL (pc + 3) lv (.int v :: st) ws) : KJ X Q G A nL pc lv st ws := by
  obtain ⟨p, l, e, R, s, m, args, below, meth, c, kc, ks⟩ := X
  obtain ⟨hx, hb, hml, hown, hts, hK, hlk, hr, hfr, hlo, hkc, hks⟩ := cx
  exact fun H locs ls hP hD hS hl => lv_sipush hx hb hd hv (k H locs ls hP hD hS hl)
theorem k_lconst (pc : Nat) (cx : Cx X cc nL own G fr lo ret) {n : Fin 2} {v : Int64} (hd : decode cc pc = .ok (.lconst n, 1)) (hv : Int64.ofNat (n : Nat) = v) (k : KJ X Q G A nL (pc + 1) lv (.long v :: st) ws) : KJ X Q G A nL pc lv st ws := by
  obtain ⟨p, l, e, R, s, m, args, below, meth, c, kc, ks⟩ := X
  obtain ⟨hx, hb, hml, hown, hts, hK, hlk, hr, hfr, hlo, hkc, hks⟩ := cx
  exact fun H locs ls hP hD hS hl => lv_lconst hx hb hd hv (k H locs ls hP hD hS hl)
theorem k_ldc_w (pc : Nat) (cx : Cx X cc nL own G fr lo ret) {n : Nat} {v : Int32} (hd : decode cc pc = .ok (.ldc_w n, 3)) (hw : Cond.constant own n v ∈ TB) (k : KJ X Q G A nL (pc + 3) lv (.int v :: st) ws) : KJ X Q G A nL pc lv st ws := by
  obtain ⟨p, l, e, R, s, m, args, below, meth, c, kc, ks⟩ := X
  obtain ⟨hx, hb, hml, hown, hts, hK, hlk, hr, hfr, hlo, hkc, hks⟩ := cx
  exact fun H locs ls hP hD hS hl => lv_ldcw hx hb hown (hts _ hw) hd (k H locs ls hP hD hS hl)
theorem k_ldc2_w (pc : Nat) (cx : Cx X cc nL own G fr lo ret) {n : Nat} {v : Int64} (hd : decode cc pc = .ok (.ldc2_w n, 3)) (hw : Cond.constantLong own n v ∈ TB) (k : KJ X Q G A nL (pc + 3) lv (.long v :: st) ws) : KJ X Q G A nL pc lv st ws := by
  obtain ⟨p, l, e, R, s, m, args, below, meth, c, kc, ks⟩ := X
  obtain ⟨hx, hb, hml, hown, hts, hK, hlk, hr, hfr, hlo, hkc, hks⟩ := cx
  exact fun H locs ls hP hD hS hl => lv_ldc2 hx hb hown (hts _ hw) hd (k H locs ls hP hD hS hl)
theorem k_iadd (pc : Nat) (cx : Cx X cc nL own G fr lo ret) {x y : Int32} (hd : decode cc pc = .ok (.iadd, 1)) (k : KJ X Q G A nL (pc + 1) lv (.int (x + y) :: st) ws) : KJ X Q G A nL pc lv (.int y :: .int x :: st) ws := by
  obtain ⟨p, l, e, R, s, m, args, below, meth, c, kc, ks⟩ := X
  obtain ⟨hx, hb, hml, hown, hts, hK, hlk, hr, hfr, hlo, hkc, hks⟩ := cx
  exact fun H locs ls hP hD hS hl => lv_iadd hx hb hd (k H locs ls hP hD hS hl)
theorem k_isub (pc : Nat) (cx : Cx X cc nL own G fr lo ret) {x y : Int32} (hd : decode cc pc = .ok (.isub, 1)) (k : KJ X Q G A nL (pc + 1) lv (.int (x - y) :: st) ws) : KJ X Q G A nL pc lv (.int y :: .int x :: st) ws := by
  obtain ⟨p, l, e, R, s, m, args, below, meth, c, kc, ks⟩ := X
  obtain ⟨hx, hb, hml, hown, hts, hK, hlk, hr, hfr, hlo, hkc, hks⟩ := cx
  exact fun H locs ls hP hD hS hl => lv_isub hx hb hd (k H locs ls hP hD hS hl)
theorem k_imul (pc : Nat) (cx : Cx X cc nL own G fr lo ret) {x y : Int32} (hd : decode cc pc = .ok (.imul, 1)) (k : KJ X Q G A nL (pc + 1) lv (.int (x * y) :: st) ws) : KJ X Q G A nL pc lv (.int y :: .int x :: st) ws := by
  obtain ⟨p, l, e, R, s, m, args, below, meth, c, kc, ks⟩ := X
  obtain ⟨hx, hb, hml, hown, hts, hK, hlk, hr, hfr, hlo, hkc, hks⟩ := cx
  exact fun H locs ls hP hD hS hl => lv_imul hx hb hd (k H locs ls hP hD hS hl)
theorem k_iand (pc : Nat) (cx : Cx X cc nL own G fr lo ret) {x y : Int32} (hd : decode cc pc = .ok (.iand, 1)) (k : KJ X Q G A nL (pc + 1) lv (.int (x &&& y) :: st) ws) : KJ X Q G A nL pc lv (.int y :: .int x :: st) ws := by
  obtain ⟨p, l, e, R, s, m, args, below, meth, c, kc, ks⟩ := X
  obtain ⟨hx, hb, hml, hown, hts, hK, hlk, hr, hfr, hlo, hkc, hks⟩ := cx
  exact fun H locs ls hP hD hS hl => lv_iand hx hb hd (k H locs ls hP hD hS hl)
theorem k_ior (pc : Nat) (cx : Cx X cc nL own G fr lo ret) {x y : Int32} (hd : decode cc pc = .ok (.ior, 1)) (k : KJ X Q G A nL (pc + 1) lv (.int (x ||| y) :: st) ws) : KJ X Q G A nL pc lv (.int y :: .int x :: st) ws := by
  obtain ⟨p, l, e, R, s, m, args, below, meth, c, kc, ks⟩ := X
  obtain ⟨hx, hb, hml, hown, hts, hK, hlk, hr, hfr, hlo, hkc, hks⟩ := cx
  exact fun H locs ls hP hD hS hl => lv_ior hx hb hd (k H locs ls hP hD hS hl)
theorem k_ixor (pc : Nat) (cx : Cx X cc nL own G fr lo ret) {x y : Int32} (hd : decode cc pc = .ok (.ixor, 1)) (k : KJ X Q G A nL (pc + 1) lv (.int (x ^^^ y) :: st) ws) : KJ X Q G A nL pc lv (.int y :: .int x :: st) ws := by
  obtain ⟨p, l, e, R, s, m, args, below, meth, c, kc, ks⟩ := X
  obtain ⟨hx, hb, hml, hown, hts, hK, hlk, hr, hfr, hlo, hkc, hks⟩ := cx
  exact fun H locs ls hP hD hS hl => lv_ixor hx hb hd (k H locs ls hP hD hS hl)
theorem k_ishl (pc : Nat) (cx : Cx X cc nL own G fr lo ret) {x y : Int32} (hd : decode cc pc = .ok (.ishl, 1)) (k : KJ X Q G A nL (pc + 1) lv (.int (x <<< (y &&& 31)) :: st) ws) : KJ X Q G A nL pc lv (.int y :: .int x :: st) ws := by
  obtain ⟨p, l, e, R, s, m, args, below, meth, c, kc, ks⟩ := X
  obtain ⟨hx, hb, hml, hown, hts, hK, hlk, hr, hfr, hlo, hkc, hks⟩ := cx
  exact fun H locs ls hP hD hS hl => lv_ishl hx hb hd (k H locs ls hP hD hS hl)
theorem k_ishr (pc : Nat) (cx : Cx X cc nL own G fr lo ret) {x y : Int32} (hd : decode cc pc = .ok (.ishr, 1)) (k : KJ X Q G A nL (pc + 1) lv (.int (x >>> (y &&& 31)) :: st) ws) : KJ X Q G A nL pc lv (.int y :: .int x :: st) ws := by
  obtain ⟨p, l, e, R, s, m, args, below, meth, c, kc, ks⟩ := X
  obtain ⟨hx, hb, hml, hown, hts, hK, hlk, hr, hfr, hlo, hkc, hks⟩ := cx
  exact fun H locs ls hP hD hS hl => lv_ishr hx hb hd (k H locs ls hP hD hS hl)
theorem k_iushr (pc : Nat) (cx : Cx X cc nL own G fr lo ret) {x y : Int32} (hd : decode cc pc = .ok (.iushr, 1)) (k : KJ X Q G A nL (pc + 1) lv (.int ((x.toUInt32 >>> (y.toUInt32 &&& Int32.toUInt32 31)).toInt32) :: st) ws) : KJ X Q G A nL pc lv (.int y :: .int x :: st) ws := by
  obtain ⟨p, l, e, R, s, m, args, below, meth, c, kc, ks⟩ := X
  obtain ⟨hx, hb, hml, hown, hts, hK, hlk, hr, hfr, hlo, hkc, hks⟩ := cx
  exact fun H locs ls hP hD hS hl => lv_iushr hx hb hd rfl (k H locs ls hP hD hS hl)
theorem k_ladd (pc : Nat) (cx : Cx X cc nL own G fr lo ret) {x y : Int64} (hd : decode cc pc = .ok (.ladd, 1)) (k : KJ X Q G A nL (pc + 1) lv (.long (x + y) :: st) ws) : KJ X Q G A nL pc lv (.long y :: .long x :: st) ws := by
  obtain ⟨p, l, e, R, s, m, args, below, meth, c, kc, ks⟩ := X
  obtain ⟨hx, hb, hml, hown, hts, hK, hlk, hr, hfr, hlo, hkc, hks⟩ := cx
  exact fun H locs ls hP hD hS hl => lv_ladd hx hb hd (k H locs ls hP hD hS hl)
theorem k_lsub (pc : Nat) (cx : Cx X cc nL own G fr lo ret) {x y : Int64} (hd : decode cc pc = .ok (.lsub, 1)) (k : KJ X Q G A nL (pc + 1) lv (.long (x - y) :: st) ws) : KJ X Q G A nL pc lv (.long y :: .long x :: st) ws := by
  obtain ⟨p, l, e, R, s, m, args, below, meth, c, kc, ks⟩ := X
  obtain ⟨hx, hb, hml, hown, hts, hK, hlk, hr, hfr, hlo, hkc, hks⟩ := cx
  exact fun H locs ls hP hD hS hl => lv_lsub hx hb hd (k H locs ls hP hD hS hl)
theorem k_lcmp (pc : Nat) (cx : Cx X cc nL own G fr lo ret) {x y : Int64} (hd : decode cc pc = .ok (.lcmp, 1)) (k : KJ X Q G A nL (pc + 1) lv (.int (lg_cmp x y) :: st) ws) : KJ X Q G A nL pc lv (.long y :: .long x :: st) ws := by
  obtain ⟨p, l, e, R, s, m, args, below, meth, c, kc, ks⟩ := X
  obtain ⟨hx, hb, hml, hown, hts, hK, hlk, hr, hfr, hlo, hkc, hks⟩ := cx
  exact fun H locs ls hP hD hS hl => W.lcmp hx hb hd (k H locs ls hP hD hS hl)
theorem k_i2l (pc : Nat) (cx : Cx X cc nL own G fr lo ret) {x : Int32} (hd : decode cc pc = .ok (.i2l, 1)) (k : KJ X Q G A nL (pc + 1) lv (.long (x.toInt64) :: st) ws) : KJ X Q G A nL pc lv (.int x :: st) ws := by
  obtain ⟨p, l, e, R, s, m, args, below, meth, c, kc, ks⟩ := X
  obtain ⟨hx, hb, hml, hown, hts, hK, hlk, hr, hfr, hlo, hkc, hks⟩ := cx
  exact fun H locs ls hP hD hS hl => lv_i2l hx hb hd rfl (k H locs ls hP hD hS hl)
theorem k_i2b (pc : Nat) (cx : Cx X cc nL own G fr lo ret) {x : Int32} (hd : decode cc pc = .ok (.i2b, 1)) (k : KJ X Q G A nL (pc + 1) lv (.int (x.toInt8.toInt32) :: st) ws) : KJ X Q G A nL pc lv (.int x :: st) ws := by
  obtain ⟨p, l, e, R, s, m, args, below, meth, c, kc, ks⟩ := X
  obtain ⟨hx, hb, hml, hown, hts, hK, hlk, hr, hfr, hlo, hkc, hks⟩ := cx
  exact fun H locs ls hP hD hS hl => lv_i2b hx hb hd rfl (k H locs ls hP hD hS hl)
theorem k_i2s (pc : Nat) (cx : Cx X cc nL own G fr lo ret) {x : Int32} (hd : decode cc pc = .ok (.i2s, 1)) (k : KJ X Q G A nL (pc + 1) lv (.int (x.toInt16.toInt32) :: st) ws) : KJ X Q G A nL pc lv (.int x :: st) ws := by
  obtain ⟨p, l, e, R, s, m, args, below, meth, c, kc, ks⟩ := X
  obtain ⟨hx, hb, hml, hown, hts, hK, hlk, hr, hfr, hlo, hkc, hks⟩ := cx
  exact fun H locs ls hP hD hS hl => lv_i2s hx hb hd rfl (k H locs ls hP hD hS hl)
theorem k_dup (pc : Nat) (cx : Cx X cc nL own G fr lo ret) {v : Value} (hd : decode cc pc = .ok (.dup, 1)) (hv : v.category = 1) (k : KJ X Q G A nL (pc + 1) lv (v :: v :: st) ws) : KJ X Q G A nL pc lv (v :: st) ws := by
  obtain ⟨p, l, e, R, s, m, args, below, meth, c, kc, ks⟩ := X
  obtain ⟨hx, hb, hml, hown, hts, hK, hlk, hr, hfr, hlo, hkc, hks⟩ := cx
  exact fun H locs ls hP hD hS hl => lv_dup hx hb hd hv (k H locs ls hP hD hS hl)
theorem k_dup2 (pc : Nat) (cx : Cx X cc nL own G fr lo ret) {v w : Value} (hd : decode cc pc = .ok (.dup2, 1)) (hv : v.category = 1) (hw : w.category = 1) (k : KJ X Q G A nL (pc + 1) lv (v :: w :: v :: w :: st) ws) : KJ X Q G A nL pc lv (v :: w :: st) ws := by
  obtain ⟨p, l, e, R, s, m, args, below, meth, c, kc, ks⟩ := X
  obtain ⟨hx, hb, hml, hown, hts, hK, hlk, hr, hfr, hlo, hkc, hks⟩ := cx
  exact fun H locs ls hP hD hS hl => lv_dup2_11 hx hb hd hv hw (k H locs ls hP hD hS hl)
theorem k_goto (pc : Nat) (cx : Cx X cc nL own G fr lo ret) {off : Int} {tgt : Nat} (hd : decode cc pc = .ok (.goto off, 3)) (ht : (pc : Int) + off = (tgt : Int)) (k : KJ X Q G A nL (tgt) lv st ws) : KJ X Q G A nL pc lv st ws := by
  obtain ⟨p, l, e, R, s, m, args, below, meth, c, kc, ks⟩ := X
  obtain ⟨hx, hb, hml, hown, hts, hK, hlk, hr, hfr, hlo, hkc, hks⟩ := cx
  exact fun H locs ls hP hD hS hl => lv_goto hx hb hd ht (k H locs ls hP hD hS hl)
theorem k_idiv {β : Type} (pc : Nat) (cx : Cx X cc nL own G fr lo ret) {x y : Int32} {b : Option β} {z : β} (hd : decode cc pc = .ok (.idiv, 1)) (hm : gB (decide (¬ y = 0)) b = some z) (k : b = some z → KJ X Q G A nL (pc + 1) lv (.int (x / y) :: st) ws) : KJ X Q G A nL pc lv (.int y :: .int x :: st) ws := by
  obtain ⟨p, l, e, R, s, m, args, below, meth, c, kc, ks⟩ := X
  obtain ⟨hx, hb, hml, hown, hts, hK, hlk, hr, hfr, hlo, hkc, hks⟩ := cx
  exact fun H locs ls hP hD hS hl => lv_idiv hx hb hd (of_decide_eq_true (gB_s hm).1) (k (gB_s hm).2 H locs ls hP hD hS hl)
theorem k_idiv_c (pc : Nat) (cx : Cx X cc nL own G fr lo ret) {x y : Int32} (hd : decode cc pc = .ok (.idiv, 1)) (hne : ¬ y = 0) (k : KJ X Q G A nL (pc + 1) lv (.int (x / y) :: st) ws) : KJ X Q G A nL pc lv (.int y :: .int x :: st) ws := by
  obtain ⟨p, l, e, R, s, m, args, below, meth, c, kc, ks⟩ := X
  obtain ⟨hx, hb, hml, hown, hts, hK, hlk, hr, hfr, hlo, hkc, hks⟩ := cx
  exact fun H locs ls hP hD hS hl => lv_idiv hx hb hd hne (k H locs ls hP hD hS hl)
theorem k_irem {β : Type} (pc : Nat) (cx : Cx X cc nL own G fr lo ret) {x y : Int32} {b : Option β} {z : β} (hd : decode cc pc = .ok (.irem, 1)) (hm : gB (decide (¬ y = 0)) b = some z) (k : b = some z → KJ X Q G A nL (pc + 1) lv (.int (x - x / y * y) :: st) ws) : KJ X Q G A nL pc lv (.int y :: .int x :: st) ws := by
  obtain ⟨p, l, e, R, s, m, args, below, meth, c, kc, ks⟩ := X
  obtain ⟨hx, hb, hml, hown, hts, hK, hlk, hr, hfr, hlo, hkc, hks⟩ := cx
  exact fun H locs ls hP hD hS hl => lv_irem hx hb hd (of_decide_eq_true (gB_s hm).1) (k (gB_s hm).2 H locs ls hP hD hS hl)
theorem k_irem_c (pc : Nat) (cx : Cx X cc nL own G fr lo ret) {x y : Int32} (hd : decode cc pc = .ok (.irem, 1)) (hne : ¬ y = 0) (k : KJ X Q G A nL (pc + 1) lv (.int (x - x / y * y) :: st) ws) : KJ X Q G A nL pc lv (.int y :: .int x :: st) ws := by
  obtain ⟨p, l, e, R, s, m, args, below, meth, c, kc, ks⟩ := X
  obtain ⟨hx, hb, hml, hown, hts, hK, hlk, hr, hfr, hlo, hkc, hks⟩ := cx
  exact fun H locs ls hP hD hS hl => lv_irem hx hb hd hne (k H locs ls hP hD hS hl)
theorem k_ldiv {β : Type} (pc : Nat) (cx : Cx X cc nL own G fr lo ret) {x y : Int64} {b : Option β} {z : β} (hd : decode cc pc = .ok (.ldiv, 1)) (hm : gB (decide (¬ y = 0)) b = some z) (k : b = some z → KJ X Q G A nL (pc + 1) lv (.long (x / y) :: st) ws) : KJ X Q G A nL pc lv (.long y :: .long x :: st) ws := by
  obtain ⟨p, l, e, R, s, m, args, below, meth, c, kc, ks⟩ := X
  obtain ⟨hx, hb, hml, hown, hts, hK, hlk, hr, hfr, hlo, hkc, hks⟩ := cx
  exact fun H locs ls hP hD hS hl => lv_ldiv hx hb hd (of_decide_eq_true (gB_s hm).1) (k (gB_s hm).2 H locs ls hP hD hS hl)
theorem k_ldiv_c (pc : Nat) (cx : Cx X cc nL own G fr lo ret) {x y : Int64} (hd : decode cc pc = .ok (.ldiv, 1)) (hne : ¬ y = 0) (k : KJ X Q G A nL (pc + 1) lv (.long (x / y) :: st) ws) : KJ X Q G A nL pc lv (.long y :: .long x :: st) ws := by
  obtain ⟨p, l, e, R, s, m, args, below, meth, c, kc, ks⟩ := X
  obtain ⟨hx, hb, hml, hown, hts, hK, hlk, hr, hfr, hlo, hkc, hks⟩ := cx
  exact fun H locs ls hP hD hS hl => lv_ldiv hx hb hd hne (k H locs ls hP hD hS hl)
theorem k_lrem {β : Type} (pc : Nat) (cx : Cx X cc nL own G fr lo ret) {x y : Int64} {b : Option β} {z : β} (hd : decode cc pc = .ok (.lrem, 1)) (hm : gB (decide (¬ y = 0)) b = some z) (k : b = some z → KJ X Q G A nL (pc + 1) lv (.long (x - x / y * y) :: st) ws) : KJ X Q G A nL pc lv (.long y :: .long x :: st) ws := by
  obtain ⟨p, l, e, R, s, m, args, below, meth, c, kc, ks⟩ := X
  obtain ⟨hx, hb, hml, hown, hts, hK, hlk, hr, hfr, hlo, hkc, hks⟩ := cx
  exact fun H locs ls hP hD hS hl => lv_lrem hx hb hd (of_decide_eq_true (gB_s hm).1) (k (gB_s hm).2 H locs ls hP hD hS hl)
theorem k_lrem_c (pc : Nat) (cx : Cx X cc nL own G fr lo ret) {x y : Int64} (hd : decode cc pc = .ok (.lrem, 1)) (hne : ¬ y = 0) (k : KJ X Q G A nL (pc + 1) lv (.long (x - x / y * y) :: st) ws) : KJ X Q G A nL pc lv (.long y :: .long x :: st) ws := by
  obtain ⟨p, l, e, R, s, m, args, below, meth, c, kc, ks⟩ := X
  obtain ⟨hx, hb, hml, hown, hts, hK, hlk, hr, hfr, hlo, hkc, hks⟩ := cx
  exact fun H locs ls hP hD hS hl => lv_lrem hx hb hd hne (k H locs ls hP hD hS hl)
theorem k_if_eq {β : Type} (pc : Nat) (cx : Cx X cc nL own G fr lo ret) {x : Int32} {off : Int} {tgt : Nat} {inst : Decidable (x = 0)} {a b : Option β} {z : Option β} (hd : decode cc pc = .ok (.ifCond .eq off, 3)) (ht : (pc : Int) + off = (tgt : Int)) (hm : @ite _ (x = 0) inst a b = z) (kt : x = 0 → a = z → KJ X Q G A nL tgt lv st ws) (kf : ¬ x = 0 → b = z → KJ X Q G A nL (pc + 3) lv st ws) : KJ X Q G A nL pc lv (.int x :: st) ws := by
  obtain ⟨p, l, e, R, s, m, args, below, meth, c, kc, ks⟩ := X
  obtain ⟨hx, hb, hml, hown, hts, hK, hlk, hr, hfr, hlo, hkc, hks⟩ := cx
  exact fun H locs ls hP hD hS hl => lv_if_eq hx hb hd ht (fun h => kt h ((if_pos h).symm.trans hm) H locs ls hP hD hS hl) (fun h => kf h ((if_neg h).symm.trans hm) H locs ls hP hD hS hl)
theorem k_if_eq_T (pc : Nat) (cx : Cx X cc nL own G fr lo ret) {x : Int32} {off : Int} {tgt : Nat} (hd : decode cc pc = .ok (.ifCond .eq off, 3)) (ht : (pc : Int) + off = (tgt : Int)) (hc : x = 0) (k : KJ X Q G A nL tgt lv st ws) : KJ X Q G A nL pc lv (.int x :: st) ws := by
  obtain ⟨p, l, e, R, s, m, args, below, meth, c, kc, ks⟩ := X
  obtain ⟨hx, hb, hml, hown, hts, hK, hlk, hr, hfr, hlo, hkc, hks⟩ := cx
  exact fun H locs ls hP hD hS hl => lv_if_eq hx hb hd ht (fun _ => k H locs ls hP hD hS hl) (fun h => absurd hc (by simpa using h))
theorem k_if_eq_F (pc : Nat) (cx : Cx X cc nL own G fr lo ret) {x : Int32} {off : Int} {tgt : Nat} (hd : decode cc pc = .ok (.ifCond .eq off, 3)) (ht : (pc : Int) + off = (tgt : Int)) (hc : ¬ x = 0) (k : KJ X Q G A nL (pc + 3) lv st ws) : KJ X Q G A nL pc lv (.int x :: st) ws := by
  obtain ⟨p, l, e, R, s, m, args, below, meth, c, kc, ks⟩ := X
  obtain ⟨hx, hb, hml, hown, hts, hK, hlk, hr, hfr, hlo, hkc, hks⟩ := cx
  exact fun H locs ls hP hD hS hl => lv_if_eq hx hb hd ht (fun h => absurd hc (by simpa using h)) (fun _ => k H locs ls hP hD hS hl)
theorem k_icmp_eq {β : Type} (pc : Nat) (cx : Cx X cc nL own G fr lo ret) {x y : Int32} {off : Int} {tgt : Nat} {inst : Decidable (x = y)} {a b : Option β} {z : Option β} (hd : decode cc pc = .ok (.if_icmp .eq off, 3)) (ht : (pc : Int) + off = (tgt : Int)) (hm : @ite _ (x = y) inst a b = z) (kt : x = y → a = z → KJ X Q G A nL tgt lv st ws) (kf : ¬ x = y → b = z → KJ X Q G A nL (pc + 3) lv st ws) : KJ X Q G A nL pc lv (.int y :: .int x :: st) ws := by
  obtain ⟨p, l, e, R, s, m, args, below, meth, c, kc, ks⟩ := X
  obtain ⟨hx, hb, hml, hown, hts, hK, hlk, hr, hfr, hlo, hkc, hks⟩ := cx
  exact fun H locs ls hP hD hS hl => lv_icmp_eq hx hb hd ht (fun h => kt h ((if_pos h).symm.trans hm) H locs ls hP hD hS hl) (fun h => kf h ((if_neg h).symm.trans hm) H locs ls hP hD hS hl)
theorem k_icmp_eq_T (pc : Nat) (cx : Cx X cc nL own G fr lo ret) {x y : Int32} {off : Int} {tgt : Nat} (hd : decode cc pc = .ok (.if_icmp .eq off, 3)) (ht : (pc : Int) + off = (tgt : Int)) (hc : x = y) (k : KJ X Q G A nL tgt lv st ws) : KJ X Q G A nL pc lv (.int y :: .int x :: st) ws := by
  obtain ⟨p, l, e, R, s, m, args, below, meth, c, kc, ks⟩ := X
  obtain ⟨hx, hb, hml, hown, hts, hK, hlk, hr, hfr, hlo, hkc, hks⟩ := cx
  exact fun H locs ls hP hD hS hl => lv_icmp_eq hx hb hd ht (fun _ => k H locs ls hP hD hS hl) (fun h => absurd hc (by simpa using h))
theorem k_icmp_eq_F (pc : Nat) (cx : Cx X cc nL own G fr lo ret) {x y : Int32} {off : Int} {tgt : Nat} (hd : decode cc pc = .ok (.if_icmp .eq off, 3)) (ht : (pc : Int) + off = (tgt : Int)) (hc : ¬ x = y) (k : KJ X Q G A nL (pc + 3) lv st ws) : KJ X Q G A nL pc lv (.int y :: .int x :: st) ws := by
  obtain ⟨p, l, e, R, s, m, args, below, meth, c, kc, ks⟩ := X
  obtain ⟨hx, hb, hml, hown, hts, hK, hlk, hr, hfr, hlo, hkc, hks⟩ := cx
  exact fun H locs ls hP hD hS hl => lv_icmp_eq hx hb hd ht (fun h => absurd hc (by simpa using h)) (fun _ => k H locs ls hP hD hS hl)
theorem k_if_ne {β : Type} (pc : Nat) (cx : Cx X cc nL own G fr lo ret) {x : Int32} {off : Int} {tgt : Nat} {inst : Decidable (x = 0)} {a b : Option β} {z : Option β} (hd : decode cc pc = .ok (.ifCond .ne off, 3)) (ht : (pc : Int) + off = (tgt : Int)) (hm : @ite _ (x = 0) inst a b = z) (kf : x = 0 → a = z → KJ X Q G A nL (pc + 3) lv st ws) (kt : ¬ x = 0 → b = z → KJ X Q G A nL tgt lv st ws) : KJ X Q G A nL pc lv (.int x :: st) ws := by
  obtain ⟨p, l, e, R, s, m, args, below, meth, c, kc, ks⟩ := X
  obtain ⟨hx, hb, hml, hown, hts, hK, hlk, hr, hfr, hlo, hkc, hks⟩ := cx
  exact fun H locs ls hP hD hS hl => lv_if_ne hx hb hd ht (fun h => kt h ((if_neg h).symm.trans hm) H locs ls hP hD hS hl) (fun h => kf h ((if_pos h).symm.trans hm) H locs ls hP hD hS hl)
theorem k_if_ne_T (pc : Nat) (cx : Cx X cc nL own G fr lo ret) {x : Int32} {off : Int} {tgt : Nat} (hd : decode cc pc = .ok (.ifCond .ne off, 3)) (ht : (pc : Int) + off = (tgt : Int)) (hc : ¬ x = 0) (k : KJ X Q G A nL tgt lv st ws) : KJ X Q G A nL pc lv (.int x :: st) ws := by
  obtain ⟨p, l, e, R, s, m, args, below, meth, c, kc, ks⟩ := X
  obtain ⟨hx, hb, hml, hown, hts, hK, hlk, hr, hfr, hlo, hkc, hks⟩ := cx
  exact fun H locs ls hP hD hS hl => lv_if_ne hx hb hd ht (fun _ => k H locs ls hP hD hS hl) (fun h => absurd hc (by simpa using h))
theorem k_if_ne_F (pc : Nat) (cx : Cx X cc nL own G fr lo ret) {x : Int32} {off : Int} {tgt : Nat} (hd : decode cc pc = .ok (.ifCond .ne off, 3)) (ht : (pc : Int) + off = (tgt : Int)) (hc : x = 0) (k : KJ X Q G A nL (pc + 3) lv st ws) : KJ X Q G A nL pc lv (.int x :: st) ws := by
  obtain ⟨p, l, e, R, s, m, args, below, meth, c, kc, ks⟩ := X
  obtain ⟨hx, hb, hml, hown, hts, hK, hlk, hr, hfr, hlo, hkc, hks⟩ := cx
  exact fun H locs ls hP hD hS hl => lv_if_ne hx hb hd ht (fun h => absurd hc (by simpa using h)) (fun _ => k H locs ls hP hD hS hl)
theorem k_icmp_ne {β : Type} (pc : Nat) (cx : Cx X cc nL own G fr lo ret) {x y : Int32} {off : Int} {tgt : Nat} {inst : Decidable (x = y)} {a b : Option β} {z : Option β} (hd : decode cc pc = .ok (.if_icmp .ne off, 3)) (ht : (pc : Int) + off = (tgt : Int)) (hm : @ite _ (x = y) inst a b = z) (kf : x = y → a = z → KJ X Q G A nL (pc + 3) lv st ws) (kt : ¬ x = y → b = z → KJ X Q G A nL tgt lv st ws) : KJ X Q G A nL pc lv (.int y :: .int x :: st) ws := by
  obtain ⟨p, l, e, R, s, m, args, below, meth, c, kc, ks⟩ := X
  obtain ⟨hx, hb, hml, hown, hts, hK, hlk, hr, hfr, hlo, hkc, hks⟩ := cx
  exact fun H locs ls hP hD hS hl => lv_icmp_ne hx hb hd ht (fun h => kt h ((if_neg h).symm.trans hm) H locs ls hP hD hS hl) (fun h => kf h ((if_pos h).symm.trans hm) H locs ls hP hD hS hl)
theorem k_icmp_ne_T (pc : Nat) (cx : Cx X cc nL own G fr lo ret) {x y : Int32} {off : Int} {tgt : Nat} (hd : decode cc pc = .ok (.if_icmp .ne off, 3)) (ht : (pc : Int) + off = (tgt : Int)) (hc : ¬ x = y) (k : KJ X Q G A nL tgt lv st ws) : KJ X Q G A nL pc lv (.int y :: .int x :: st) ws := by
  obtain ⟨p, l, e, R, s, m, args, below, meth, c, kc, ks⟩ := X
  obtain ⟨hx, hb, hml, hown, hts, hK, hlk, hr, hfr, hlo, hkc, hks⟩ := cx
  exact fun H locs ls hP hD hS hl => lv_icmp_ne hx hb hd ht (fun _ => k H locs ls hP hD hS hl) (fun h => absurd hc (by simpa using h))
theorem k_icmp_ne_F (pc : Nat) (cx : Cx X cc nL own G fr lo ret) {x y : Int32} {off : Int} {tgt : Nat} (hd : decode cc pc = .ok (.if_icmp .ne off, 3)) (ht : (pc : Int) + off = (tgt : Int)) (hc : x = y) (k : KJ X Q G A nL (pc + 3) lv st ws) : KJ X Q G A nL pc lv (.int y :: .int x :: st) ws := by
  obtain ⟨p, l, e, R, s, m, args, below, meth, c, kc, ks⟩ := X
  obtain ⟨hx, hb, hml, hown, hts, hK, hlk, hr, hfr, hlo, hkc, hks⟩ := cx
  exact fun H locs ls hP hD hS hl => lv_icmp_ne hx hb hd ht (fun h => absurd hc (by simpa using h)) (fun _ => k H locs ls hP hD hS hl)
theorem k_if_lt {β : Type} (pc : Nat) (cx : Cx X cc nL own G fr lo ret) {x : Int32} {off : Int} {tgt : Nat} {inst : Decidable (x < 0)} {a b : Option β} {z : Option β} (hd : decode cc pc = .ok (.ifCond .lt off, 3)) (ht : (pc : Int) + off = (tgt : Int)) (hm : @ite _ (x < 0) inst a b = z) (kt : x < 0 → a = z → KJ X Q G A nL tgt lv st ws) (kf : ¬ x < 0 → b = z → KJ X Q G A nL (pc + 3) lv st ws) : KJ X Q G A nL pc lv (.int x :: st) ws := by
  obtain ⟨p, l, e, R, s, m, args, below, meth, c, kc, ks⟩ := X
  obtain ⟨hx, hb, hml, hown, hts, hK, hlk, hr, hfr, hlo, hkc, hks⟩ := cx
  exact fun H locs ls hP hD hS hl => lv_if_lt hx hb hd ht (fun h => kt h ((if_pos h).symm.trans hm) H locs ls hP hD hS hl) (fun h => kf h ((if_neg h).symm.trans hm) H locs ls hP hD hS hl)
theorem k_if_lt_T (pc : Nat) (cx : Cx X cc nL own G fr lo ret) {x : Int32} {off : Int} {tgt : Nat} (hd : decode cc pc = .ok (.ifCond .lt off, 3)) (ht : (pc : Int) + off = (tgt : Int)) (hc : x < 0) (k : KJ X Q G A nL tgt lv st ws) : KJ X Q G A nL pc lv (.int x :: st) ws := by
  obtain ⟨p, l, e, R, s, m, args, below, meth, c, kc, ks⟩ := X
  obtain ⟨hx, hb, hml, hown, hts, hK, hlk, hr, hfr, hlo, hkc, hks⟩ := cx
  exact fun H locs ls hP hD hS hl => lv_if_lt hx hb hd ht (fun _ => k H locs ls hP hD hS hl) (fun h => absurd hc (by simpa using h))
theorem k_if_lt_F (pc : Nat) (cx : Cx X cc nL own G fr lo ret) {x : Int32} {off : Int} {tgt : Nat} (hd : decode cc pc = .ok (.ifCond .lt off, 3)) (ht : (pc : Int) + off = (tgt : Int)) (hc : ¬ x < 0) (k : KJ X Q G A nL (pc + 3) lv st ws) : KJ X Q G A nL pc lv (.int x :: st) ws := by
  obtain ⟨p, l, e, R, s, m, args, below, meth, c, kc, ks⟩ := X
  obtain ⟨hx, hb, hml, hown, hts, hK, hlk, hr, hfr, hlo, hkc, hks⟩ := cx
  exact fun H locs ls hP hD hS hl => lv_if_lt hx hb hd ht (fun h => absurd hc (by simpa using h)) (fun _ => k H locs ls hP hD hS hl)
theorem k_icmp_lt {β : Type} (pc : Nat) (cx : Cx X cc nL own G fr lo ret) {x y : Int32} {off : Int} {tgt : Nat} {inst : Decidable (x < y)} {a b : Option β} {z : Option β} (hd : decode cc pc = .ok (.if_icmp .lt off, 3)) (ht : (pc : Int) + off = (tgt : Int)) (hm : @ite _ (x < y) inst a b = z) (kt : x < y → a = z → KJ X Q G A nL tgt lv st ws) (kf : ¬ x < y → b = z → KJ X Q G A nL (pc + 3) lv st ws) : KJ X Q G A nL pc lv (.int y :: .int x :: st) ws := by
  obtain ⟨p, l, e, R, s, m, args, below, meth, c, kc, ks⟩ := X
  obtain ⟨hx, hb, hml, hown, hts, hK, hlk, hr, hfr, hlo, hkc, hks⟩ := cx
  exact fun H locs ls hP hD hS hl => lv_icmp_lt hx hb hd ht (fun h => kt h ((if_pos h).symm.trans hm) H locs ls hP hD hS hl) (fun h => kf h ((if_neg h).symm.trans hm) H locs ls hP hD hS hl)
theorem k_icmp_lt_T (pc : Nat) (cx : Cx X cc nL own G fr lo ret) {x y : Int32} {off : Int} {tgt : Nat} (hd : decode cc pc = .ok (.if_icmp .lt off, 3)) (ht : (pc : Int) + off = (tgt : Int)) (hc : x < y) (k : KJ X Q G A nL tgt lv st ws) : KJ X Q G A nL pc lv (.int y :: .int x :: st) ws := by
  obtain ⟨p, l, e, R, s, m, args, below, meth, c, kc, ks⟩ := X
  obtain ⟨hx, hb, hml, hown, hts, hK, hlk, hr, hfr, hlo, hkc, hks⟩ := cx
  exact fun H locs ls hP hD hS hl => lv_icmp_lt hx hb hd ht (fun _ => k H locs ls hP hD hS hl) (fun h => absurd hc (by simpa using h))
theorem k_icmp_lt_F (pc : Nat) (cx : Cx X cc nL own G fr lo ret) {x y : Int32} {off : Int} {tgt : Nat} (hd : decode cc pc = .ok (.if_icmp .lt off, 3)) (ht : (pc : Int) + off = (tgt : Int)) (hc : ¬ x < y) (k : KJ X Q G A nL (pc + 3) lv st ws) : KJ X Q G A nL pc lv (.int y :: .int x :: st) ws := by
  obtain ⟨p, l, e, R, s, m, args, below, meth, c, kc, ks⟩ := X
  obtain ⟨hx, hb, hml, hown, hts, hK, hlk, hr, hfr, hlo, hkc, hks⟩ := cx
  exact fun H locs ls hP hD hS hl => lv_icmp_lt hx hb hd ht (fun h => absurd hc (by simpa using h)) (fun _ => k H locs ls hP hD hS hl)
theorem k_if_ge {β : Type} (pc : Nat) (cx : Cx X cc nL own G fr lo ret) {x : Int32} {off : Int} {tgt : Nat} {inst : Decidable (0 ≤ x)} {a b : Option β} {z : Option β} (hd : decode cc pc = .ok (.ifCond .ge off, 3)) (ht : (pc : Int) + off = (tgt : Int)) (hm : @ite _ (0 ≤ x) inst a b = z) (kt : 0 ≤ x → a = z → KJ X Q G A nL tgt lv st ws) (kf : ¬ 0 ≤ x → b = z → KJ X Q G A nL (pc + 3) lv st ws) : KJ X Q G A nL pc lv (.int x :: st) ws := by
  obtain ⟨p, l, e, R, s, m, args, below, meth, c, kc, ks⟩ := X
  obtain ⟨hx, hb, hml, hown, hts, hK, hlk, hr, hfr, hlo, hkc, hks⟩ := cx
  exact fun H locs ls hP hD hS hl => lv_if_ge hx hb hd ht (fun h => kt h ((if_pos h).symm.trans hm) H locs ls hP hD hS hl) (fun h => kf h ((if_neg h).symm.trans hm) H locs ls hP hD hS hl)
theorem k_if_ge_T (pc : Nat) (cx : Cx X cc nL own G fr lo ret) {x : Int32} {off : Int} {tgt : Nat} (hd : decode cc pc = .ok (.ifCond .ge off, 3)) (ht : (pc : Int) + off = (tgt : Int)) (hc : 0 ≤ x) (k : KJ X Q G A nL tgt lv st ws) : KJ X Q G A nL pc lv (.int x :: st) ws := by
  obtain ⟨p, l, e, R, s, m, args, below, meth, c, kc, ks⟩ := X
  obtain ⟨hx, hb, hml, hown, hts, hK, hlk, hr, hfr, hlo, hkc, hks⟩ := cx
  exact fun H locs ls hP hD hS hl => lv_if_ge hx hb hd ht (fun _ => k H locs ls hP hD hS hl) (fun h => absurd hc (by simpa using h))
theorem k_if_ge_F (pc : Nat) (cx : Cx X cc nL own G fr lo ret) {x : Int32} {off : Int} {tgt : Nat} (hd : decode cc pc = .ok (.ifCond .ge off, 3)) (ht : (pc : Int) + off = (tgt : Int)) (hc : ¬ 0 ≤ x) (k : KJ X Q G A nL (pc + 3) lv st ws) : KJ X Q G A nL pc lv (.int x :: st) ws := by
  obtain ⟨p, l, e, R, s, m, args, below, meth, c, kc, ks⟩ := X
  obtain ⟨hx, hb, hml, hown, hts, hK, hlk, hr, hfr, hlo, hkc, hks⟩ := cx
  exact fun H locs ls hP hD hS hl => lv_if_ge hx hb hd ht (fun h => absurd hc (by simpa using h)) (fun _ => k H locs ls hP hD hS hl)
theorem k_icmp_ge {β : Type} (pc : Nat) (cx : Cx X cc nL own G fr lo ret) {x y : Int32} {off : Int} {tgt : Nat} {inst : Decidable (y ≤ x)} {a b : Option β} {z : Option β} (hd : decode cc pc = .ok (.if_icmp .ge off, 3)) (ht : (pc : Int) + off = (tgt : Int)) (hm : @ite _ (y ≤ x) inst a b = z) (kt : y ≤ x → a = z → KJ X Q G A nL tgt lv st ws) (kf : ¬ y ≤ x → b = z → KJ X Q G A nL (pc + 3) lv st ws) : KJ X Q G A nL pc lv (.int y :: .int x :: st) ws := by
  obtain ⟨p, l, e, R, s, m, args, below, meth, c, kc, ks⟩ := X
  obtain ⟨hx, hb, hml, hown, hts, hK, hlk, hr, hfr, hlo, hkc, hks⟩ := cx
  exact fun H locs ls hP hD hS hl => lv_icmp_ge hx hb hd ht (fun h => kt h ((if_pos h).symm.trans hm) H locs ls hP hD hS hl) (fun h => kf h ((if_neg h).symm.trans hm) H locs ls hP hD hS hl)
theorem k_icmp_ge_T (pc : Nat) (cx : Cx X cc nL own G fr lo ret) {x y : Int32} {off : Int} {tgt : Nat} (hd : decode cc pc = .ok (.if_icmp .ge off, 3)) (ht : (pc : Int) + off = (tgt : Int)) (hc : y ≤ x) (k : KJ X Q G A nL tgt lv st ws) : KJ X Q G A nL pc lv (.int y :: .int x :: st) ws := by
  obtain ⟨p, l, e, R, s, m, args, below, meth, c, kc, ks⟩ := X
  obtain ⟨hx, hb, hml, hown, hts, hK, hlk, hr, hfr, hlo, hkc, hks⟩ := cx
  exact fun H locs ls hP hD hS hl => lv_icmp_ge hx hb hd ht (fun _ => k H locs ls hP hD hS hl) (fun h => absurd hc (by simpa using h))
theorem k_icmp_ge_F (pc : Nat) (cx : Cx X cc nL own G fr lo ret) {x y : Int32} {off : Int} {tgt : Nat} (hd : decode cc pc = .ok (.if_icmp .ge off, 3)) (ht : (pc : Int) + off = (tgt : Int)) (hc : ¬ y ≤ x) (k : KJ X Q G A nL (pc + 3) lv st ws) : KJ X Q G A nL pc lv (.int y :: .int x :: st) ws := by
  obtain ⟨p, l, e, R, s, m, args, below, meth, c, kc, ks⟩ := X
  obtain ⟨hx, hb, hml, hown, hts, hK, hlk, hr, hfr, hlo, hkc, hks⟩ := cx
  exact fun H locs ls hP hD hS hl => lv_icmp_ge hx hb hd ht (fun h => absurd hc (by simpa using h)) (fun _ => k H locs ls hP hD hS hl)
theorem k_if_gt {β : Type} (pc : Nat) (cx : Cx X cc nL own G fr lo ret) {x : Int32} {off : Int} {tgt : Nat} {inst : Decidable (0 < x)} {a b : Option β} {z : Option β} (hd : decode cc pc = .ok (.ifCond .gt off, 3)) (ht : (pc : Int) + off = (tgt : Int)) (hm : @ite _ (0 < x) inst a b = z) (kt : 0 < x → a = z → KJ X Q G A nL tgt lv st ws) (kf : ¬ 0 < x → b = z → KJ X Q G A nL (pc + 3) lv st ws) : KJ X Q G A nL pc lv (.int x :: st) ws := by
  obtain ⟨p, l, e, R, s, m, args, below, meth, c, kc, ks⟩ := X
  obtain ⟨hx, hb, hml, hown, hts, hK, hlk, hr, hfr, hlo, hkc, hks⟩ := cx
  exact fun H locs ls hP hD hS hl => lv_if_gt hx hb hd ht (fun h => kt h ((if_pos h).symm.trans hm) H locs ls hP hD hS hl) (fun h => kf h ((if_neg h).symm.trans hm) H locs ls hP hD hS hl)
theorem k_if_gt_T (pc : Nat) (cx : Cx X cc nL own G fr lo ret) {x : Int32} {off : Int} {tgt : Nat} (hd : decode cc pc = .ok (.ifCond .gt off, 3)) (ht : (pc : Int) + off = (tgt : Int)) (hc : 0 < x) (k : KJ X Q G A nL tgt lv st ws) : KJ X Q G A nL pc lv (.int x :: st) ws := by
  obtain ⟨p, l, e, R, s, m, args, below, meth, c, kc, ks⟩ := X
  obtain ⟨hx, hb, hml, hown, hts, hK, hlk, hr, hfr, hlo, hkc, hks⟩ := cx
  exact fun H locs ls hP hD hS hl => lv_if_gt hx hb hd ht (fun _ => k H locs ls hP hD hS hl) (fun h => absurd hc (by simpa using h))
theorem k_if_gt_F (pc : Nat) (cx : Cx X cc nL own G fr lo ret) {x : Int32} {off : Int} {tgt : Nat} (hd : decode cc pc = .ok (.ifCond .gt off, 3)) (ht : (pc : Int) + off = (tgt : Int)) (hc : ¬ 0 < x) (k : KJ X Q G A nL (pc + 3) lv st ws) : KJ X Q G A nL pc lv (.int x :: st) ws := by
  obtain ⟨p, l, e, R, s, m, args, below, meth, c, kc, ks⟩ := X
  obtain ⟨hx, hb, hml, hown, hts, hK, hlk, hr, hfr, hlo, hkc, hks⟩ := cx
  exact fun H locs ls hP hD hS hl => lv_if_gt hx hb hd ht (fun h => absurd hc (by simpa using h)) (fun _ => k H locs ls hP hD hS hl)
theorem k_icmp_gt {β : Type} (pc : Nat) (cx : Cx X cc nL own G fr lo ret) {x y : Int32} {off : Int} {tgt : Nat} {inst : Decidable (y < x)} {a b : Option β} {z : Option β} (hd : decode cc pc = .ok (.if_icmp .gt off, 3)) (ht : (pc : Int) + off = (tgt : Int)) (hm : @ite _ (y < x) inst a b = z) (kt : y < x → a = z → KJ X Q G A nL tgt lv st ws) (kf : ¬ y < x → b = z → KJ X Q G A nL (pc + 3) lv st ws) : KJ X Q G A nL pc lv (.int y :: .int x :: st) ws := by
  obtain ⟨p, l, e, R, s, m, args, below, meth, c, kc, ks⟩ := X
  obtain ⟨hx, hb, hml, hown, hts, hK, hlk, hr, hfr, hlo, hkc, hks⟩ := cx
  exact fun H locs ls hP hD hS hl => lv_icmp_gt hx hb hd ht (fun h => kt h ((if_pos h).symm.trans hm) H locs ls hP hD hS hl) (fun h => kf h ((if_neg h).symm.trans hm) H locs ls hP hD hS hl)
theorem k_icmp_gt_T (pc : Nat) (cx : Cx X cc nL own G fr lo ret) {x y : Int32} {off : Int} {tgt : Nat} (hd : decode cc pc = .ok (.if_icmp .gt off, 3)) (ht : (pc : Int) + off = (tgt : Int)) (hc : y < x) (k : KJ X Q G A nL tgt lv st ws) : KJ X Q G A nL pc lv (.int y :: .int x :: st) ws := by
  obtain ⟨p, l, e, R, s, m, args, below, meth, c, kc, ks⟩ := X
  obtain ⟨hx, hb, hml, hown, hts, hK, hlk, hr, hfr, hlo, hkc, hks⟩ := cx
  exact fun H locs ls hP hD hS hl => lv_icmp_gt hx hb hd ht (fun _ => k H locs ls hP hD hS hl) (fun h => absurd hc (by simpa using h))
theorem k_icmp_gt_F (pc : Nat) (cx : Cx X cc nL own G fr lo ret) {x y : Int32} {off : Int} {tgt : Nat} (hd : decode cc pc = .ok (.if_icmp .gt off, 3)) (ht : (pc : Int) + off = (tgt : Int)) (hc : ¬ y < x) (k : KJ X Q G A nL (pc + 3) lv st ws) : KJ X Q G A nL pc lv (.int y :: .int x :: st) ws := by
  obtain ⟨p, l, e, R, s, m, args, below, meth, c, kc, ks⟩ := X
  obtain ⟨hx, hb, hml, hown, hts, hK, hlk, hr, hfr, hlo, hkc, hks⟩ := cx
  exact fun H locs ls hP hD hS hl => lv_icmp_gt hx hb hd ht (fun h => absurd hc (by simpa using h)) (fun _ => k H locs ls hP hD hS hl)
theorem k_if_le {β : Type} (pc : Nat) (cx : Cx X cc nL own G fr lo ret) {x : Int32} {off : Int} {tgt : Nat} {inst : Decidable (x ≤ 0)} {a b : Option β} {z : Option β} (hd : decode cc pc = .ok (.ifCond .le off, 3)) (ht : (pc : Int) + off = (tgt : Int)) (hm : @ite _ (x ≤ 0) inst a b = z) (kt : x ≤ 0 → a = z → KJ X Q G A nL tgt lv st ws) (kf : ¬ x ≤ 0 → b = z → KJ X Q G A nL (pc + 3) lv st ws) : KJ X Q G A nL pc lv (.int x :: st) ws := by
  obtain ⟨p, l, e, R, s, m, args, below, meth, c, kc, ks⟩ := X
  obtain ⟨hx, hb, hml, hown, hts, hK, hlk, hr, hfr, hlo, hkc, hks⟩ := cx
  exact fun H locs ls hP hD hS hl => lv_if_le hx hb hd ht (fun h => kt h ((if_pos h).symm.trans hm) H locs ls hP hD hS hl) (fun h => kf h ((if_neg h).symm.trans hm) H locs ls hP hD hS hl)
theorem k_if_le_T (pc : Nat) (cx : Cx X cc nL own G fr lo ret) {x : Int32} {off : Int} {tgt : Nat} (hd : decode cc pc = .ok (.ifCond .le off, 3)) (ht : (pc : Int) + off = (tgt : Int)) (hc : x ≤ 0) (k : KJ X Q G A nL tgt lv st ws) : KJ X Q G A nL pc lv (.int x :: st) ws := by
  obtain ⟨p, l, e, R, s, m, args, below, meth, c, kc, ks⟩ := X
  obtain ⟨hx, hb, hml, hown, hts, hK, hlk, hr, hfr, hlo, hkc, hks⟩ := cx
  exact fun H locs ls hP hD hS hl => lv_if_le hx hb hd ht (fun _ => k H locs ls hP hD hS hl) (fun h => absurd hc (by simpa using h))
theorem k_if_le_F (pc : Nat) (cx : Cx X cc nL own G fr lo ret) {x : Int32} {off : Int} {tgt : Nat} (hd : decode cc pc = .ok (.ifCond .le off, 3)) (ht : (pc : Int) + off = (tgt : Int)) (hc : ¬ x ≤ 0) (k : KJ X Q G A nL (pc + 3) lv st ws) : KJ X Q G A nL pc lv (.int x :: st) ws := by
  obtain ⟨p, l, e, R, s, m, args, below, meth, c, kc, ks⟩ := X
  obtain ⟨hx, hb, hml, hown, hts, hK, hlk, hr, hfr, hlo, hkc, hks⟩ := cx
  exact fun H locs ls hP hD hS hl => lv_if_le hx hb hd ht (fun h => absurd hc (by simpa using h)) (fun _ => k H locs ls hP hD hS hl)
theorem k_icmp_le {β : Type} (pc : Nat) (cx : Cx X cc nL own G fr lo ret) {x y : Int32} {off : Int} {tgt : Nat} {inst : Decidable (x ≤ y)} {a b : Option β} {z : Option β} (hd : decode cc pc = .ok (.if_icmp .le off, 3)) (ht : (pc : Int) + off = (tgt : Int)) (hm : @ite _ (x ≤ y) inst a b = z) (kt : x ≤ y → a = z → KJ X Q G A nL tgt lv st ws) (kf : ¬ x ≤ y → b = z → KJ X Q G A nL (pc + 3) lv st ws) : KJ X Q G A nL pc lv (.int y :: .int x :: st) ws := by
  obtain ⟨p, l, e, R, s, m, args, below, meth, c, kc, ks⟩ := X
  obtain ⟨hx, hb, hml, hown, hts, hK, hlk, hr, hfr, hlo, hkc, hks⟩ := cx
  exact fun H locs ls hP hD hS hl => lv_icmp_le hx hb hd ht (fun h => kt h ((if_pos h).symm.trans hm) H locs ls hP hD hS hl) (fun h => kf h ((if_neg h).symm.trans hm) H locs ls hP hD hS hl)
theorem k_icmp_le_T (pc : Nat) (cx : Cx X cc nL own G fr lo ret) {x y : Int32} {off : Int} {tgt : Nat} (hd : decode cc pc = .ok (.if_icmp .le off, 3)) (ht : (pc : Int) + off = (tgt : Int)) (hc : x ≤ y) (k : KJ X Q G A nL tgt lv st ws) : KJ X Q G A nL pc lv (.int y :: .int x :: st) ws := by
  obtain ⟨p, l, e, R, s, m, args, below, meth, c, kc, ks⟩ := X
  obtain ⟨hx, hb, hml, hown, hts, hK, hlk, hr, hfr, hlo, hkc, hks⟩ := cx
  exact fun H locs ls hP hD hS hl => lv_icmp_le hx hb hd ht (fun _ => k H locs ls hP hD hS hl) (fun h => absurd hc (by simpa using h))
theorem k_icmp_le_F (pc : Nat) (cx : Cx X cc nL own G fr lo ret) {x y : Int32} {off : Int} {tgt : Nat} (hd : decode cc pc = .ok (.if_icmp .le off, 3)) (ht : (pc : Int) + off = (tgt : Int)) (hc : ¬ x ≤ y) (k : KJ X Q G A nL (pc + 3) lv st ws) : KJ X Q G A nL pc lv (.int y :: .int x :: st) ws := by
  obtain ⟨p, l, e, R, s, m, args, below, meth, c, kc, ks⟩ := X
  obtain ⟨hx, hb, hml, hown, hts, hK, hlk, hr, hfr, hlo, hkc, hks⟩ := cx
  exact fun H locs ls hP hD hS hl => lv_icmp_le hx hb hd ht (fun h => absurd hc (by simpa using h)) (fun _ => k H locs ls hP hD hS hl)
theorem k_tabIn (pc : Nat) (cx : Cx X cc nL own G fr lo ret) {dflt lo' hi' : Int} {offs : Array Int} {len : Nat} {x : Int32} {off : Int} {tgt : Nat} (v : Int32) (hc : x = v) (hd : decode cc pc = .ok (.tableswitch dflt lo' hi' offs, len)) (h1 : ¬ v.toInt < lo' ∧ ¬ hi' < v.toInt ∧ offs[(v.toInt - lo').toNat]? = some off ∧ (pc : Int) + off = (tgt : Int)) (k : KJ X Q G A nL tgt lv st ws) : KJ X Q G A nL pc lv (.int x :: st) ws := by
  obtain ⟨p, l, e, R, s, m, args, below, meth, c, kc, ks⟩ := X
  obtain ⟨hx, hb, hml, hown, hts, hK, hlk, hr, hfr, hlo, hkc, hks⟩ := cx
  subst hc
  exact fun H locs ls hP hD hS hl => lv_tableIn hx hb hd h1.1 h1.2.1 h1.2.2.1 h1.2.2.2 (k H locs ls hP hD hS hl)
theorem k_tabOut (pc : Nat) (cx : Cx X cc nL own G fr lo ret) {dflt lo' hi' : Int} {offs : Array Int} {len : Nat} {x : Int32} {tgt : Nat} (hd : decode cc pc = .ok (.tableswitch dflt lo' hi' offs, len)) (h1 : x.toInt < lo' ∨ hi' < x.toInt) (ht : (pc : Int) + dflt = (tgt : Int)) (k : KJ X Q G A nL tgt lv st ws) : KJ X Q G A nL pc lv (.int x :: st) ws := by
  obtain ⟨p, l, e, R, s, m, args, below, meth, c, kc, ks⟩ := X
  obtain ⟨hx, hb, hml, hown, hts, hK, hlk, hr, hfr, hlo, hkc, hks⟩ := cx
  exact fun H locs ls hP hD hS hl => lv_tableOut hx hb hd h1 ht (k H locs ls hP hD hS hl)
theorem k_lookup (pc : Nat) (cx : Cx X cc nL own G fr lo ret) {dflt : Int} {ps : Array (Int × Int)} {len : Nat} {x : Int32} {off : Int} {tgt : Nat} (hd : decode cc pc = .ok (.lookupswitch dflt ps, len)) (hp : (ps.toList.zip (ps.toList.drop 1)).all (fun (a, next) => a.1 < next.1) = true) (ho : Op.lookupswitch.offset ps.toList dflt x.toInt = off) (ht : (pc : Int) + off = (tgt : Int)) (k : KJ X Q G A nL tgt lv st ws) : KJ X Q G A nL pc lv (.int x :: st) ws := by
  obtain ⟨p, l, e, R, s, m, args, below, meth, c, kc, ks⟩ := X
  obtain ⟨hx, hb, hml, hown, hts, hK, hlk, hr, hfr, hlo, hkc, hks⟩ := cx
  exact fun H locs ls hP hD hS hl => lv_lookup hx hb hd hp ho ht (k H locs ls hP hD hS hl)
theorem k_iald {β : Type} (pc : Nat) (cx : Cx X cc nL own G fr lo ret) {a n : Nat} {f : Nat → Int32} {i : Int32} {b : Option β} {z : β} (hd : decode cc pc = .ok (.iaload, 1)) (q0 : Nat) (he : ws[q0]? = some (a, .inl (G.2.1, n, .inl f))) (hm : gB (inb i n) b = some z) (k : b = some z → KJ X Q G A nL (pc + 1) lv (.int (f i.toNatClampNeg) :: st) ws) : KJ X Q G A nL pc lv (.int i :: .ref a :: st) ws := by
  obtain ⟨p, l, e, R, s, m, args, below, meth, c, kc, ks⟩ := X
  obtain ⟨hx, hb, hml, hown, hts, hK, hlk, hr, hfr, hlo, hkc, hks⟩ := cx
  exact fun H locs ls hP hD hS hl => va_iald hx hb hK hP q0 0 he rfl (inb_in (gB_s hm).1) hd (k (gB_s hm).2 H locs ls hP hD hS hl)
theorem k_zald {β : Type} (pc : Nat) (cx : Cx X cc nL own G fr lo ret) {a n : Nat} {f : Nat → Int32} {i : Int32} {b : Option β} {z : β} (hd : decode cc pc = .ok (.baload, 1)) (q0 : Nat) (he : ws[q0]? = some (a, .inl (G.2.2.1, n, .inl f))) (hm : gB (inb i n) b = some z) (k : b = some z → KJ X Q G A nL (pc + 1) lv (.int (f i.toNatClampNeg) :: st) ws) : KJ X Q G A nL pc lv (.int i :: .ref a :: st) ws := by
  obtain ⟨p, l, e, R, s, m, args, below, meth, c, kc, ks⟩ := X
  obtain ⟨hx, hb, hml, hown, hts, hK, hlk, hr, hfr, hlo, hkc, hks⟩ := cx
  exact fun H locs ls hP hD hS hl => va_zald hx hb hK hP q0 1 he rfl (inb_in (gB_s hm).1) hd (k (gB_s hm).2 H locs ls hP hD hS hl)
theorem k_iast {β : Type} (pc : Nat) (cx : Cx X cc nL own G fr lo ret) {a n : Nat} {f : Nat → Int32} {i x : Int32} {b : (Nat → Int32) → Option β} {z : β} (hd : decode cc pc = .ok (.iastore, 1)) (q0 : Nat) (he : ws[q0]? = some (a, .inl (G.2.1, n, .inl f))) (wf : (Nat → Int32) → va_W) (hw : ∀ g, ws.set q0 (a, .inl (G.2.1, n, .inl g)) = wf g) (hm : gB (inb i n) (nme (upd f i.toNatClampNeg (x)) b) = some z) (k : ∀ g : Nat → Int32, b g = some z → KJ X Q G A nL (pc + 1) lv st (wf g)) : KJ X Q G A nL pc lv (.int x :: .int i :: .ref a :: st) ws := by
  obtain ⟨p, l, e, R, s, m, args, below, meth, c, kc, ks⟩ := X
  obtain ⟨hx, hb, hml, hown, hts, hK, hlk, hr, hfr, hlo, hkc, hks⟩ := cx
  exact fun H locs ls hP hD hS hl => va_iast hx hb hK hP hD hS q0 0 he rfl (inb_in (gB_s hm).1) hd (fun H1 locs1 hP1 hD1 hS1 => k _ (gB_s hm).2 H1 locs1 ls (by rw [← hw]; exact hP1) (by rw [← hw]; exact hD1) hS1 hl)
theorem k_zast {β : Type} (pc : Nat) (cx : Cx X cc nL own G fr lo ret) {a n : Nat} {f : Nat → Int32} {i x : Int32} {b : (Nat → Int32) → Option β} {z : β} (hd : decode cc pc = .ok (.bastore, 1)) (q0 : Nat) (he : ws[q0]? = some (a, .inl (G.2.2.1, n, .inl f))) (wf : (Nat → Int32) → va_W) (hw : ∀ g, ws.set q0 (a, .inl (G.2.2.1, n, .inl g)) = wf g) (hm : gB (inb i n) (nme (upd f i.toNatClampNeg (vp_nar .boolean x)) b) = some z) (k : ∀ g : Nat → Int32, b g = some z → KJ X Q G A nL (pc + 1) lv st (wf g)) : KJ X Q G A nL pc lv (.int x :: .int i :: .ref a :: st) ws := by
  obtain ⟨p, l, e, R, s, m, args, below, meth, c, kc, ks⟩ := X
  obtain ⟨hx, hb, hml, hown, hts, hK, hlk, hr, hfr, hlo, hkc, hks⟩ := cx
  exact fun H locs ls hP hD hS hl => va_zast hx hb hK hP hD hS q0 1 he rfl (inb_in (gB_s hm).1) hd (fun H1 locs1 hP1 hD1 hS1 => k _ (gB_s hm).2 H1 locs1 ls (by rw [← hw]; exact hP1) (by rw [← hw]; exact hD1) hS1 hl)
theorem k_alen (pc : Nat) (cx : Cx X cc nL own G fr lo ret) {a n : Nat} {f : Nat → Int32} (hd : decode cc pc = .ok (.arraylength, 1)) (q0 : Nat) (he : ws[q0]? = some (a, .inl (G.2.1, n, .inl f))) (k : KJ X Q G A nL (pc + 1) lv (.int (Int32.ofNat n) :: st) ws) : KJ X Q G A nL pc lv (.ref a :: st) ws := by
  obtain ⟨p, l, e, R, s, m, args, below, meth, c, kc, ks⟩ := X
  obtain ⟨hx, hb, hml, hown, hts, hK, hlk, hr, hfr, hlo, hkc, hks⟩ := cx
  exact fun H locs ls hP hD hS hl => va_alen hx hb hK hP q0 0 he rfl rfl hd (k H locs ls hP hD hS hl)
theorem k_aald {β : Type} (pc : Nat) (cx : Cx X cc nL own G fr lo ret) {a n : Nat} {sa : Nat → Nat} {i : Int32} {b : Option β} {z : β} (kk : Nat) (hd : decode cc pc = .ok (.aaload, 1)) (q0 : Nat) (he : ws[q0]? = some (a, .inl (G.2.2.2, n, .inr (.inr (.inr (.inr (fun j => some (sa j)))))))) (hm : gB (inb i n) b = some z) (hk : inb i n = true → i.toNatClampNeg = kk) (k : b = some z → KJ X Q G A nL (pc + 1) lv (.ref (sa kk) :: st) ws) : KJ X Q G A nL pc lv (.int i :: .ref a :: st) ws := by
  obtain ⟨p, l, e, R, s, m, args, below, meth, c, kc, ks⟩ := X
  obtain ⟨hx, hb, hml, hown, hts, hK, hlk, hr, hfr, hlo, hkc, hks⟩ := cx
  have e1 : va_rf (some (sa i.toNatClampNeg)) = .ref (sa kk) := by rw [hk (gB_s hm).1]; rfl
  exact fun H locs ls hP hD hS hl => va_aldq hx hb hK hP q0 2 he rfl (inb_in (gB_s hm).1) hd (by rw [e1]; exact k (gB_s hm).2 H locs ls hP hD hS hl)
theorem k_get (pc : Nat) (cx : Cx X cc nL own G fr lo ret) {ref C : String} {T : u_T} {N ci index : Nat} {a : Nat} {fs : List Value} {v : Value} (hin : ∀ w ∈ u_ws C T N, w ∈ TB) (hc : vwCl[ci]? = some (C, T, N)) (f : Nat) (hf : f < N) (hfl : Cond.fieldLink own index ref (T f).2.1 (T f).2.2.1 ∈ TB) (hs : (T f).1 = ref) (hd : decode cc pc = .ok (.getfield index, 3)) (q0 : Nat) (he : ws[q0]? = some (a, .inr (ci, fs))) (hv : fs[f]? = some v) (k : KJ X Q G A nL (pc + 3) lv (v :: st) ws) : KJ X Q G A nL pc lv (.ref a :: st) ws := by
  obtain ⟨p, l, e, R, s, m, args, below, meth, c, kc, ks⟩ := X
  obtain ⟨hx, hb, hml, hown, hts, hK, hlk, hr, hfr, hlo, hkc, hks⟩ := cx
  exact fun H locs ls hP hD hS hl => va_get hx hb hts hin hown hK hP q0 he hc f hf (hts _ hfl) (fun x h => by rw [← hs]; exact h) hv hd (k H locs ls hP hD hS hl)
theorem k_put (pc : Nat) (cx : Cx X cc nL own G fr lo ret) {ref C : String} {T : u_T} {N ci index : Nat} {a : Nat} {fs : List Value} {v : Value} (hin : ∀ w ∈ u_ws C T N, w ∈ TB) (hc : vwCl[ci]? = some (C, T, N)) (ty0 : Nat → FieldType) (hty : ∀ k, k < N → parseFieldDescriptor (T k).2.2.1 = some (ty0 k)) (hnm : ∀ a, a < N → ∀ b, b < N → a ≠ b → (T a).2.1 ≠ (T b).2.1) (f : Nat) (hf : f < N) (hfl : Cond.fieldLink own index ref (T f).2.1 (T f).2.2.1 ∈ TB) (hs : (T f).1 = ref) (hfin : (T f).2.2.2 = false) {ty : FieldType} (hpd : parseFieldDescriptor (T f).2.2.1 = some ty) (hd : decode cc pc = .ok (.putfield index, 3)) (q0 : Nat) (he : ws[q0]? = some (a, .inr (ci, fs))) (hn : narrow ty v = v) (hfit : fits ty v = true) (hlen : f < fs.length) (w1 : va_W) (hw : ws.set q0 (a, .inr (ci, fs.set f v)) = w1) (k : KJ X Q G A nL (pc + 3) lv st w1) : KJ X Q G A nL pc lv (v :: .ref a :: st) ws := by
  obtain ⟨p, l, e, R, s, m, args, below, meth, c, kc, ks⟩ := X
  obtain ⟨hx, hb, hml, hown, hts, hK, hlk, hr, hfr, hlo, hkc, hks⟩ := cx
  subst hw
  exact fun H locs ls hP hD hS hl => va_put hx hb hts hin ty0 hty hnm hown hK hP hD hS q0 he hc f hf (hts _ hfl) (fun x h => by rw [← hs]; exact h) hfin hpd hn hfit hlen hd (fun H1 locs1 hP1 hD1 hS1 => k H1 locs1 ls hP1 hD1 hS1 hl)
theorem k_iret (pc : Nat) {w w' : va_W} {o : Option Value} {x : Int32} (cx : Cx X cc nL own G fr lo (some .int)) (hd : decode cc pc = .ok (.ireturn, 1)) (ho : o = some (.int x)) (hw : ws = w') : KJ X (QR X G w o w') G (aIn w) nL pc lv [.int x] ws := by
  obtain ⟨p, l, e, R, s, m, args, below, meth, c, kc, ks⟩ := X
  obtain ⟨hx, hb, hml, hown, hts, hK, hlk, hr, hfr, hlo, hkc, hks⟩ := cx
  subst hw; subst ho
  exact fun H locs ls hP hD hS hl => W.iret hx hb hr (fun t ht hW => ⟨rfl, by rw [ht]; exact hP, hS.F ht⟩) hS.2.2 hd hlk
theorem k_lret (pc : Nat) {w w' : va_W} {o : Option Value} {x : Int64} (cx : Cx X cc nL own G fr lo (some .long)) (hd : decode cc pc = .ok (.lreturn, 1)) (ho : o = some (.long x)) (hw : ws = w') : KJ X (QR X G w o w') G (aIn w) nL pc lv [.long x] ws := by
  obtain ⟨p, l, e, R, s, m, args, below, meth, c, kc, ks⟩ := X
  obtain ⟨hx, hb, hml, hown, hts, hK, hlk, hr, hfr, hlo, hkc, hks⟩ := cx
  subst hw; subst ho
  exact fun H locs ls hP hD hS hl => W.lret hx hb hr (fun t ht hW => ⟨rfl, by rw [ht]; exact hP, hS.F ht⟩) hS.2.2 hd hlk
theorem k_zret (pc : Nat) {w w' : va_W} {o : Option Value} {x : Int32} (cx : Cx X cc nL own G fr lo (some .boolean)) (hd : decode cc pc = .ok (.ireturn, 1)) (hx01 : x = 0 ∨ x = 1) (ho : o = some (.int x)) (hw : ws = w') : KJ X (QR X G w o w') G (aIn w) nL pc lv [.int x] ws := by
  obtain ⟨p, l, e, R, s, m, args, below, meth, c, kc, ks⟩ := X
  obtain ⟨hx, hb, hml, hown, hts, hK, hlk, hr, hfr, hlo, hkc, hks⟩ := cx
  subst hw; subst ho
  exact fun H locs ls hP hD hS hl => W.zret hx hb hr (by rcases hx01 with rfl | rfl <;> decide) (fun t ht hW => ⟨rfl, by rw [ht]; exact hP, hS.F ht⟩) hS.2.2 hd hlk
theorem k_aret (pc : Nat) {w w' : va_W} {o : Option Value} {a : Nat} {C : String} (cx : Cx X cc nL own G fr lo (some (.object C))) (hd : decode cc pc = .ok (.areturn, 1)) (ho : o = some (.ref a)) (hw : ws = w') : KJ X (QR X G w o w') G (aIn w) nL pc lv [.ref a] ws := by
  obtain ⟨p, l, e, R, s, m, args, below, meth, c, kc, ks⟩ := X
  obtain ⟨hx, hb, hml, hown, hts, hK, hlk, hr, hfr, hlo, hkc, hks⟩ := cx
  subst hw; subst ho
  exact fun H locs ls hP hD hS hl => W.aret hx hb hr (Or.inl ⟨C, rfl⟩) (Or.inr ⟨a, rfl⟩) (fun t ht hW => ⟨rfl, by rw [ht]; exact hP, hS.F ht⟩) hS.2.2 hd hlk
theorem k_vret (pc : Nat) {w w' : va_W} {o : Option Value} (cx : Cx X cc nL own G fr lo none) (hd : decode cc pc = .ok (.return_, 1)) (ho : o = none) (hw : ws = w') : KJ X (QR X G w o w') G (aIn w) nL pc lv [] ws := by
  obtain ⟨p, l, e, R, s, m, args, below, meth, c, kc, ks⟩ := X
  obtain ⟨hx, hb, hml, hown, hts, hK, hlk, hr, hfr, hlo, hkc, hks⟩ := cx
  subst hw; subst ho
  exact fun H locs ls hP hD hS hl => W.vret hx hb hr (fun t ht hW => ⟨rfl, by rw [ht]; exact hP, hS.F ht⟩) hS.2.2 hd hlk
end KJ
end
section
/-- a world with the cells at some places put anew -/
def setAll (ws : va_W) : List Nat → va_W → va_W
  | [], _ => ws
  | _ :: _, [] => ws
  | i :: is, q :: qs => setAll (ws.set i q) is qs
theorem setAll_get : ∀ (is : List Nat) (qs ws : va_W), is.length = qs.length → ∀ (k : Nat) (q : Nat × va_E), (setAll ws is qs)[k]? = some q → (∃ j : Nat, is[j]? = some k ∧ qs[j]? = some q) ∨ (k ∉ is ∧ ws[k]? = some q) := by
  intro is
  induction is with
  | nil => intro qs ws _ k q h; simp only [setAll] at h; exact Or.inr ⟨List.not_mem_nil, h⟩
  | cons i is ih =>
    intro qs ws hl k q h
    cases qs with
    | nil => cases hl
    | cons q0 qs =>
      rcases ih qs (ws.set i q0) (by simpa using hl) k q h with ⟨j, h1, h2⟩ | ⟨h1, h2⟩
      · exact Or.inl ⟨j + 1, by simpa using h1, by simpa using h2⟩
      · by_cases hk : k = i
        · subst hk
          have hlt : k < (ws.set k q0).length := (List.getElem?_eq_some_iff.mp h2).1
          rw [List.length_set] at hlt
          rw [List.getElem?_set_self hlt] at h2
          cases h2
          exact Or.inl ⟨0, rfl, rfl⟩
        · rw [List.getElem?_set_ne (Ne.symm hk)] at h2
          exact Or.inr ⟨fun z => (List.mem_cons.mp z).elim hk h1, h2⟩
theorem setAll_fst : ∀ (is : List Nat) (qs ws : va_W), (∀ (j i : Nat) (q : Nat × va_E), is[j]? = some i → qs[j]? = some q → ∃ e, ws[i]? = some (q.1, e)) → ∀ (k : Nat) (q : Nat × va_E), (setAll ws is qs)[k]? = some q → ∃ q0 : Nat × va_E, ws[k]? = some q0 ∧ q0.1 = q.1 := by
  intro is
  induction is with
  | nil => intro qs ws _ k q h; simp only [setAll] at h; exact ⟨q, h, rfl⟩
  | cons i is ih =>
    intro qs ws ha k q h
    cases qs with
    | nil => exact ⟨q, h, rfl⟩
    | cons q0 qs =>
      obtain ⟨e0, he0⟩ := ha 0 i q0 rfl rfl
      have hlt := (List.getElem?_eq_some_iff.mp he0).1
      have key : ∀ (k : Nat) (x : Nat × va_E), (ws.set i q0)[k]? = some x → ∃ x0 : Nat × va_E, ws[k]? = some x0 ∧ x0.1 = x.1 := by
        intro k x hx
        by_cases hk : k = i
        · subst hk
          rw [List.getElem?_set_self hlt] at hx
          cases hx
          exact ⟨_, he0, rfl⟩
        · rw [List.getElem?_set_ne (Ne.symm hk)] at hx
          exact ⟨x, hx, rfl⟩
      have key2 : ∀ (k : Nat) (a : Nat) (e : va_E), ws[k]? = some (a, e) → ∃ e', (ws.set i q0)[k]? = some (a, e') := by
        intro k a e hx
        by_cases hk : k = i
        · subst hk
          rw [hx] at he0
          cases he0
          exact ⟨q0.2, by rw [List.getElem?_set_self hlt]⟩
        · exact ⟨e, by rw [List.getElem?_set_ne (Ne.symm hk)]; exact hx⟩
      obtain ⟨x1, h1, h2⟩ := ih qs (ws.set i q0) (fun j i' q' hj hq => by
        obtain ⟨e, he⟩ := ha (j + 1) i' q' (by simpa using hj) (by simpa using hq)
        exact key2 _ _ _ he) k q h
      obtain ⟨x0, h3, h4⟩ := key k x1 h1
      exact ⟨x0, h3, h4.trans h2⟩
theorem my_join {A0 : Nat → Prop} {D : va_G} {cl : List vw_C} {ws wc w1 : va_W} {H H1 : Heap} (hP : va_P D cl ws H) (hD : va_D A0 ws) (isC : List Nat) (hC : isC.map (fun i => ws[i]?) = wc.map some) (ha : w1.map (fun q => q.1) = wc.map (fun q => q.1))
    (hk : ∀ q : Nat, q < H.size → ¬ aIn wc q → H1[q]? = H[q]?) (hP1 : va_P D cl w1 H1) : va_P D cl (setAll ws isC w1) H1 ∧ va_D A0 (setAll ws isC w1) := by
  have at1 : ∀ (k : Nat) (q : Nat × va_E), wc[k]? = some q → ∃ i, isC[k]? = some i ∧ ws[i]? = some q := by
    intro k q hq
    have h1 : (isC.map (fun i => ws[i]?))[k]? = some (some q) := by rw [hC, List.getElem?_map, hq]; rfl
    rw [List.getElem?_map] at h1
    cases hi : isC[k]? with
    | none => rw [hi] at h1; cases h1
    | some i => rw [hi] at h1; exact ⟨i, rfl, Option.some.inj h1⟩
  have at2 : ∀ (j i : Nat) (q : Nat × va_E), isC[j]? = some i → w1[j]? = some q → ∃ e, ws[i]? = some (q.1, e) := by
    intro j i q hj hq
    have h1 : (w1.map (fun q => q.1))[j]? = some q.1 := by rw [List.getElem?_map, hq]; rfl
    rw [ha, List.getElem?_map] at h1
    cases hw : wc[j]? with
    | none => rw [hw] at h1; cases h1
    | some x =>
      rw [hw] at h1
      obtain ⟨i2, h2, h3⟩ := at1 j x hw
      rw [h2] at hj
      cases hj
      have h4 : x.1 = q.1 := Option.some.inj h1
      exact ⟨x.2, by rw [h3, ← h4]⟩
  have hlen : isC.length = w1.length := by
    have h1 := congrArg List.length hC
    have h2 := congrArg List.length ha
    simp only [List.length_map] at h1 h2
    omega
  have hfst := setAll_fst isC w1 ws at2
  refine ⟨fun k q hq => ?_, ⟨fun i j x y hi hj hxy => ?_, fun k q hq => ?_⟩⟩
  · rcases setAll_get isC w1 ws hlen k q hq with ⟨j, h1, h2⟩ | ⟨h1, h2⟩
    · exact hP1 j q h2
    · have hat := hP k q h2
      refine hat.kept (hk q.1 hat.lt ?_)
      rintro ⟨j, e, h3⟩
      obtain ⟨i, h4, h5⟩ := at1 j _ h3
      have h6 := hD.1 k i q (q.1, e) h2 h5 rfl
      subst h6
      exact h1 (List.mem_of_getElem? h4)
  · obtain ⟨x0, h1, h2⟩ := hfst i x hi
    obtain ⟨y0, h3, h4⟩ := hfst j y hj
    exact hD.1 i j x0 y0 h1 h3 (h2.trans (hxy.trans h4.symm))
  · obtain ⟨x0, h1, h2⟩ := hfst k q hq
    rw [← h2]
    exact hD.2 k x0 h1
section KCALL
variable {p : Program} {l : Launch} {e : Env} {R : Room} {s : State} {m : MethodId} {args : Array Value} {below : List Frame} {meth : Method} {c : Code} {H : Heap} {locs : List Loc} {kc ks : Nat} {Q : State → Prop}
variable {pc : Nat} {ls : Array Slot} {rest st0 : List Value} {a : Array Value} {A : Nat → Prop} {H0 : Heap} {G : GT} {wc w1 : va_W} {o : Option Value}
theorem kcall (hr : va_Run p l e R s m args below meth c H locs kc ks 0 0 (F0 m pc ls st0) rest (QcR G wc o w1 a) (aIn wc)) (hS : va_S A H0 H locs) (hF : ∀ q, aIn wc q → A q)
    (kk : ∀ (H1 : Heap) (locs1 : List Loc), va_P G.1 vwCl w1 H1 → (∀ q : Nat, q < H.size → ¬ aIn wc q → H1[q]? = H[q]?) → va_S A H0 H1 locs1 → W p l e R s m args below meth c H1 locs1 kc ks Q (F0 m (pc + 3) ls (o.toList ++ rest))) : W p l e R s m args below meth c H locs kc ks Q (F0 m pc ls st0) := by
  intro T hT X
  obtain ⟨v, st₀, t, T', L, h0, X', hL, e1, e2, ⟨hv, hp, hz, hk⟩, st⟩ := hr T hT X
  cases hv
  rw [h0] at hz hk
  obtain ⟨t2, a1, b1⟩ := kk T'.heap (locs ++ L) (by rw [e1]; exact hp) (fun q h1 h2 => by rw [e1]; exact hk q h1 h2)
    ⟨Nat.le_trans hS.1 (by rw [e1]; exact hz), fun q h1 h2 => by rw [e1, hk q (Nat.lt_of_lt_of_le h1 hS.1) (fun z => h2 (hF q z))]; exact hS.2.1 q h1 h2, fun q hq => by
      rcases List.mem_append.mp hq with h | h
      · exact hS.2.2 q h
      · exact hF _ (hL q h)⟩ T' rfl X'
  exact ⟨t2, st t2 a1, b1⟩
end KCALL
/-- what a method's name and words must be for a call of it -/
def yD (y : MethodName) (n : Nat) : Prop := y.cls ≠ "java/lang/invoke/MethodHandle" ∧ y.cls ≠ "java/lang/invoke/VarHandle" ∧ (parseMethodDescriptor y.desc).map (fun d => d.parameters.length) = some n
def CWV (own : String) (index : Nat) (C : String) (y : MethodName) (cy : ByteArray) (nLy : Nat) (rety : Option FieldType) (n ci : Nat) (T : u_T) (N : Nat) : Prop :=
  Cond.methodLink own index y ∈ TB ∧ Cond.instanceMethod y ∈ TB ∧ Cond.selects C y y ∈ TB ∧ Cond.initialized y.cls ∈ TB ∧ Cond.code y cy nLy rety ∈ TB ∧ yD y n ∧ vwCl[ci]? = some (C, T, N)
def CWS (own : String) (index : Nat) (y : MethodName) (cy : ByteArray) (nLy : Nat) (rety : Option FieldType) (n : Nat) : Prop :=
  Cond.methodLink own index y ∈ TB ∧ Cond.static y ∈ TB ∧ Cond.initialized y.cls ∈ TB ∧ Cond.code y cy nLy rety ∈ TB ∧ yD y n
theorem subD {A : Nat → Prop} {ws wc : va_W} (hD : va_D A ws) (isC : List Nat) (hn : va_nd isC = true) (hC : isC.map (fun i => ws[i]?) = wc.map some) : va_D A wc := hD.sub isC hn hC
theorem subP {D : va_G} {cl : List vw_C} {ws wc : va_W} {H : Heap} (hP : va_P D cl ws H) (isC : List Nat) (hC : isC.map (fun i => ws[i]?) = wc.map some) : va_P D cl wc H := by
  intro k q hq
  have h1 : (isC.map (fun i => ws[i]?))[k]? = some (some q) := by rw [hC, List.getElem?_map, hq]; rfl
  rw [List.getElem?_map] at h1
  cases hi : isC[k]? with
  | none => rw [hi] at h1; cases h1
  | some i => rw [hi] at h1; exact hP i q (Option.some.inj h1)
theorem blindC (G : GT) (av : List Value) (w : va_W) : FrameBlind (va_Pc av (fun U => va_P G.1 vwCl w U.heap ∧ va_K G.1 vwCl (tyl G) U ∧ va_D (fun _ => True) w)) := by
  intro a U g mk q
  obtain ⟨q0, qP, qK, qD⟩ := q
  exact ⟨q0, qP, va_K.moved (u := U) (U := U.calling g mk a) (Vm.Alike.refl U.vm) qK, qD⟩
section KJC
variable {X : XT} {Q : State → Prop} {G : GT} {A : Nat → Prop} {nL : Nat} {lv : List (Nat × Value)} {st rest st2 : List Value} {ws wc w1 w2 : va_W} {cc : ByteArray} {own : String} {fr lo : Nat} {ret : Option FieldType}
variable {C : String} {y : MethodName} {cy : ByteArray} {nLy fry loy index n ci N b : Nat} {rety : Option FieldType} {As : List Value} {o : Option Value} {T : u_T} {fs : List Value}
theorem k_callV (pc : Nat) (cx : Cx X cc nL own G fr lo ret) (cw : CWV own index C y cy nLy rety n ci T N) (hM : CT X.2.1 y cy nLy rety fry loy (.ref b :: As) G wc o w1) (hd : decode cc pc = .ok (.invokevirtual index, 3)) (hroom : fry + 1 ≤ fr ∧ 8 + (nLy + 11) + loy ≤ lo) (hrecv : wc[0]? = some (b, .inr (ci, fs))) (hn : As.length = n) (hst : st = As.reverse ++ .ref b :: rest) (hrest : (rest.map fun v => v.category).sum ≤ 8) (isC : List Nat) (hnd : va_nd isC = true) (hC : isC.map (fun i => ws[i]?) = wc.map some) (ha : w1.map (fun q => q.1) = wc.map (fun q => q.1)) (hw : setAll ws isC w1 = w2) (hst2 : o.toList ++ rest = st2) (k : KJ X Q G A nL (pc + 3) lv st2 w2) : KJ X Q G A nL pc lv st ws := by
  obtain ⟨p, l, e, R, s, m, args, below, meth, c, kc, ks⟩ := X
  obtain ⟨hx, hb, hml, hown, hts, hK, hlk, hr, hfr, hlo, hkc, hks⟩ := cx
  obtain ⟨g1, g2, g3, g4, g5, g6, g7⟩ := cw
  subst hst; subst hst2; subst hw
  intro H locs ls hP hD hS hl
  have hPc := subP hP isC hC
  have hDc := subD hD isC hnd hC
  have hrun := va_runV (locs := locs) (R := R) (g := F0 m pc ls (As.reverse ++ .ref b :: rest)) (rest := rest) (p := p) (l := l) (e := e) (below := below) (meth := meth) (cells := kc) (slots := ks) ⟨hx, hb, hml, hown, hts⟩ hM ⟨callB_of n hts (tb_in g5) rfl rfl rfl (hts _ g4) (hts _ g1) g6 (by rw [hfr, hlo]; exact hroom), hts _ g2, hts _ g3⟩ ⟨blindC G _ wc, va_recv hK hPc g7 hrecv, fun U hU hW => ⟨rfl, by rw [hU]; exact hPc, va_K.moved hW.alike hK, hDc.weaken (fun _ _ _ _ => trivial)⟩⟩ rfl hn hl.1 rfl (lv_room hrest) hd ⟨by omega, by omega⟩
  exact kcall hrun hS (fun q h => by obtain ⟨k2, e2, h⟩ := h; exact hDc.2 k2 _ h) (fun H1 locs1 hP1 hk1 hS1 => by
    obtain ⟨hP2, hD2⟩ := my_join hP hD isC hC ha hk1 hP1
    exact k H1 locs1 ls hP2 hD2 hS1 hl)
theorem k_callS (pc : Nat) (cx : Cx X cc nL own G fr lo ret) (cw : CWS own index y cy nLy rety n) (hM : CT X.2.1 y cy nLy rety fry loy As G wc o w1) (hd : decode cc pc = .ok (.invokestatic index, 3)) (hroom : fry + 1 ≤ fr ∧ 8 + (nLy + 11) + loy ≤ lo) (hn : As.length = n) (hst : st = As.reverse ++ rest) (hrest : (rest.map fun v => v.category).sum ≤ 8) (isC : List Nat) (hnd : va_nd isC = true) (hC : isC.map (fun i => ws[i]?) = wc.map some) (ha : w1.map (fun q => q.1) = wc.map (fun q => q.1)) (hw : setAll ws isC w1 = w2) (hst2 : o.toList ++ rest = st2) (k : KJ X Q G A nL (pc + 3) lv st2 w2) : KJ X Q G A nL pc lv st ws := by
  obtain ⟨p, l, e, R, s, m, args, below, meth, c, kc, ks⟩ := X
  obtain ⟨hx, hb, hml, hown, hts, hK, hlk, hr, hfr, hlo, hkc, hks⟩ := cx
  obtain ⟨g1, g2, g4, g5, g6⟩ := cw
  subst hst; subst hst2; subst hw
  intro H locs ls hP hD hS hl
  have hPc := subP hP isC hC
  have hDc := subD hD isC hnd hC
  have hrun := va_runS (locs := locs) (R := R) (g := F0 m pc ls (As.reverse ++ rest)) (rest := rest) (p := p) (l := l) (e := e) (below := below) (meth := meth) (cells := kc) (slots := ks) ⟨hx, hb, hml, hown, hts⟩ hM ⟨callB_of n hts (tb_in g5) rfl rfl rfl (hts _ g4) (hts _ g1) g6 (by rw [hfr, hlo]; exact hroom), hts _ g2⟩ ⟨blindC G _ wc, fun U hU hW => ⟨rfl, by rw [hU]; exact hPc, va_K.moved hW.alike hK, hDc.weaken (fun _ _ _ _ => trivial)⟩⟩ rfl hn hl.1 rfl (lv_room hrest) hd ⟨by omega, by omega⟩
  exact kcall hrun hS (fun q h => by obtain ⟨k2, e2, h⟩ := h; exact hDc.2 k2 _ h) (fun H1 locs1 hP1 hk1 hS1 => by
    obtain ⟨hP2, hD2⟩ := my_join hP hD isC hC ha hk1 hP1
    exact k H1 locs1 ls hP2 hD2 hS1 hl)
theorem k_max (pc : Nat) (cx : Cx X cc nL own G fr lo ret) (hw1 : Cond.methodLink own index Lib.Math.max.name ∈ TB ∧ Cond.static Lib.Math.max.name ∈ TB ∧ Cond.initialized "java/lang/Math" ∈ TB ∧ Cond.code Lib.Math.max.name Lib.Math.max.code 2 (some .int) ∈ TB) {x z : Int32} (hd : decode cc pc = .ok (.invokestatic index, 3)) (hroom : 1 ≤ fr ∧ (st.map fun v => v.category).sum + 13 ≤ lo) (k : KJ X Q G A nL (pc + 3) lv (.int (if x < z then z else x) :: st) ws) : KJ X Q G A nL pc lv (.int z :: .int x :: st) ws := by
  obtain ⟨p, l, e, R, s, m, args, below, meth, c, kc, ks⟩ := X
  obtain ⟨hx, hb, hml, hown, hts, hK, hlk, hr, hfr, hlo, hkc, hks⟩ := cx
  obtain ⟨g1, g2, g3, g4⟩ := hw1
  intro H locs ls hP hD hS hl
  exact va_mmax hx hb (hml.trans hl.1.symm) hown (hts _ g1) (hts _ g2) (hts _ g3) (hts _ g4) (by rw [hfr]; exact hroom.1) (by rw [hlo]; exact hroom.2) hkc hks hd (k H locs ls hP hD hS hl)
theorem k_acopy {β : Type} (pc : Nat) (cx : Cx X cc nL own G fr lo ret) (hw1 : Cond.methodLink own index arraycopyName ∈ TB ∧ Cond.native arraycopyName ∈ TB ∧ Cond.static arraycopyName ∈ TB ∧ Cond.initialized "java/lang/System" ∈ TB) {sp dp len : Int32} {a0 a n0 n1 : Nat} {f g : Nat → Int32} {bm : (Nat → Int32) → Option β} {z : β} (q0 q1 : Nat) (he0 : ws[q0]? = some (a0, .inl (G.2.1, n0, .inl f))) (he1 : ws[q1]? = some (a, .inl (G.2.1, n1, .inl g)))
    (hm : gB (decide (0 ≤ sp.toInt ∧ 0 ≤ dp.toInt ∧ 0 ≤ len.toInt ∧ sp.toInt + len.toInt ≤ (n0 : Int) ∧ dp.toInt + len.toInt ≤ (n1 : Int))) (nme (va_cpy f g sp.toNatClampNeg dp.toNatClampNeg len.toNatClampNeg) bm) = some z)
    (hd : decode cc pc = .ok (.invokestatic index, 3)) (hroom : 1 ≤ fr ∧ (st.map fun v => v.category).sum + (nativeFrameWords "java/lang/System" "arraycopy" 5 + 11) ≤ lo) (wf : (Nat → Int32) → va_W) (hw : ∀ h, ws.set q1 (a, .inl (G.2.1, n1, .inl h)) = wf h) (k : ∀ h : Nat → Int32, bm h = some z → KJ X Q G A nL (pc + 3) lv st (wf h)) : KJ X Q G A nL pc lv (.int len :: .int dp :: .ref a :: .int sp :: .ref a0 :: st) ws := by
  obtain ⟨p, l, e, R, s, m, args, below, meth, c, kc, ks⟩ := X
  obtain ⟨hx, hb, hml, hown, hts, hK, hlk, hr, hfr, hlo, hkc, hks⟩ := cx
  obtain ⟨g1, g2, g3, g4⟩ := hw1
  intro H locs ls hP hD hS hl
  obtain ⟨h1, h2, h3, h4, h5⟩ := of_decide_eq_true (gB_s hm).1
  have nn : ∀ x : Int32, 0 ≤ x.toInt → ¬ x < 0 ∧ (x.toNatClampNeg : Int) = x.toInt := by
    intro x hx
    have e1 : (x.toNatClampNeg : Int) = x.toInt := by
      show ((x.toInt.toNat : Nat) : Int) = x.toInt
      omega
    refine ⟨fun h => ?_, e1⟩
    have h := Int32.lt_iff_toInt_lt.mp h
    rw [show (0 : Int32).toInt = 0 from rfl] at h
    omega
  obtain ⟨a1, b1⟩ := nn sp h1
  obtain ⟨a2, b2⟩ := nn dp h2
  obtain ⟨a3, b3⟩ := nn len h3
  exact va_copyi hx hb (hml.trans hl.1.symm) hown (hts _ g1) (hts _ g2) (hts _ g3) (hts _ g4) hK hP hD hS q0 q1 0 0 he0 he1 rfl rfl rfl a1 a2 a3 (by omega) (by omega) (fun _ _ => rfl) (by rw [hfr]; exact hroom.1) (by rw [hlo]; exact hroom.2) hd (fun H1 locs1 hP1 hD1 hS1 => k _ (gB_s hm).2 H1 locs1 ls (by rw [← hw]; exact hP1) (by rw [← hw]; exact hD1) hS1 hl)
end KJC
end
section
theorem m_if {α : Type} {c : Prop} {inst : Decidable c} {a b z : α} (h : @ite _ c inst a b = z) : (c ∧ a = z) ∨ (¬ c ∧ b = z) := by
  by_cases hc : c
  · exact Or.inl ⟨hc, (if_pos hc).symm.trans h⟩
  · exact Or.inr ⟨hc, (if_neg hc).symm.trans h⟩
theorem k_nm1 {β : Type} {X : XT} {Q : State → Prop} {G : GT} {A : Nat → Prop} {nL : Nat} {lv : List (Nat × Value)} {st : List Value} {ws : va_W} {v : Value} {x : Int32} {b : Int32 → Option β} {y : β} {pc : Nat} (hm : nme x b = some y) (k : ∀ z : Int32, b z = some y → KJ X Q G A nL pc lv (v :: .int z :: st) ws) : KJ X Q G A nL pc lv (v :: .int x :: st) ws := k x hm
theorem k_nml1 {β : Type} {X : XT} {Q : State → Prop} {G : GT} {A : Nat → Prop} {nL : Nat} {lv : List (Nat × Value)} {st : List Value} {ws : va_W} {v : Value} {x : Int64} {b : Int64 → Option β} {y : β} {pc : Nat} (hm : nme x b = some y) (k : ∀ z : Int64, b z = some y → KJ X Q G A nL pc lv (v :: .long z :: st) ws) : KJ X Q G A nL pc lv (v :: .long x :: st) ws := k x hm
end
section
theorem fgX0_9 {X : XT} {Q : State → Prop} {G : GT} {A : Nat → Prop} {nL : Nat} {lv : List (Nat × Value)} {st : List Value} {ws : va_W} {cc : ByteArray} {fr lo : Nat} {ret : Option FieldType} (pc : Nat) (cx : Cx X cc nL RX0 G fr lo ret) {a : Nat} {fs : List Value} {v : Value} (hd : decode cc pc = .ok (.getfield 9, 3)) (q0 : Nat) (he : ws[q0]? = some (a, .inr (0, fs))) (hv : fs[1]? = some v) (k : KJ X Q G A nL (pc + 3) lv (v :: st) ws) : KJ X Q G A nL pc lv (.ref a :: st) ws :=
  k_get (ref := RX0) (T := TX0) (N := 6) (ci := 0) pc cx inX0 rfl 1 (by decide) (tb_m (i := 196) rfl rfl) rfl hd q0 he hv k
def w_X0_rangAt (G : GT) (h_t : Nat) (h_t_rang : Nat) (h_t_valley : Nat) (h_t_underWay : Nat) (h_t_counting : Nat) (h_t_cameByRopes : Nat) (t_lastDue : Int32) (t_rang : (Nat → Int32)) : va_W := [(h_t, .inr (0, [.ref h_t_valley, .ref h_t_rang, .ref h_t_underWay, .ref h_t_counting, .ref h_t_cameByRopes, .int t_lastDue])), (h_t_rang, .inl (G.2.1, 400, .inl t_rang))]
def M_X0_rangAt (t_rang : (Nat → Int32)) (a1 : Int32) (a2 : Int32) : Option (Int32) := (gB (inb a2 400) (if (((t_rang (Int32.toNatClampNeg a2)) >>> (a1 &&& 31)) &&& (1 : Int32)) = 0 then (some (0 : Int32)) else (some (1 : Int32))))
set_option maxHeartbeats 4000000 in
set_option maxRecDepth 100000 in
theorem c_X0_rangAt (l : Launch) (G : GT) (h_t : Nat) (h_t_rang : Nat) (h_t_valley : Nat) (h_t_underWay : Nat) (h_t_counting : Nat) (h_t_cameByRopes : Nat) (t_lastDue : Int32) (t_rang : (Nat → Int32)) (a1 : Int32) (a2 : Int32) {u : Int32} (hm : M_X0_rangAt t_rang a1 a2 = some u) : CT l yX0_rangAt cX0_rangAt 3 (some .boolean) 0 0 [.ref h_t, .int a1, .int a2] G (w_X0_rangAt G h_t h_t_rang h_t_valley h_t_underWay h_t_counting h_t_cameByRopes t_lastDue t_rang) (some (.int u)) (w_X0_rangAt G h_t h_t_rang h_t_valley h_t_underWay h_t_counting h_t_cameByRopes t_lastDue t_rang) := by
  refine ct_intro RX0 [(0, .ref h_t), (1, .int a1), (2, .int a2)] (by decide) rfl (Nat.le_of_ble_eq_true rfl) rfl (fun X hX cx => ?_)
  unfold M_X0_rangAt at hm
  refine k_aload_n 0 cx dX0_rangAt_0 rfl 0 rfl ?_
  refine fgX0_9 1 cx dX0_rangAt_1 0 rfl rfl ?_
  refine k_iload_n 4 cx dX0_rangAt_4 rfl 2 rfl ?_
  refine k_iald 5 cx dX0_rangAt_5 1 rfl hm (fun hm => ?_)
  refine k_iload_n 6 cx dX0_rangAt_6 rfl 1 rfl ?_
  refine k_ishr 7 cx dX0_rangAt_7 ?_
  refine k_iconst 8 cx (v := (1 : Int32)) dX0_rangAt_8 (by decide) ?_
  refine k_iand 9 cx dX0_rangAt_9 ?_
  refine k_if_eq 10 cx (tgt := 17) dX0_rangAt_10 (by decide) hm (fun hc hm => ?_) (fun hc hm => ?_)
  · refine k_iconst 17 cx (v := (0 : Int32)) dX0_rangAt_17 (by decide) ?_
    obtain rfl := Option.some.inj hm
    exact k_zret 18 cx dX0_rangAt_18 (by decide) rfl rfl
  · refine k_iconst 13 cx (v := (1 : Int32)) dX0_rangAt_13 (by decide) ?_
    refine k_goto 14 cx (tgt := 18) dX0_rangAt_14 (by decide) ?_
    obtain rfl := Option.some.inj hm
    exact k_zret 18 cx dX0_rangAt_18 (by decide) rfl rfl
theorem fgX0_18 {X : XT} {Q : State → Prop} {G : GT} {A : Nat → Prop} {nL : Nat} {lv : List (Nat × Value)} {st : List Value} {ws : va_W} {cc : ByteArray} {fr lo : Nat} {ret : Option FieldType} (pc : Nat) (cx : Cx X cc nL RX0 G fr lo ret) {a : Nat} {fs : List Value} {v : Value} (hd : decode cc pc = .ok (.getfield 18, 3)) (q0 : Nat) (he : ws[q0]? = some (a, .inr (0, fs))) (hv : fs[3]? = some v) (k : KJ X Q G A nL (pc + 3) lv (v :: st) ws) : KJ X Q G A nL pc lv (.ref a :: st) ws :=
  k_get (ref := RX0) (T := TX0) (N := 6) (ci := 0) pc cx inX0 rfl 3 (by decide) (tb_m (i := 199) rfl rfl) rfl hd q0 he hv k
theorem fgX0_24 {X : XT} {Q : State → Prop} {G : GT} {A : Nat → Prop} {nL : Nat} {lv : List (Nat × Value)} {st : List Value} {ws : va_W} {cc : ByteArray} {fr lo : Nat} {ret : Option FieldType} (pc : Nat) (cx : Cx X cc nL RX0 G fr lo ret) {a : Nat} {fs : List Value} {v : Value} (hd : decode cc pc = .ok (.getfield 24, 3)) (q0 : Nat) (he : ws[q0]? = some (a, .inr (0, fs))) (hv : fs[0]? = some v) (k : KJ X Q G A nL (pc + 3) lv (v :: st) ws) : KJ X Q G A nL pc lv (.ref a :: st) ws :=
  k_get (ref := RX0) (T := TX0) (N := 6) (ci := 0) pc cx inX0 rfl 0 (by decide) (tb_m (i := 195) rfl rfl) rfl hd q0 he hv k
theorem fgX0_92 {X : XT} {Q : State → Prop} {G : GT} {A : Nat → Prop} {nL : Nat} {lv : List (Nat × Value)} {st : List Value} {ws : va_W} {cc : ByteArray} {fr lo : Nat} {ret : Option FieldType} (pc : Nat) (cx : Cx X cc nL RX0 G fr lo ret) {a : Nat} {fs : List Value} {v : Value} (hd : decode cc pc = .ok (.getfield 92, 3)) (q0 : Nat) (he : ws[q0]? = some (a, .inr (5, fs))) (hv : fs[7]? = some v) (k : KJ X Q G A nL (pc + 3) lv (v :: st) ws) : KJ X Q G A nL pc lv (.ref a :: st) ws :=
  k_get (ref := RX5) (T := TX5) (N := 9) (ci := 5) pc cx inX5 rfl 7 (by decide) (tb_m (i := 105) rfl rfl) rfl hd q0 he hv k
def w_X0_countTogether (G : GT) (h_t : Nat) (h_t_valley : Nat) (h_t_counting : Nat) (h_t_rang : Nat) (h_t_underWay : Nat) (h_t_cameByRopes : Nat) (h_t_valley_kinds : Nat) (h_t_valley_needs : Nat) (h_t_valley_from : Nat) (h_t_valley_to : Nat) (h_t_valley_lasts : Nat) (t_lastDue : Int32) (t_valley_bells : Int32) (t_valley_ropes : Int32) (t_valley_span : Int32) (t_valley_tied : Int32) (t_counting : (Nat → Int32)) : va_W := [(h_t, .inr (0, [.ref h_t_valley, .ref h_t_rang, .ref h_t_underWay, .ref h_t_counting, .ref h_t_cameByRopes, .int t_lastDue])), (h_t_valley, .inr (5, [.ref h_t_valley_kinds, .ref h_t_valley_needs, .ref h_t_valley_from, .ref h_t_valley_to, .ref h_t_valley_lasts, .int t_valley_bells, .int t_valley_ropes, .int t_valley_span, .int t_valley_tied])), (h_t_counting, .inl (G.2.1, 36, .inl t_counting))]
def L_X0_countTogether_5 (x1 : Int32) (x2 : Int32) (t_valley_span : Int32) (t_counting : (Nat → Int32)) : Nat → Int32 → Int32 → Option (Int32 × Int32)
  | 0, _, _ => none
  | n + 1, x3, x4 => (if t_valley_span < x4 then (some (x3, x4)) else (if x2 < x4 then (some (x3, x4)) else (nme (x2 - x4) (fun x10 => (gB (inb (((x10 - x10 / (6 : Int32) * (6 : Int32)) * (6 : Int32)) + x1) 36) (nme (x3 + (t_counting (Int32.toNatClampNeg (((x10 - x10 / (6 : Int32) * (6 : Int32)) * (6 : Int32)) + x1)))) (fun x11 => (nme (x4 + (1 : Int32)) (fun x12 => (L_X0_countTogether_5 x1 x2 t_valley_span t_counting n x11 x12))))))))))
def M_X0_countTogether (t_valley_span : Int32) (t_counting : (Nat → Int32)) (a1 : Int32) (a2 : Int32) : Option (Int32) := ((L_X0_countTogether_5 a1 a2 t_valley_span t_counting 1000 (0 : Int32) (0 : Int32)).bind (fun u13 => (some u13.1)))
set_option maxHeartbeats 4000000 in
set_option maxRecDepth 100000 in
theorem c_X0_countTogether (l : Launch) (G : GT) (h_t : Nat) (h_t_valley : Nat) (h_t_counting : Nat) (h_t_rang : Nat) (h_t_underWay : Nat) (h_t_cameByRopes : Nat) (h_t_valley_kinds : Nat) (h_t_valley_needs : Nat) (h_t_valley_from : Nat) (h_t_valley_to : Nat) (h_t_valley_lasts : Nat) (t_lastDue : Int32) (t_valley_bells : Int32) (t_valley_ropes : Int32) (t_valley_span : Int32) (t_valley_tied : Int32) (t_counting : (Nat → Int32)) (a1 : Int32) (a2 : Int32) {u : Int32} (hm : M_X0_countTogether t_valley_span t_counting a1 a2 = some u) : CT l yX0_countTogether cX0_countTogether 5 (some .int) 0 0 [.ref h_t, .int a1, .int a2] G (w_X0_countTogether G h_t h_t_valley h_t_counting h_t_rang h_t_underWay h_t_cameByRopes h_t_valley_kinds h_t_valley_needs h_t_valley_from h_t_valley_to h_t_valley_lasts t_lastDue t_valley_bells t_valley_ropes t_valley_span t_valley_tied t_counting) (some (.int u)) (w_X0_countTogether G h_t h_t_valley h_t_counting h_t_rang h_t_underWay h_t_cameByRopes h_t_valley_kinds h_t_valley_needs h_t_valley_from h_t_valley_to h_t_valley_lasts t_lastDue t_valley_bells t_valley_ropes t_valley_span t_valley_tied t_counting) := by
  refine ct_intro RX0 [(0, .ref h_t), (1, .int a1), (2, .int a2)] (by decide) rfl (Nat.le_of_ble_eq_true rfl) rfl (fun X hX cx => ?_)
  have lp5 : ∀ (Q : State → Prop) (A : Nat → Prop) (x1 : Int32) (x2 : Int32) (t_lastDue : Int32) (t_valley_bells : Int32) (t_valley_ropes : Int32) (t_valley_span : Int32) (t_valley_tied : Int32) (t_counting : (Nat → Int32)) (n : Nat) (x3 : Int32) (x4 : Int32) (y : Int32 × Int32), L_X0_countTogether_5 x1 x2 t_valley_span t_counting n x3 x4 = some y → (KJ X Q G A 5 49 [(3, .int y.1)] [] (w_X0_countTogether G h_t h_t_valley h_t_counting h_t_rang h_t_underWay h_t_cameByRopes h_t_valley_kinds h_t_valley_needs h_t_valley_from h_t_valley_to h_t_valley_lasts t_lastDue t_valley_bells t_valley_ropes t_valley_span t_valley_tied t_counting)) → KJ X Q G A 5 5 [(0, .ref h_t), (1, .int x1), (2, .int x2), (3, .int x3), (4, .int x4)] [] (w_X0_countTogether G h_t h_t_valley h_t_counting h_t_rang h_t_underWay h_t_cameByRopes h_t_valley_kinds h_t_valley_needs h_t_valley_from h_t_valley_to h_t_valley_lasts t_lastDue t_valley_bells t_valley_ropes t_valley_span t_valley_tied t_counting) := by
    intro Q A x1 x2 t_lastDue t_valley_bells t_valley_ropes t_valley_span t_valley_tied t_counting n
    induction n with
    | zero => intro x3 x4 y hm _; exact noS hm
    | succ n ih =>
      intro x3 x4 y hm k0
      rw [L_X0_countTogether_5] at hm
      refine k_iload 5 cx dX0_countTogether_5 4 rfl ?_
      refine k_aload_n 7 cx dX0_countTogether_7 rfl 0 rfl ?_
      refine fgX0_24 8 cx dX0_countTogether_8 0 rfl rfl ?_
      refine fgX0_92 11 cx dX0_countTogether_11 1 rfl rfl ?_
      refine k_icmp_gt 14 cx (tgt := 49) dX0_countTogether_14 (by decide) hm (fun hc hm => ?_) (fun hc hm => ?_)
      · obtain rfl := Option.some.inj hm
        refine k_lv [3] rfl ?_
        exact k0
      · refine k_iload 17 cx dX0_countTogether_17 4 rfl ?_
        refine k_iload_n 19 cx dX0_countTogether_19 rfl 2 rfl ?_
        refine k_icmp_gt 20 cx (tgt := 49) dX0_countTogether_20 (by decide) hm (fun hc hm => ?_) (fun hc hm => ?_)
        · obtain rfl := Option.some.inj hm
          refine k_lv [3] rfl ?_
          exact k0
        · refine k_iload_n 23 cx dX0_countTogether_23 rfl 3 rfl ?_
          refine k_aload_n 24 cx dX0_countTogether_24 rfl 0 rfl ?_
          refine fgX0_18 25 cx dX0_countTogether_25 0 rfl rfl ?_
          refine k_iload_n 28 cx dX0_countTogether_28 rfl 2 rfl ?_
          refine k_iload 29 cx dX0_countTogether_29 4 rfl ?_
          refine k_isub 31 cx dX0_countTogether_31 ?_
          refine k_bipush 32 cx (v := (6 : Int32)) dX0_countTogether_32 (by decide) ?_
          refine k_nm1 hm (fun x10 hm => ?_)
          refine k_irem_c 34 cx dX0_countTogether_34 (by decide) ?_
          refine k_bipush 35 cx (v := (6 : Int32)) dX0_countTogether_35 (by decide) ?_
          refine k_imul 37 cx dX0_countTogether_37 ?_
          refine k_iload_n 38 cx dX0_countTogether_38 rfl 1 rfl ?_
          refine k_iadd 39 cx dX0_countTogether_39 ?_
          refine k_iald 40 cx dX0_countTogether_40 2 rfl hm (fun hm => ?_)
          refine k_iadd 41 cx dX0_countTogether_41 ?_
          refine k_nm hm (fun x11 hm => ?_)
          refine k_istore_n 42 cx dX0_countTogether_42 rfl (by decide) (lv' := [(3, .int x11), (0, .ref h_t), (1, .int x1), (2, .int x2), (4, .int x4)]) rfl ?_
          refine k_iinc 43 cx dX0_countTogether_43 4 rfl (by decide) (by decide) (fun x12 => [(4, .int x12), (3, .int x11), (0, .ref h_t), (1, .int x1), (2, .int x2)]) (fun _ => rfl) hm (fun x12 hm => ?_)
          refine k_goto 46 cx (tgt := 5) dX0_countTogether_46 (by decide) ?_
          refine k_lv [2, 3, 4, 1, 0] rfl ?_
          exact ih x11 x12 _ hm k0
  unfold M_X0_countTogether at hm
  refine k_iconst 0 cx (v := (0 : Int32)) dX0_countTogether_0 (by decide) ?_
  refine k_istore_n 1 cx dX0_countTogether_1 rfl (by decide) (lv' := [(3, .int (0 : Int32)), (0, .ref h_t), (1, .int a1), (2, .int a2)]) rfl ?_
  refine k_iconst 2 cx (v := (0 : Int32)) dX0_countTogether_2 (by decide) ?_
  refine k_istore 3 cx dX0_countTogether_3 (by decide) (lv' := [(4, .int (0 : Int32)), (3, .int (0 : Int32)), (0, .ref h_t), (1, .int a1), (2, .int a2)]) rfl ?_
  refine k_lv [2, 3, 4, 1, 0] rfl ?_
  obtain ⟨u13, hu13, hm⟩ := bnd hm
  refine lp5 _ _ a1 a2 t_lastDue t_valley_bells t_valley_ropes t_valley_span t_valley_tied t_counting 1000 (0 : Int32) (0 : Int32) u13 hu13 ?_
  refine k_iload_n 49 cx dX0_countTogether_49 rfl 0 rfl ?_
  obtain rfl := Option.some.inj hm
  exact k_iret 50 cx dX0_countTogether_50 rfl rfl
theorem fgX5_9 {X : XT} {Q : State → Prop} {G : GT} {A : Nat → Prop} {nL : Nat} {lv : List (Nat × Value)} {st : List Value} {ws : va_W} {cc : ByteArray} {fr lo : Nat} {ret : Option FieldType} (pc : Nat) (cx : Cx X cc nL RX5 G fr lo ret) {a : Nat} {fs : List Value} {v : Value} (hd : decode cc pc = .ok (.getfield 9, 3)) (q0 : Nat) (he : ws[q0]? = some (a, .inr (5, fs))) (hv : fs[0]? = some v) (k : KJ X Q G A nL (pc + 3) lv (v :: st) ws) : KJ X Q G A nL pc lv (.ref a :: st) ws :=
  k_get (ref := RX5) (T := TX5) (N := 9) (ci := 5) pc cx inX5 rfl 0 (by decide) (tb_m (i := 77) rfl rfl) rfl hd q0 he hv k
theorem fgX5_15 {X : XT} {Q : State → Prop} {G : GT} {A : Nat → Prop} {nL : Nat} {lv : List (Nat × Value)} {st : List Value} {ws : va_W} {cc : ByteArray} {fr lo : Nat} {ret : Option FieldType} (pc : Nat) (cx : Cx X cc nL RX5 G fr lo ret) {a : Nat} {fs : List Value} {v : Value} (hd : decode cc pc = .ok (.getfield 15, 3)) (q0 : Nat) (he : ws[q0]? = some (a, .inr (5, fs))) (hv : fs[1]? = some v) (k : KJ X Q G A nL (pc + 3) lv (v :: st) ws) : KJ X Q G A nL pc lv (.ref a :: st) ws :=
  k_get (ref := RX5) (T := TX5) (N := 9) (ci := 5) pc cx inX5 rfl 1 (by decide) (tb_m (i := 81) rfl rfl) rfl hd q0 he hv k
def w_X5_swingsFor (G : GT) (h_t : Nat) (h_t_kinds : Nat) (h_t_needs : Nat) (h_t_from : Nat) (h_t_to : Nat) (h_t_lasts : Nat) (t_bells : Int32) (t_ropes : Int32) (t_span : Int32) (t_tied : Int32) (t_kinds : (Nat → Int32)) (t_needs : (Nat → Int32)) : va_W := [(h_t, .inr (5, [.ref h_t_kinds, .ref h_t_needs, .ref h_t_from, .ref h_t_to, .ref h_t_lasts, .int t_bells, .int t_ropes, .int t_span, .int t_tied])), (h_t_kinds, .inl (G.2.1, 6, .inl t_kinds)), (h_t_needs, .inl (G.2.1, 6, .inl t_needs))]
def M_X5_swingsFor (t_kinds : (Nat → Int32)) (t_needs : (Nat → Int32)) (a1 : Int32) : Option (Int32) := (gB (inb a1 6) (if (t_kinds (Int32.toNatClampNeg a1)) = 0 then (gB (inb a1 6) (some (t_needs (Int32.toNatClampNeg a1)))) else (gB (inb a1 6) (some ((t_needs (Int32.toNatClampNeg a1)) + (1 : Int32))))))
set_option maxHeartbeats 4000000 in
set_option maxRecDepth 100000 in
theorem c_X5_swingsFor (l : Launch) (G : GT) (h_t : Nat) (h_t_kinds : Nat) (h_t_needs : Nat) (h_t_from : Nat) (h_t_to : Nat) (h_t_lasts : Nat) (t_bells : Int32) (t_ropes : Int32) (t_span : Int32) (t_tied : Int32) (t_kinds : (Nat → Int32)) (t_needs : (Nat → Int32)) (a1 : Int32) {u : Int32} (hm : M_X5_swingsFor t_kinds t_needs a1 = some u) : CT l yX5_swingsFor cX5_swingsFor 2 (some .int) 0 0 [.ref h_t, .int a1] G (w_X5_swingsFor G h_t h_t_kinds h_t_needs h_t_from h_t_to h_t_lasts t_bells t_ropes t_span t_tied t_kinds t_needs) (some (.int u)) (w_X5_swingsFor G h_t h_t_kinds h_t_needs h_t_from h_t_to h_t_lasts t_bells t_ropes t_span t_tied t_kinds t_needs) := by
  refine ct_intro RX5 [(0, .ref h_t), (1, .int a1)] (by decide) rfl (Nat.le_of_ble_eq_true rfl) rfl (fun X hX cx => ?_)
  unfold M_X5_swingsFor at hm
  refine k_aload_n 0 cx dX5_swingsFor_0 rfl 0 rfl ?_
  refine fgX5_9 1 cx dX5_swingsFor_1 0 rfl rfl ?_
  refine k_iload_n 4 cx dX5_swingsFor_4 rfl 1 rfl ?_
  refine k_iald 5 cx dX5_swingsFor_5 1 rfl hm (fun hm => ?_)
  refine k_if_ne 6 cx (tgt := 18) dX5_swingsFor_6 (by decide) hm (fun hc hm => ?_) (fun hc hm => ?_)
  · refine k_aload_n 9 cx dX5_swingsFor_9 rfl 0 rfl ?_
    refine fgX5_15 10 cx dX5_swingsFor_10 0 rfl rfl ?_
    refine k_iload_n 13 cx dX5_swingsFor_13 rfl 1 rfl ?_
    refine k_iald 14 cx dX5_swingsFor_14 2 rfl hm (fun hm => ?_)
    refine k_goto 15 cx (tgt := 26) dX5_swingsFor_15 (by decide) ?_
    obtain rfl := Option.some.inj hm
    exact k_iret 26 cx dX5_swingsFor_26 rfl rfl
  · refine k_aload_n 18 cx dX5_swingsFor_18 rfl 0 rfl ?_
    refine fgX5_15 19 cx dX5_swingsFor_19 0 rfl rfl ?_
    refine k_iload_n 22 cx dX5_swingsFor_22 rfl 1 rfl ?_
    refine k_iald 23 cx dX5_swingsFor_23 2 rfl hm (fun hm => ?_)
    refine k_iconst 24 cx (v := (1 : Int32)) dX5_swingsFor_24 (by decide) ?_
    refine k_iadd 25 cx dX5_swingsFor_25 ?_
    obtain rfl := Option.some.inj hm
    exact k_iret 26 cx dX5_swingsFor_26 rfl rfl
theorem fgX0_21 {X : XT} {Q : State → Prop} {G : GT} {A : Nat → Prop} {nL : Nat} {lv : List (Nat × Value)} {st : List Value} {ws : va_W} {cc : ByteArray} {fr lo : Nat} {ret : Option FieldType} (pc : Nat) (cx : Cx X cc nL RX0 G fr lo ret) {a : Nat} {fs : List Value} {v : Value} (hd : decode cc pc = .ok (.getfield 21, 3)) (q0 : Nat) (he : ws[q0]? = some (a, .inr (0, fs))) (hv : fs[4]? = some v) (k : KJ X Q G A nL (pc + 3) lv (v :: st) ws) : KJ X Q G A nL pc lv (.ref a :: st) ws :=
  k_get (ref := RX0) (T := TX0) (N := 6) (ci := 0) pc cx inX0 rfl 4 (by decide) (tb_m (i := 200) rfl rfl) rfl hd q0 he hv k
def w_X0_forget (G : GT) (h_t : Nat) (h_t_counting : Nat) (h_t_cameByRopes : Nat) (h_t_valley : Nat) (h_t_rang : Nat) (h_t_underWay : Nat) (t_lastDue : Int32) (t_counting : (Nat → Int32)) (t_cameByRopes : (Nat → Int32)) : va_W := [(h_t, .inr (0, [.ref h_t_valley, .ref h_t_rang, .ref h_t_underWay, .ref h_t_counting, .ref h_t_cameByRopes, .int t_lastDue])), (h_t_counting, .inl (G.2.1, 36, .inl t_counting)), (h_t_cameByRopes, .inl (G.2.1, 6, .inl t_cameByRopes))]
def L_X0_forget_2 (x1 : Int32) : Nat → Int32 → (Nat → Int32) → Option (Int32 × (Nat → Int32))
  | 0, _, _ => none
  | n + 1, x2, t_counting => (if (6 : Int32) ≤ x2 then (some (x2, t_counting)) else (gB (inb ((x2 * (6 : Int32)) + x1) 36) (nme (upd t_counting (Int32.toNatClampNeg ((x2 * (6 : Int32)) + x1)) (0 : Int32)) (fun f9 => (nme (x2 + (1 : Int32)) (fun x10 => (L_X0_forget_2 x1 n x10 f9)))))))
def M_X0_forget (t_counting : (Nat → Int32)) (t_cameByRopes : (Nat → Int32)) (a1 : Int32) : Option ((Nat → Int32) × (Nat → Int32)) := ((L_X0_forget_2 a1 1000 (0 : Int32) t_counting).bind (fun u11 => (gB (inb a1 6) (nme (upd t_cameByRopes (Int32.toNatClampNeg a1) (0 : Int32)) (fun f12 => (some (u11.2, f12)))))))
set_option maxHeartbeats 4000000 in
set_option maxRecDepth 100000 in
theorem c_X0_forget (l : Launch) (G : GT) (h_t : Nat) (h_t_counting : Nat) (h_t_cameByRopes : Nat) (h_t_valley : Nat) (h_t_rang : Nat) (h_t_underWay : Nat) (t_lastDue : Int32) (t_counting : (Nat → Int32)) (t_cameByRopes : (Nat → Int32)) (a1 : Int32) {u : (Nat → Int32) × (Nat → Int32)} (hm : M_X0_forget t_counting t_cameByRopes a1 = some u) : CT l yX0_forget cX0_forget 3 none 0 0 [.ref h_t, .int a1] G (w_X0_forget G h_t h_t_counting h_t_cameByRopes h_t_valley h_t_rang h_t_underWay t_lastDue t_counting t_cameByRopes) none (w_X0_forget G h_t h_t_counting h_t_cameByRopes h_t_valley h_t_rang h_t_underWay t_lastDue u.1 u.2) := by
  refine ct_intro RX0 [(0, .ref h_t), (1, .int a1)] (by decide) rfl (Nat.le_of_ble_eq_true rfl) rfl (fun X hX cx => ?_)
  have lp2 : ∀ (Q : State → Prop) (A : Nat → Prop) (x1 : Int32) (t_lastDue : Int32) (t_cameByRopes : (Nat → Int32)) (n : Nat) (x2 : Int32) (t_counting : (Nat → Int32)) (y : Int32 × (Nat → Int32)), L_X0_forget_2 x1 n x2 t_counting = some y → (KJ X Q G A 3 26 [(0, .ref h_t), (1, .int x1)] [] (w_X0_forget G h_t h_t_counting h_t_cameByRopes h_t_valley h_t_rang h_t_underWay t_lastDue y.2 t_cameByRopes)) → KJ X Q G A 3 2 [(0, .ref h_t), (1, .int x1), (2, .int x2)] [] (w_X0_forget G h_t h_t_counting h_t_cameByRopes h_t_valley h_t_rang h_t_underWay t_lastDue t_counting t_cameByRopes) := by
    intro Q A x1 t_lastDue t_cameByRopes n
    induction n with
    | zero => intro x2 t_counting y hm _; exact noS hm
    | succ n ih =>
      intro x2 t_counting y hm k0
      rw [L_X0_forget_2] at hm
      refine k_iload_n 2 cx dX0_forget_2 rfl 2 rfl ?_
      refine k_bipush 3 cx (v := (6 : Int32)) dX0_forget_3 (by decide) ?_
      refine k_icmp_ge 5 cx (tgt := 26) dX0_forget_5 (by decide) hm (fun hc hm => ?_) (fun hc hm => ?_)
      · obtain rfl := Option.some.inj hm
        refine k_lv [0, 1] rfl ?_
        exact k0
      · refine k_aload_n 8 cx dX0_forget_8 rfl 0 rfl ?_
        refine fgX0_18 9 cx dX0_forget_9 0 rfl rfl ?_
        refine k_iload_n 12 cx dX0_forget_12 rfl 2 rfl ?_
        refine k_bipush 13 cx (v := (6 : Int32)) dX0_forget_13 (by decide) ?_
        refine k_imul 15 cx dX0_forget_15 ?_
        refine k_iload_n 16 cx dX0_forget_16 rfl 1 rfl ?_
        refine k_iadd 17 cx dX0_forget_17 ?_
        refine k_iconst 18 cx (v := (0 : Int32)) dX0_forget_18 (by decide) ?_
        refine k_iast 19 cx dX0_forget_19 1 rfl (fun f9 => (w_X0_forget G h_t h_t_counting h_t_cameByRopes h_t_valley h_t_rang h_t_underWay t_lastDue f9 t_cameByRopes)) (fun _ => rfl) hm (fun f9 hm => ?_)
        refine k_iinc 20 cx dX0_forget_20 2 rfl (by decide) (by decide) (fun x10 => [(2, .int x10), (0, .ref h_t), (1, .int x1)]) (fun _ => rfl) hm (fun x10 hm => ?_)
        refine k_goto 23 cx (tgt := 2) dX0_forget_23 (by decide) ?_
        refine k_lv [1, 2, 0] rfl ?_
        exact ih x10 f9 _ hm k0
  unfold M_X0_forget at hm
  refine k_iconst 0 cx (v := (0 : Int32)) dX0_forget_0 (by decide) ?_
  refine k_istore_n 1 cx dX0_forget_1 rfl (by decide) (lv' := [(2, .int (0 : Int32)), (0, .ref h_t), (1, .int a1)]) rfl ?_
  refine k_lv [1, 2, 0] rfl ?_
  obtain ⟨u11, hu11, hm⟩ := bnd hm
  refine lp2 _ _ a1 t_lastDue t_cameByRopes 1000 (0 : Int32) t_counting u11 hu11 ?_
  refine k_aload_n 26 cx dX0_forget_26 rfl 0 rfl ?_
  refine fgX0_21 27 cx dX0_forget_27 0 rfl rfl ?_
  refine k_iload_n 30 cx dX0_forget_30 rfl 1 rfl ?_
  refine k_iconst 31 cx (v := (0 : Int32)) dX0_forget_31 (by decide) ?_
  refine k_iast 32 cx dX0_forget_32 2 rfl (fun f12 => (w_X0_forget G h_t h_t_counting h_t_cameByRopes h_t_valley h_t_rang h_t_underWay t_lastDue u11.2 f12)) (fun _ => rfl) hm (fun f12 hm => ?_)
  obtain rfl := Option.some.inj hm
  exact k_vret 33 cx dX0_forget_33 rfl rfl
theorem fgX0_59 {X : XT} {Q : State → Prop} {G : GT} {A : Nat → Prop} {nL : Nat} {lv : List (Nat × Value)} {st : List Value} {ws : va_W} {cc : ByteArray} {fr lo : Nat} {ret : Option FieldType} (pc : Nat) (cx : Cx X cc nL RX0 G fr lo ret) {a : Nat} {fs : List Value} {v : Value} (hd : decode cc pc = .ok (.getfield 59, 3)) (q0 : Nat) (he : ws[q0]? = some (a, .inr (5, fs))) (hv : fs[5]? = some v) (k : KJ X Q G A nL (pc + 3) lv (v :: st) ws) : KJ X Q G A nL pc lv (.ref a :: st) ws :=
  k_get (ref := RX5) (T := TX5) (N := 9) (ci := 5) pc cx inX5 rfl 5 (by decide) (tb_m (i := 99) rfl rfl) rfl hd q0 he hv k
theorem cwX0_82 : CWV RX0 82 RX0 yX0_countTogether cX0_countTogether 5 (some .int) 2 0 TX0 6 := ⟨tb_m (i := 428) rfl rfl, tb_m (i := 430) rfl rfl, tb_m (i := 13) rfl rfl, tb_m (i := 56) rfl rfl, tb_m (i := 431) rfl rfl, ⟨by decide +kernel, by decide +kernel, by decide +kernel⟩, rfl⟩
theorem cwX0_85 : CWV RX0 85 RX5 yX5_swingsFor cX5_swingsFor 2 (some .int) 1 5 TX5 9 := ⟨tb_m (i := 432) rfl rfl, tb_m (i := 351) rfl rfl, tb_m (i := 352) rfl rfl, tb_m (i := 52) rfl rfl, tb_m (i := 353) rfl rfl, ⟨by decide +kernel, by decide +kernel, by decide +kernel⟩, rfl⟩
theorem cwX0_89 : CWV RX0 89 RX0 yX0_forget cX0_forget 3 none 1 0 TX0 6 := ⟨tb_m (i := 433) rfl rfl, tb_m (i := 435) rfl rfl, tb_m (i := 14) rfl rfl, tb_m (i := 56) rfl rfl, tb_m (i := 436) rfl rfl, ⟨by decide +kernel, by decide +kernel, by decide +kernel⟩, rfl⟩
def w_X0_ringAll (G : GT) (h_t : Nat) (h_t_valley : Nat) (h_t_counting : Nat) (h_t_valley_kinds : Nat) (h_t_valley_needs : Nat) (h_t_rang : Nat) (h_t_cameByRopes : Nat) (h_t_underWay : Nat) (h_t_valley_from : Nat) (h_t_valley_to : Nat) (h_t_valley_lasts : Nat) (t_lastDue : Int32) (t_valley_bells : Int32) (t_valley_ropes : Int32) (t_valley_span : Int32) (t_valley_tied : Int32) (t_counting : (Nat → Int32)) (t_valley_kinds : (Nat → Int32)) (t_valley_needs : (Nat → Int32)) (t_rang : (Nat → Int32)) (t_cameByRopes : (Nat → Int32)) : va_W := [(h_t, .inr (0, [.ref h_t_valley, .ref h_t_rang, .ref h_t_underWay, .ref h_t_counting, .ref h_t_cameByRopes, .int t_lastDue])), (h_t_valley, .inr (5, [.ref h_t_valley_kinds, .ref h_t_valley_needs, .ref h_t_valley_from, .ref h_t_valley_to, .ref h_t_valley_lasts, .int t_valley_bells, .int t_valley_ropes, .int t_valley_span, .int t_valley_tied])), (h_t_counting, .inl (G.2.1, 36, .inl t_counting)), (h_t_valley_kinds, .inl (G.2.1, 6, .inl t_valley_kinds)), (h_t_valley_needs, .inl (G.2.1, 6, .inl t_valley_needs)), (h_t_rang, .inl (G.2.1, 400, .inl t_rang)), (h_t_cameByRopes, .inl (G.2.1, 6, .inl t_cameByRopes))]
def L_X0_ringAll_2 (x1 : Int32) (x2 : Int32) (t_valley_bells : Int32) (t_valley_span : Int32) (t_valley_kinds : (Nat → Int32)) (t_valley_needs : (Nat → Int32)) : Nat → Int32 → (Nat → Int32) → (Nat → Int32) → (Nat → Int32) → Option (Int32 × (Nat → Int32) × (Nat → Int32) × (Nat → Int32))
  | 0, _, _, _, _ => none
  | n + 1, x3, t_counting, t_rang, t_cameByRopes => (if t_valley_bells ≤ x3 then (some (x3, t_counting, t_rang, t_cameByRopes)) else (if ((x2 >>> (x3 &&& 31)) &&& (1 : Int32)) = 0 then ((M_X0_countTogether t_valley_span t_counting x3 x1).bind (fun u23 => ((M_X5_swingsFor t_valley_kinds t_valley_needs x3).bind (fun u24 => (if u23 < u24 then (nme (x3 + (1 : Int32)) (fun x25 => (L_X0_ringAll_2 x1 x2 t_valley_bells t_valley_span t_valley_kinds t_valley_needs n x25 t_counting t_rang t_cameByRopes))) else (gB (inb x1 400) (gB (inb x1 400) (nme (upd t_rang (Int32.toNatClampNeg x1) ((t_rang (Int32.toNatClampNeg x1)) ||| ((1 : Int32) <<< (x3 &&& 31)))) (fun f26 => ((M_X0_forget t_counting t_cameByRopes x3).bind (fun u27 => (nme (x3 + (1 : Int32)) (fun x28 => (L_X0_ringAll_2 x1 x2 t_valley_bells t_valley_span t_valley_kinds t_valley_needs n x28 u27.1 f26 u27.2)))))))))))))) else (nme (x3 + (1 : Int32)) (fun x22 => (L_X0_ringAll_2 x1 x2 t_valley_bells t_valley_span t_valley_kinds t_valley_needs n x22 t_counting t_rang t_cameByRopes)))))
def M_X0_ringAll (t_valley_bells : Int32) (t_valley_span : Int32) (t_counting : (Nat → Int32)) (t_valley_kinds : (Nat → Int32)) (t_valley_needs : (Nat → Int32)) (t_rang : (Nat → Int32)) (t_cameByRopes : (Nat → Int32)) (a1 : Int32) (a2 : Int32) : Option ((Nat → Int32) × (Nat → Int32) × (Nat → Int32)) := ((L_X0_ringAll_2 a1 a2 t_valley_bells t_valley_span t_valley_kinds t_valley_needs 1000 (0 : Int32) t_counting t_rang t_cameByRopes).bind (fun u29 => (some (u29.2.1, u29.2.2.1, u29.2.2.2))))
set_option maxHeartbeats 4000000 in
set_option maxRecDepth 100000 in
theorem c_X0_ringAll (l : Launch) (G : GT) (h_t : Nat) (h_t_valley : Nat) (h_t_counting : Nat) (h_t_valley_kinds : Nat) (h_t_valley_needs : Nat) (h_t_rang : Nat) (h_t_cameByRopes : Nat) (h_t_underWay : Nat) (h_t_valley_from : Nat) (h_t_valley_to : Nat) (h_t_valley_lasts : Nat) (t_lastDue : Int32) (t_valley_bells : Int32) (t_valley_ropes : Int32) (t_valley_span : Int32) (t_valley_tied : Int32) (t_counting : (Nat → Int32)) (t_valley_kinds : (Nat → Int32)) (t_valley_needs : (Nat → Int32)) (t_rang : (Nat → Int32)) (t_cameByRopes : (Nat → Int32)) (a1 : Int32) (a2 : Int32) {u : (Nat → Int32) × (Nat → Int32) × (Nat → Int32)} (hm : M_X0_ringAll t_valley_bells t_valley_span t_counting t_valley_kinds t_valley_needs t_rang t_cameByRopes a1 a2 = some u) : CT l yX0_ringAll cX0_ringAll 4 none 1 24 [.ref h_t, .int a1, .int a2] G (w_X0_ringAll G h_t h_t_valley h_t_counting h_t_valley_kinds h_t_valley_needs h_t_rang h_t_cameByRopes h_t_underWay h_t_valley_from h_t_valley_to h_t_valley_lasts t_lastDue t_valley_bells t_valley_ropes t_valley_span t_valley_tied t_counting t_valley_kinds t_valley_needs t_rang t_cameByRopes) none (w_X0_ringAll G h_t h_t_valley h_t_counting h_t_valley_kinds h_t_valley_needs h_t_rang h_t_cameByRopes h_t_underWay h_t_valley_from h_t_valley_to h_t_valley_lasts t_lastDue t_valley_bells t_valley_ropes t_valley_span t_valley_tied u.1 t_valley_kinds t_valley_needs u.2.1 u.2.2) := by
  refine ct_intro RX0 [(0, .ref h_t), (1, .int a1), (2, .int a2)] (by decide) rfl (Nat.le_of_ble_eq_true rfl) rfl (fun X hX cx => ?_)
  have lp2 : ∀ (Q : State → Prop) (A : Nat → Prop) (x1 : Int32) (x2 : Int32) (t_lastDue : Int32) (t_valley_bells : Int32) (t_valley_ropes : Int32) (t_valley_span : Int32) (t_valley_tied : Int32) (t_valley_kinds : (Nat → Int32)) (t_valley_needs : (Nat → Int32)) (n : Nat) (x3 : Int32) (t_counting : (Nat → Int32)) (t_rang : (Nat → Int32)) (t_cameByRopes : (Nat → Int32)) (y : Int32 × (Nat → Int32) × (Nat → Int32) × (Nat → Int32)), L_X0_ringAll_2 x1 x2 t_valley_bells t_valley_span t_valley_kinds t_valley_needs n x3 t_counting t_rang t_cameByRopes = some y → (KJ X Q G A 4 61 [] [] (w_X0_ringAll G h_t h_t_valley h_t_counting h_t_valley_kinds h_t_valley_needs h_t_rang h_t_cameByRopes h_t_underWay h_t_valley_from h_t_valley_to h_t_valley_lasts t_lastDue t_valley_bells t_valley_ropes t_valley_span t_valley_tied y.2.1 t_valley_kinds t_valley_needs y.2.2.1 y.2.2.2)) → KJ X Q G A 4 2 [(0, .ref h_t), (1, .int x1), (2, .int x2), (3, .int x3)] [] (w_X0_ringAll G h_t h_t_valley h_t_counting h_t_valley_kinds h_t_valley_needs h_t_rang h_t_cameByRopes h_t_underWay h_t_valley_from h_t_valley_to h_t_valley_lasts t_lastDue t_valley_bells t_valley_ropes t_valley_span t_valley_tied t_counting t_valley_kinds t_valley_needs t_rang t_cameByRopes) := by
    intro Q A x1 x2 t_lastDue t_valley_bells t_valley_ropes t_valley_span t_valley_tied t_valley_kinds t_valley_needs n
    induction n with
    | zero => intro x3 t_counting t_rang t_cameByRopes y hm _; exact noS hm
    | succ n ih =>
      intro x3 t_counting t_rang t_cameByRopes y hm k0
      rw [L_X0_ringAll_2] at hm
      refine k_iload_n 2 cx dX0_ringAll_2 rfl 3 rfl ?_
      refine k_aload_n 3 cx dX0_ringAll_3 rfl 0 rfl ?_
      refine fgX0_24 4 cx dX0_ringAll_4 0 rfl rfl ?_
      refine fgX0_59 7 cx dX0_ringAll_7 1 rfl rfl ?_
      refine k_icmp_ge 10 cx (tgt := 61) dX0_ringAll_10 (by decide) hm (fun hc hm => ?_) (fun hc hm => ?_)
      · obtain rfl := Option.some.inj hm
        refine k_lv [] rfl ?_
        exact k0
      · refine k_iload_n 13 cx dX0_ringAll_13 rfl 2 rfl ?_
        refine k_iload_n 14 cx dX0_ringAll_14 rfl 3 rfl ?_
        refine k_ishr 15 cx dX0_ringAll_15 ?_
        refine k_iconst 16 cx (v := (1 : Int32)) dX0_ringAll_16 (by decide) ?_
        refine k_iand 17 cx dX0_ringAll_17 ?_
        refine k_if_ne 18 cx (tgt := 55) dX0_ringAll_18 (by decide) hm (fun hc hm => ?_) (fun hc hm => ?_)
        · refine k_aload_n 21 cx dX0_ringAll_21 rfl 0 rfl ?_
          refine k_iload_n 22 cx dX0_ringAll_22 rfl 3 rfl ?_
          refine k_iload_n 23 cx dX0_ringAll_23 rfl 1 rfl ?_
          obtain ⟨u23, hu23, hm⟩ := bnd hm
          refine k_callV 24 cx cwX0_82 (c_X0_countTogether X.2.1 G h_t h_t_valley h_t_counting h_t_rang h_t_underWay h_t_cameByRopes h_t_valley_kinds h_t_valley_needs h_t_valley_from h_t_valley_to h_t_valley_lasts t_lastDue t_valley_bells t_valley_ropes t_valley_span t_valley_tied t_counting x3 x1 hu23) dX0_ringAll_24 ⟨by decide, by decide⟩ rfl rfl (rest := []) rfl (Nat.le_of_ble_eq_true rfl) [0, 1, 2] (by decide) rfl rfl (w2 := (w_X0_ringAll G h_t h_t_valley h_t_counting h_t_valley_kinds h_t_valley_needs h_t_rang h_t_cameByRopes h_t_underWay h_t_valley_from h_t_valley_to h_t_valley_lasts t_lastDue t_valley_bells t_valley_ropes t_valley_span t_valley_tied t_counting t_valley_kinds t_valley_needs t_rang t_cameByRopes)) rfl (st2 := [.int u23]) rfl ?_
          refine k_aload_n 27 cx dX0_ringAll_27 rfl 0 rfl ?_
          refine fgX0_24 28 cx dX0_ringAll_28 0 rfl rfl ?_
          refine k_iload_n 31 cx dX0_ringAll_31 rfl 3 rfl ?_
          obtain ⟨u24, hu24, hm⟩ := bnd hm
          refine k_callV 32 cx cwX0_85 (c_X5_swingsFor X.2.1 G h_t_valley h_t_valley_kinds h_t_valley_needs h_t_valley_from h_t_valley_to h_t_valley_lasts t_valley_bells t_valley_ropes t_valley_span t_valley_tied t_valley_kinds t_valley_needs x3 hu24) dX0_ringAll_32 ⟨by decide, by decide⟩ rfl rfl (rest := [.int u23]) rfl (Nat.le_of_ble_eq_true rfl) [1, 3, 4] (by decide) rfl rfl (w2 := (w_X0_ringAll G h_t h_t_valley h_t_counting h_t_valley_kinds h_t_valley_needs h_t_rang h_t_cameByRopes h_t_underWay h_t_valley_from h_t_valley_to h_t_valley_lasts t_lastDue t_valley_bells t_valley_ropes t_valley_span t_valley_tied t_counting t_valley_kinds t_valley_needs t_rang t_cameByRopes)) rfl (st2 := [.int u24, .int u23]) rfl ?_
          refine k_icmp_lt 35 cx (tgt := 55) dX0_ringAll_35 (by decide) hm (fun hc hm => ?_) (fun hc hm => ?_)
          · refine k_iinc 55 cx dX0_ringAll_55 3 rfl (by decide) (by decide) (fun x25 => [(3, .int x25), (0, .ref h_t), (1, .int x1), (2, .int x2)]) (fun _ => rfl) hm (fun x25 hm => ?_)
            refine k_goto 58 cx (tgt := 2) dX0_ringAll_58 (by decide) ?_
            refine k_lv [1, 2, 3, 0] rfl ?_
            exact ih x25 t_counting t_rang t_cameByRopes _ hm k0
          · refine k_aload_n 38 cx dX0_ringAll_38 rfl 0 rfl ?_
            refine fgX0_9 39 cx dX0_ringAll_39 0 rfl rfl ?_
            refine k_iload_n 42 cx dX0_ringAll_42 rfl 1 rfl ?_
            refine k_dup2 43 cx dX0_ringAll_43 rfl rfl ?_
            refine k_iald 44 cx dX0_ringAll_44 5 rfl hm (fun hm => ?_)
            refine k_iconst 45 cx (v := (1 : Int32)) dX0_ringAll_45 (by decide) ?_
            refine k_iload_n 46 cx dX0_ringAll_46 rfl 3 rfl ?_
            refine k_ishl 47 cx dX0_ringAll_47 ?_
            refine k_ior 48 cx dX0_ringAll_48 ?_
            refine k_iast 49 cx dX0_ringAll_49 5 rfl (fun f26 => (w_X0_ringAll G h_t h_t_valley h_t_counting h_t_valley_kinds h_t_valley_needs h_t_rang h_t_cameByRopes h_t_underWay h_t_valley_from h_t_valley_to h_t_valley_lasts t_lastDue t_valley_bells t_valley_ropes t_valley_span t_valley_tied t_counting t_valley_kinds t_valley_needs f26 t_cameByRopes)) (fun _ => rfl) hm (fun f26 hm => ?_)
            refine k_aload_n 50 cx dX0_ringAll_50 rfl 0 rfl ?_
            refine k_iload_n 51 cx dX0_ringAll_51 rfl 3 rfl ?_
            obtain ⟨u27, hu27, hm⟩ := bnd hm
            refine k_callV 52 cx cwX0_89 (c_X0_forget X.2.1 G h_t h_t_counting h_t_cameByRopes h_t_valley h_t_rang h_t_underWay t_lastDue t_counting t_cameByRopes x3 hu27) dX0_ringAll_52 ⟨by decide, by decide⟩ rfl rfl (rest := []) rfl (Nat.le_of_ble_eq_true rfl) [0, 2, 6] (by decide) rfl rfl (w2 := (w_X0_ringAll G h_t h_t_valley h_t_counting h_t_valley_kinds h_t_valley_needs h_t_rang h_t_cameByRopes h_t_underWay h_t_valley_from h_t_valley_to h_t_valley_lasts t_lastDue t_valley_bells t_valley_ropes t_valley_span t_valley_tied u27.1 t_valley_kinds t_valley_needs f26 u27.2)) rfl (st2 := []) rfl ?_
            refine k_iinc 55 cx dX0_ringAll_55 3 rfl (by decide) (by decide) (fun x28 => [(3, .int x28), (0, .ref h_t), (1, .int x1), (2, .int x2)]) (fun _ => rfl) hm (fun x28 hm => ?_)
            refine k_goto 58 cx (tgt := 2) dX0_ringAll_58 (by decide) ?_
            refine k_lv [1, 2, 3, 0] rfl ?_
            exact ih x28 u27.1 f26 u27.2 _ hm k0
        · refine k_iinc 55 cx dX0_ringAll_55 3 rfl (by decide) (by decide) (fun x22 => [(3, .int x22), (0, .ref h_t), (1, .int x1), (2, .int x2)]) (fun _ => rfl) hm (fun x22 hm => ?_)
          refine k_goto 58 cx (tgt := 2) dX0_ringAll_58 (by decide) ?_
          refine k_lv [1, 2, 3, 0] rfl ?_
          exact ih x22 t_counting t_rang t_cameByRopes _ hm k0
  unfold M_X0_ringAll at hm
  refine k_iconst 0 cx (v := (0 : Int32)) dX0_ringAll_0 (by decide) ?_
  refine k_istore_n 1 cx dX0_ringAll_1 rfl (by decide) (lv' := [(3, .int (0 : Int32)), (0, .ref h_t), (1, .int a1), (2, .int a2)]) rfl ?_
  refine k_lv [1, 2, 3, 0] rfl ?_
  obtain ⟨u29, hu29, hm⟩ := bnd hm
  refine lp2 _ _ a1 a2 t_lastDue t_valley_bells t_valley_ropes t_valley_span t_valley_tied t_valley_kinds t_valley_needs 1000 (0 : Int32) t_counting t_rang t_cameByRopes u29 hu29 ?_
  obtain rfl := Option.some.inj hm
  exact k_vret 61 cx dX0_ringAll_61 rfl rfl
end
section
theorem zz_last : True := trivial
end
