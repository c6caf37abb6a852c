def lw_okq (q : MethodName × Nat) : Prop := (q.1.cls ≠ "java/lang/invoke/MethodHandle" ∧ q.1.cls ≠ "java/lang/invoke/VarHandle") ∧ Cond.instantiable q.1.cls q.2 ∈ tables_1 ∧ Cond.privateMethod q.1 ∈ tables_1 ∧ Cond.instanceMethod q.1 ∈ tables_1
theorem lw_p0 : lw_okq (⟨"RopedBells", "faulty", "(I)I"⟩, 11) := ⟨⟨by decide +kernel, by decide +kernel⟩, List.mem_of_getElem? (i := 14) (by decide +kernel), List.mem_of_getElem? (i := 246) (by decide +kernel), List.mem_of_getElem? (i := 247) (by decide +kernel)⟩
theorem lw_p1 : lw_okq (⟨"RopedBells$Text", "goesOnWith", "(I)Z"⟩, 2) := ⟨⟨by decide +kernel, by decide +kernel⟩, List.mem_of_getElem? (i := 79) (by decide +kernel), List.mem_of_getElem? (i := 258) (by decide +kernel), List.mem_of_getElem? (i := 259) (by decide +kernel)⟩
theorem lw_p2 : lw_okq (⟨"RopedBells$Text", "beginsRope", "()Z"⟩, 2) := ⟨⟨by decide +kernel, by decide +kernel⟩, List.mem_of_getElem? (i := 79) (by decide +kernel), List.mem_of_getElem? (i := 262) (by decide +kernel), List.mem_of_getElem? (i := 263) (by decide +kernel)⟩
theorem lw_p3 : lw_okq (⟨"RopedBells$Text", "beginsBell", "(I)Z"⟩, 2) := ⟨⟨by decide +kernel, by decide +kernel⟩, List.mem_of_getElem? (i := 79) (by decide +kernel), List.mem_of_getElem? (i := 266) (by decide +kernel), List.mem_of_getElem? (i := 267) (by decide +kernel)⟩
theorem lw_p4 : lw_okq (⟨"RopedBells$Text", "takesNeeds", "(I)Z"⟩, 2) := ⟨⟨by decide +kernel, by decide +kernel⟩, List.mem_of_getElem? (i := 79) (by decide +kernel), List.mem_of_getElem? (i := 273) (by decide +kernel), List.mem_of_getElem? (i := 274) (by decide +kernel)⟩
theorem lw_p5 : lw_okq (⟨"RopedBells$Text", "takesRope", "(I)Z"⟩, 2) := ⟨⟨by decide +kernel, by decide +kernel⟩, List.mem_of_getElem? (i := 79) (by decide +kernel), List.mem_of_getElem? (i := 277) (by decide +kernel), List.mem_of_getElem? (i := 278) (by decide +kernel)⟩
theorem lw_p6 : lw_okq (⟨"RopedBells$Text", "takesLong", "(I)Z"⟩, 2) := ⟨⟨by decide +kernel, by decide +kernel⟩, List.mem_of_getElem? (i := 79) (by decide +kernel), List.mem_of_getElem? (i := 281) (by decide +kernel), List.mem_of_getElem? (i := 282) (by decide +kernel)⟩
theorem lw_p7 : lw_okq (⟨"RopedBells", "hasNoValley", "()Z"⟩, 11) := ⟨⟨by decide +kernel, by decide +kernel⟩, List.mem_of_getElem? (i := 14) (by decide +kernel), List.mem_of_getElem? (i := 321) (by decide +kernel), List.mem_of_getElem? (i := 322) (by decide +kernel)⟩
theorem lw_p8 : lw_okq (⟨"RopedBells", "heardNow", "()LRopedBells$Course;"⟩, 11) := ⟨⟨by decide +kernel, by decide +kernel⟩, List.mem_of_getElem? (i := 14) (by decide +kernel), List.mem_of_getElem? (i := 341) (by decide +kernel), List.mem_of_getElem? (i := 342) (by decide +kernel)⟩
theorem lw_p9 : lw_okq (⟨"RopedBells$Course", "swingByRopes", "(I)V"⟩, 6) := ⟨⟨by decide +kernel, by decide +kernel⟩, List.mem_of_getElem? (i := 140) (by decide +kernel), List.mem_of_getElem? (i := 363) (by decide +kernel), List.mem_of_getElem? (i := 364) (by decide +kernel)⟩
theorem lw_p10 : lw_okq (⟨"RopedBells$Course", "countedOf", "(II)I"⟩, 6) := ⟨⟨by decide +kernel, by decide +kernel⟩, List.mem_of_getElem? (i := 140) (by decide +kernel), List.mem_of_getElem? (i := 367) (by decide +kernel), List.mem_of_getElem? (i := 368) (by decide +kernel)⟩
theorem lw_p11 : lw_okq (⟨"RopedBells$Course", "swingByPulls", "(LRopedBells$Pulls;I)V"⟩, 6) := ⟨⟨by decide +kernel, by decide +kernel⟩, List.mem_of_getElem? (i := 140) (by decide +kernel), List.mem_of_getElem? (i := 371) (by decide +kernel), List.mem_of_getElem? (i := 372) (by decide +kernel)⟩
theorem lw_p12 : lw_okq (⟨"RopedBells$Course", "ringAll", "(II)V"⟩, 6) := ⟨⟨by decide +kernel, by decide +kernel⟩, List.mem_of_getElem? (i := 140) (by decide +kernel), List.mem_of_getElem? (i := 375) (by decide +kernel), List.mem_of_getElem? (i := 376) (by decide +kernel)⟩
theorem lw_p13 : lw_okq (⟨"RopedBells$Course", "countTogether", "(II)I"⟩, 6) := ⟨⟨by decide +kernel, by decide +kernel⟩, List.mem_of_getElem? (i := 140) (by decide +kernel), List.mem_of_getElem? (i := 379) (by decide +kernel), List.mem_of_getElem? (i := 380) (by decide +kernel)⟩
theorem lw_p14 : lw_okq (⟨"RopedBells$Course", "forget", "(I)V"⟩, 6) := ⟨⟨by decide +kernel, by decide +kernel⟩, List.mem_of_getElem? (i := 140) (by decide +kernel), List.mem_of_getElem? (i := 384) (by decide +kernel), List.mem_of_getElem? (i := 385) (by decide +kernel)⟩
theorem lw_p15 : lw_okq (⟨"RopedBells$Course", "sendOn", "(II)V"⟩, 6) := ⟨⟨by decide +kernel, by decide +kernel⟩, List.mem_of_getElem? (i := 140) (by decide +kernel), List.mem_of_getElem? (i := 388) (by decide +kernel), List.mem_of_getElem? (i := 389) (by decide +kernel)⟩
def lw_privs_1 : List (MethodName × Nat) := [(⟨"RopedBells", "faulty", "(I)I"⟩, 11), (⟨"RopedBells$Text", "goesOnWith", "(I)Z"⟩, 2), (⟨"RopedBells$Text", "beginsRope", "()Z"⟩, 2), (⟨"RopedBells$Text", "beginsBell", "(I)Z"⟩, 2), (⟨"RopedBells$Text", "takesNeeds", "(I)Z"⟩, 2), (⟨"RopedBells$Text", "takesRope", "(I)Z"⟩, 2), (⟨"RopedBells$Text", "takesLong", "(I)Z"⟩, 2), (⟨"RopedBells", "hasNoValley", "()Z"⟩, 11), (⟨"RopedBells", "heardNow", "()LRopedBells$Course;"⟩, 11), (⟨"RopedBells$Course", "swingByRopes", "(I)V"⟩, 6), (⟨"RopedBells$Course", "countedOf", "(II)I"⟩, 6), (⟨"RopedBells$Course", "swingByPulls", "(LRopedBells$Pulls;I)V"⟩, 6), (⟨"RopedBells$Course", "ringAll", "(II)V"⟩, 6), (⟨"RopedBells$Course", "countTogether", "(II)I"⟩, 6), (⟨"RopedBells$Course", "forget", "(I)V"⟩, 6), (⟨"RopedBells$Course", "sendOn", "(II)V"⟩, 6)]
theorem lw_r1 : ∀ q ∈ lw_privs_1, lw_okq q := List.forall_mem_cons.mpr ⟨lw_p0, List.forall_mem_cons.mpr ⟨lw_p1, List.forall_mem_cons.mpr ⟨lw_p2, List.forall_mem_cons.mpr ⟨lw_p3, List.forall_mem_cons.mpr ⟨lw_p4, List.forall_mem_cons.mpr ⟨lw_p5, List.forall_mem_cons.mpr ⟨lw_p6, List.forall_mem_cons.mpr ⟨lw_p7, List.forall_mem_cons.mpr ⟨lw_p8, List.forall_mem_cons.mpr ⟨lw_p9, List.forall_mem_cons.mpr ⟨lw_p10, List.forall_mem_cons.mpr ⟨lw_p11, List.forall_mem_cons.mpr ⟨lw_p12, List.forall_mem_cons.mpr ⟨lw_p13, List.forall_mem_cons.mpr ⟨lw_p14, List.forall_mem_cons.mpr ⟨lw_p15, fun _ h => absurd h List.not_mem_nil⟩⟩⟩⟩⟩⟩⟩⟩⟩⟩⟩⟩⟩⟩⟩⟩
theorem lw_p16 : lw_okq (⟨"RopedBells", "ringEarlyBy", "(I)I"⟩, 11) := ⟨⟨by decide +kernel, by decide +kernel⟩, List.mem_of_getElem? (i := 14) (by decide +kernel), List.mem_of_getElem? (i := 431) (by decide +kernel), List.mem_of_getElem? (i := 432) (by decide +kernel)⟩
theorem lw_p17 : lw_okq (⟨"RopedBells", "playSet", "(II)V"⟩, 11) := ⟨⟨by decide +kernel, by decide +kernel⟩, List.mem_of_getElem? (i := 14) (by decide +kernel), List.mem_of_getElem? (i := 435) (by decide +kernel), List.mem_of_getElem? (i := 436) (by decide +kernel)⟩
theorem lw_p18 : lw_okq (⟨"RopedBells", "lastMinuteTied", "(I)I"⟩, 11) := ⟨⟨by decide +kernel, by decide +kernel⟩, List.mem_of_getElem? (i := 14) (by decide +kernel), List.mem_of_getElem? (i := 447) (by decide +kernel), List.mem_of_getElem? (i := 448) (by decide +kernel)⟩
theorem lw_p19 : lw_okq (⟨"RopedBells", "howManyRingWith", "(III)I"⟩, 11) := ⟨⟨by decide +kernel, by decide +kernel⟩, List.mem_of_getElem? (i := 14) (by decide +kernel), List.mem_of_getElem? (i := 455) (by decide +kernel), List.mem_of_getElem? (i := 456) (by decide +kernel)⟩
theorem lw_p20 : lw_okq (⟨"RopedBells", "playWithout", "(II)V"⟩, 11) := ⟨⟨by decide +kernel, by decide +kernel⟩, List.mem_of_getElem? (i := 14) (by decide +kernel), List.mem_of_getElem? (i := 467) (by decide +kernel), List.mem_of_getElem? (i := 468) (by decide +kernel)⟩
theorem lw_p21 : lw_okq (⟨"RopedBells", "wholeAt", "([III)I"⟩, 11) := ⟨⟨by decide +kernel, by decide +kernel⟩, List.mem_of_getElem? (i := 14) (by decide +kernel), List.mem_of_getElem? (i := 505) (by decide +kernel), List.mem_of_getElem? (i := 506) (by decide +kernel)⟩
theorem lw_p22 : lw_okq (⟨"RopedBells", "greatTells", "(I)I"⟩, 11) := ⟨⟨by decide +kernel, by decide +kernel⟩, List.mem_of_getElem? (i := 14) (by decide +kernel), List.mem_of_getElem? (i := 550) (by decide +kernel), List.mem_of_getElem? (i := 551) (by decide +kernel)⟩
theorem lw_p23 : lw_okq (⟨"RopedBells", "leave", "(I)V"⟩, 11) := ⟨⟨by decide +kernel, by decide +kernel⟩, List.mem_of_getElem? (i := 14) (by decide +kernel), List.mem_of_getElem? (i := 554) (by decide +kernel), List.mem_of_getElem? (i := 555) (by decide +kernel)⟩
theorem lw_p24 : lw_okq (⟨"RopedBells", "bellTells", "(I)I"⟩, 11) := ⟨⟨by decide +kernel, by decide +kernel⟩, List.mem_of_getElem? (i := 14) (by decide +kernel), List.mem_of_getElem? (i := 558) (by decide +kernel), List.mem_of_getElem? (i := 559) (by decide +kernel)⟩
theorem lw_p25 : lw_okq (⟨"RopedBells", "deafTells", "(I)I"⟩, 11) := ⟨⟨by decide +kernel, by decide +kernel⟩, List.mem_of_getElem? (i := 14) (by decide +kernel), List.mem_of_getElem? (i := 562) (by decide +kernel), List.mem_of_getElem? (i := 563) (by decide +kernel)⟩
theorem lw_p26 : lw_okq (⟨"RopedBells", "deafHailed", "()I"⟩, 11) := ⟨⟨by decide +kernel, by decide +kernel⟩, List.mem_of_getElem? (i := 14) (by decide +kernel), List.mem_of_getElem? (i := 570) (by decide +kernel), List.mem_of_getElem? (i := 571) (by decide +kernel)⟩
theorem lw_p27 : lw_okq (⟨"RopedBells", "lentHailed", "(I)I"⟩, 11) := ⟨⟨by decide +kernel, by decide +kernel⟩, List.mem_of_getElem? (i := 14) (by decide +kernel), List.mem_of_getElem? (i := 574) (by decide +kernel), List.mem_of_getElem? (i := 575) (by decide +kernel)⟩
theorem lw_p28 : lw_okq (⟨"RopedBellsModel", "refused", "(I)I"⟩, 34) := ⟨⟨by decide +kernel, by decide +kernel⟩, List.mem_of_getElem? (i := 594) (by decide +kernel), List.mem_of_getElem? (i := 714) (by decide +kernel), List.mem_of_getElem? (i := 715) (by decide +kernel)⟩
theorem lw_p29 : lw_okq (⟨"RopedBellsModel", "cellsBarred", "(IIIJ)I"⟩, 34) := ⟨⟨by decide +kernel, by decide +kernel⟩, List.mem_of_getElem? (i := 594) (by decide +kernel), List.mem_of_getElem? (i := 719) (by decide +kernel), List.mem_of_getElem? (i := 720) (by decide +kernel)⟩
theorem lw_p30 : lw_okq (⟨"RopedBellsModel", "failed", "(I)I"⟩, 34) := ⟨⟨by decide +kernel, by decide +kernel⟩, List.mem_of_getElem? (i := 594) (by decide +kernel), List.mem_of_getElem? (i := 723) (by decide +kernel), List.mem_of_getElem? (i := 724) (by decide +kernel)⟩
theorem lw_p31 : lw_okq (⟨"RopedBellsModel", "readsValley", "(II)Z"⟩, 34) := ⟨⟨by decide +kernel, by decide +kernel⟩, List.mem_of_getElem? (i := 594) (by decide +kernel), List.mem_of_getElem? (i := 730) (by decide +kernel), List.mem_of_getElem? (i := 731) (by decide +kernel)⟩
def lw_privs_2 : List (MethodName × Nat) := [(⟨"RopedBells", "ringEarlyBy", "(I)I"⟩, 11), (⟨"RopedBells", "playSet", "(II)V"⟩, 11), (⟨"RopedBells", "lastMinuteTied", "(I)I"⟩, 11), (⟨"RopedBells", "howManyRingWith", "(III)I"⟩, 11), (⟨"RopedBells", "playWithout", "(II)V"⟩, 11), (⟨"RopedBells", "wholeAt", "([III)I"⟩, 11), (⟨"RopedBells", "greatTells", "(I)I"⟩, 11), (⟨"RopedBells", "leave", "(I)V"⟩, 11), (⟨"RopedBells", "bellTells", "(I)I"⟩, 11), (⟨"RopedBells", "deafTells", "(I)I"⟩, 11), (⟨"RopedBells", "deafHailed", "()I"⟩, 11), (⟨"RopedBells", "lentHailed", "(I)I"⟩, 11), (⟨"RopedBellsModel", "refused", "(I)I"⟩, 34), (⟨"RopedBellsModel", "cellsBarred", "(IIIJ)I"⟩, 34), (⟨"RopedBellsModel", "failed", "(I)I"⟩, 34), (⟨"RopedBellsModel", "readsValley", "(II)Z"⟩, 34)]
theorem lw_r2 : ∀ q ∈ lw_privs_2, lw_okq q := List.forall_mem_cons.mpr ⟨lw_p16, List.forall_mem_cons.mpr ⟨lw_p17, List.forall_mem_cons.mpr ⟨lw_p18, List.forall_mem_cons.mpr ⟨lw_p19, List.forall_mem_cons.mpr ⟨lw_p20, List.forall_mem_cons.mpr ⟨lw_p21, List.forall_mem_cons.mpr ⟨lw_p22, List.forall_mem_cons.mpr ⟨lw_p23, List.forall_mem_cons.mpr ⟨lw_p24, List.forall_mem_cons.mpr ⟨lw_p25, List.forall_mem_cons.mpr ⟨lw_p26, List.forall_mem_cons.mpr ⟨lw_p27, List.forall_mem_cons.mpr ⟨lw_p28, List.forall_mem_cons.mpr ⟨lw_p29, List.forall_mem_cons.mpr ⟨lw_p30, List.forall_mem_cons.mpr ⟨lw_p31, fun _ h => absurd h List.not_mem_nil⟩⟩⟩⟩⟩⟩⟩⟩⟩⟩⟩⟩⟩⟩⟩⟩
theorem lw_p32 : lw_okq (⟨"RopedBellsModel", "codeAt", "(II)I"⟩, 34) := ⟨⟨by decide +kernel, by decide +kernel⟩, List.mem_of_getElem? (i := 594) (by decide +kernel), List.mem_of_getElem? (i := 734) (by decide +kernel), List.mem_of_getElem? (i := 735) (by decide +kernel)⟩
theorem lw_p33 : lw_okq (⟨"RopedBellsModel", "readsBell", "(II)Z"⟩, 34) := ⟨⟨by decide +kernel, by decide +kernel⟩, List.mem_of_getElem? (i := 594) (by decide +kernel), List.mem_of_getElem? (i := 738) (by decide +kernel), List.mem_of_getElem? (i := 739) (by decide +kernel)⟩
theorem lw_p34 : lw_okq (⟨"RopedBellsModel", "figure", "(IIII)I"⟩, 34) := ⟨⟨by decide +kernel, by decide +kernel⟩, List.mem_of_getElem? (i := 594) (by decide +kernel), List.mem_of_getElem? (i := 742) (by decide +kernel), List.mem_of_getElem? (i := 743) (by decide +kernel)⟩
theorem lw_p35 : lw_okq (⟨"RopedBellsModel", "readsRope", "(II)Z"⟩, 34) := ⟨⟨by decide +kernel, by decide +kernel⟩, List.mem_of_getElem? (i := 594) (by decide +kernel), List.mem_of_getElem? (i := 746) (by decide +kernel), List.mem_of_getElem? (i := 747) (by decide +kernel)⟩
theorem lw_p36 : lw_okq (⟨"RopedBellsModel", "noBell", "(I)Z"⟩, 34) := ⟨⟨by decide +kernel, by decide +kernel⟩, List.mem_of_getElem? (i := 594) (by decide +kernel), List.mem_of_getElem? (i := 754) (by decide +kernel), List.mem_of_getElem? (i := 755) (by decide +kernel)⟩
theorem lw_p37 : lw_okq (⟨"RopedBellsModel", "needs", "(I)I"⟩, 34) := ⟨⟨by decide +kernel, by decide +kernel⟩, List.mem_of_getElem? (i := 594) (by decide +kernel), List.mem_of_getElem? (i := 758) (by decide +kernel), List.mem_of_getElem? (i := 759) (by decide +kernel)⟩
theorem lw_p38 : lw_okq (⟨"RopedBellsModel", "goPulls", "()V"⟩, 34) := ⟨⟨by decide +kernel, by decide +kernel⟩, List.mem_of_getElem? (i := 594) (by decide +kernel), List.mem_of_getElem? (i := 791) (by decide +kernel), List.mem_of_getElem? (i := 792) (by decide +kernel)⟩
theorem lw_p39 : lw_okq (⟨"RopedBellsModel", "go", "(III)V"⟩, 34) := ⟨⟨by decide +kernel, by decide +kernel⟩, List.mem_of_getElem? (i := 594) (by decide +kernel), List.mem_of_getElem? (i := 795) (by decide +kernel), List.mem_of_getElem? (i := 796) (by decide +kernel)⟩
theorem lw_p40 : lw_okq (⟨"RopedBellsModel", "swingAll", "(III)V"⟩, 34) := ⟨⟨by decide +kernel, by decide +kernel⟩, List.mem_of_getElem? (i := 594) (by decide +kernel), List.mem_of_getElem? (i := 799) (by decide +kernel), List.mem_of_getElem? (i := 800) (by decide +kernel)⟩
theorem lw_p41 : lw_okq (⟨"RopedBellsModel", "swingByRope", "(II)V"⟩, 34) := ⟨⟨by decide +kernel, by decide +kernel⟩, List.mem_of_getElem? (i := 594) (by decide +kernel), List.mem_of_getElem? (i := 803) (by decide +kernel), List.mem_of_getElem? (i := 804) (by decide +kernel)⟩
theorem lw_p42 : lw_okq (⟨"RopedBellsModel", "doesRing", "(II)Z"⟩, 34) := ⟨⟨by decide +kernel, by decide +kernel⟩, List.mem_of_getElem? (i := 594) (by decide +kernel), List.mem_of_getElem? (i := 807) (by decide +kernel), List.mem_of_getElem? (i := 808) (by decide +kernel)⟩
theorem lw_p43 : lw_okq (⟨"RopedBellsModel", "lastNow", "()I"⟩, 34) := ⟨⟨by decide +kernel, by decide +kernel⟩, List.mem_of_getElem? (i := 594) (by decide +kernel), List.mem_of_getElem? (i := 824) (by decide +kernel), List.mem_of_getElem? (i := 825) (by decide +kernel)⟩
theorem lw_p44 : lw_okq (⟨"RopedBellsModel", "all", "()I"⟩, 34) := ⟨⟨by decide +kernel, by decide +kernel⟩, List.mem_of_getElem? (i := 594) (by decide +kernel), List.mem_of_getElem? (i := 832) (by decide +kernel), List.mem_of_getElem? (i := 833) (by decide +kernel)⟩
theorem lw_p45 : lw_okq (⟨"RopedBellsModel", "rung", "(II)I"⟩, 34) := ⟨⟨by decide +kernel, by decide +kernel⟩, List.mem_of_getElem? (i := 594) (by decide +kernel), List.mem_of_getElem? (i := 839) (by decide +kernel), List.mem_of_getElem? (i := 840) (by decide +kernel)⟩
theorem lw_p46 : lw_okq (⟨"RopedBellsModel", "areSo", "(II)Z"⟩, 34) := ⟨⟨by decide +kernel, by decide +kernel⟩, List.mem_of_getElem? (i := 594) (by decide +kernel), List.mem_of_getElem? (i := 868) (by decide +kernel), List.mem_of_getElem? (i := 869) (by decide +kernel)⟩
theorem lw_p47 : lw_okq (⟨"RopedBellsModel", "noCell", "(II)I"⟩, 34) := ⟨⟨by decide +kernel, by decide +kernel⟩, List.mem_of_getElem? (i := 594) (by decide +kernel), List.mem_of_getElem? (i := 904) (by decide +kernel), List.mem_of_getElem? (i := 905) (by decide +kernel)⟩
def lw_privs_3 : List (MethodName × Nat) := [(⟨"RopedBellsModel", "codeAt", "(II)I"⟩, 34), (⟨"RopedBellsModel", "readsBell", "(II)Z"⟩, 34), (⟨"RopedBellsModel", "figure", "(IIII)I"⟩, 34), (⟨"RopedBellsModel", "readsRope", "(II)Z"⟩, 34), (⟨"RopedBellsModel", "noBell", "(I)Z"⟩, 34), (⟨"RopedBellsModel", "needs", "(I)I"⟩, 34), (⟨"RopedBellsModel", "goPulls", "()V"⟩, 34), (⟨"RopedBellsModel", "go", "(III)V"⟩, 34), (⟨"RopedBellsModel", "swingAll", "(III)V"⟩, 34), (⟨"RopedBellsModel", "swingByRope", "(II)V"⟩, 34), (⟨"RopedBellsModel", "doesRing", "(II)Z"⟩, 34), (⟨"RopedBellsModel", "lastNow", "()I"⟩, 34), (⟨"RopedBellsModel", "all", "()I"⟩, 34), (⟨"RopedBellsModel", "rung", "(II)I"⟩, 34), (⟨"RopedBellsModel", "areSo", "(II)Z"⟩, 34), (⟨"RopedBellsModel", "noCell", "(II)I"⟩, 34)]
theorem lw_r3 : ∀ q ∈ lw_privs_3, lw_okq q := List.forall_mem_cons.mpr ⟨lw_p32, List.forall_mem_cons.mpr ⟨lw_p33, List.forall_mem_cons.mpr ⟨lw_p34, List.forall_mem_cons.mpr ⟨lw_p35, List.forall_mem_cons.mpr ⟨lw_p36, List.forall_mem_cons.mpr ⟨lw_p37, List.forall_mem_cons.mpr ⟨lw_p38, List.forall_mem_cons.mpr ⟨lw_p39, List.forall_mem_cons.mpr ⟨lw_p40, List.forall_mem_cons.mpr ⟨lw_p41, List.forall_mem_cons.mpr ⟨lw_p42, List.forall_mem_cons.mpr ⟨lw_p43, List.forall_mem_cons.mpr ⟨lw_p44, List.forall_mem_cons.mpr ⟨lw_p45, List.forall_mem_cons.mpr ⟨lw_p46, List.forall_mem_cons.mpr ⟨lw_p47, fun _ h => absurd h List.not_mem_nil⟩⟩⟩⟩⟩⟩⟩⟩⟩⟩⟩⟩⟩⟩⟩⟩
theorem lw_p48 : lw_okq (⟨"RopedBellsModel", "failedLong", "(I)J"⟩, 34) := ⟨⟨by decide +kernel, by decide +kernel⟩, List.mem_of_getElem? (i := 594) (by decide +kernel), List.mem_of_getElem? (i := 912) (by decide +kernel), List.mem_of_getElem? (i := 913) (by decide +kernel)⟩
theorem lw_p49 : lw_okq (⟨"RopedBellsModel", "traced", "(I)V"⟩, 34) := ⟨⟨by decide +kernel, by decide +kernel⟩, List.mem_of_getElem? (i := 594) (by decide +kernel), List.mem_of_getElem? (i := 924) (by decide +kernel), List.mem_of_getElem? (i := 925) (by decide +kernel)⟩
def lw_privs_4 : List (MethodName × Nat) := [(⟨"RopedBellsModel", "failedLong", "(I)J"⟩, 34), (⟨"RopedBellsModel", "traced", "(I)V"⟩, 34)]
theorem lw_r4 : ∀ q ∈ lw_privs_4, lw_okq q := List.forall_mem_cons.mpr ⟨lw_p48, List.forall_mem_cons.mpr ⟨lw_p49, fun _ h => absurd h List.not_mem_nil⟩⟩
def lw_privs : List (MethodName × Nat) := lw_privs_1 ++ (lw_privs_2 ++ (lw_privs_3 ++ (lw_privs_4)))
def lw_tbl : List Cond := k2_sels lw_privs ++ tables_1
theorem lw_privs_ok : ∀ q ∈ lw_privs, lw_okq q := by
  show ∀ q ∈ lw_privs_1 ++ (lw_privs_2 ++ (lw_privs_3 ++ (lw_privs_4))), lw_okq q
  exact List.forall_mem_append.mpr ⟨lw_r1, List.forall_mem_append.mpr ⟨lw_r2, List.forall_mem_append.mpr ⟨lw_r3, lw_r4⟩⟩⟩
theorem goodIn_r {big : List Cond} (ws : List Cond) (ps : List Nat) (hp : ws = ps.filterMap (fun i => big[i]?)) (h : ws.all goodWord = true) : GoodIn big ws := by
  intro w hw
  have h1 := List.all_eq_true.mp h w hw
  rw [hp] at hw
  obtain ⟨i, -, hi⟩ := List.mem_filterMap.mp hw
  have hm : w ∈ big := by first | exact List.mem_of_getElem? hi | exact List.getElem?_mem hi
  exact ⟨hm, good_of_word h1⟩
theorem goodIn_app {big a b : List Cond} (ha : GoodIn big a) (hb : GoodIn big b) : GoodIn big (a ++ b) := fun w h => (List.mem_append.mp h).elim (ha w) (hb w)
theorem goodIn_ca {big a b : List Cond} {c : Cond} (ha : GoodIn big (c :: a)) (hb : GoodIn big b) : GoodIn big (c :: (a ++ b)) := fun w h => (List.mem_cons.mp h).elim (fun e => ha w (List.mem_cons.mpr (Or.inl e))) (fun h => (List.mem_append.mp h).elim (fun h => ha w (List.mem_cons.mpr (Or.inr h))) (hb w))
theorem goodIn_sub {big ws : List Cond} (hm : ∀ w ∈ ws, w ∈ big) (h : ws.all goodWord = true) : GoodIn big ws := fun w hw => ⟨hm w hw, good_of_word (List.all_eq_true.mp h w hw)⟩

def RX0 : String := "RopedBells$Course"
def TX0 : u_T := fun k => match k with
  | 0 => ("RopedBells$Course", "valley", "LRopedBells$Valley;", true)
  | 1 => ("RopedBells$Course", "rang", "[I", true)
  | 2 => ("RopedBells$Course", "underWay", "[I", true)
  | 3 => ("RopedBells$Course", "counting", "[I", true)
  | 4 => ("RopedBells$Course", "cameByRopes", "[I", true)
  | _ => ("RopedBells$Course", "lastDue", "I", false)
def tyX0 : Nat → FieldType := fun k => match k with
  | 0 => .object "RopedBells$Valley"
  | 1 => .array .int
  | 2 => .array .int
  | 3 => .array .int
  | 4 => .array .int
  | _ => .int
abbrev wsX00 : List Cond := u_ws RX0 TX0 6
theorem nmX0 : ∀ a, a < 6 → ∀ b, b < 6 → a ≠ b → (TX0 a).2.1 ≠ (TX0 b).2.1 := by decide +kernel
theorem tyX0_ok : ∀ k, k < 6 → parseFieldDescriptor (TX0 k).2.2.1 = some (tyX0 k) := by decide +kernel
abbrev cX0_init : ByteArray := prog_2_method_1_code
def yX0_init : MethodName := ⟨RX0, "<init>", "(LRopedBells$Valley;)V"⟩
abbrev cX0_rangAt : ByteArray := prog_2_method_2_code
def yX0_rangAt : MethodName := ⟨RX0, "rangAt", "(II)Z"⟩
abbrev cX0_bellsBefore : ByteArray := prog_2_method_3_code
def yX0_bellsBefore : MethodName := ⟨RX0, "bellsBefore", "(I)I"⟩
abbrev cX0_lastMinute : ByteArray := prog_2_method_4_code
def yX0_lastMinute : MethodName := ⟨RX0, "lastMinute", "()I"⟩
abbrev cX0_play : ByteArray := prog_2_method_5_code
def yX0_play : MethodName := ⟨RX0, "play", "(LRopedBells$Pulls;III)V"⟩
abbrev cX0_swingByRopes : ByteArray := prog_2_method_6_code
def yX0_swingByRopes : MethodName := ⟨RX0, "swingByRopes", "(I)V"⟩
abbrev cX0_countedOf : ByteArray := prog_2_method_7_code
def yX0_countedOf : MethodName := ⟨RX0, "countedOf", "(II)I"⟩
abbrev cX0_swingByPulls : ByteArray := prog_2_method_8_code
def yX0_swingByPulls : MethodName := ⟨RX0, "swingByPulls", "(LRopedBells$Pulls;I)V"⟩
abbrev cX0_ringAll : ByteArray := prog_2_method_9_code
def yX0_ringAll : MethodName := ⟨RX0, "ringAll", "(II)V"⟩
abbrev cX0_countTogether : ByteArray := prog_2_method_10_code
def yX0_countTogether : MethodName := ⟨RX0, "countTogether", "(II)I"⟩
abbrev cX0_forget : ByteArray := prog_2_method_11_code
def yX0_forget : MethodName := ⟨RX0, "forget", "(I)V"⟩
abbrev cX0_sendOn : ByteArray := prog_2_method_12_code
def yX0_sendOn : MethodName := ⟨RX0, "sendOn", "(II)V"⟩
def RX1 : String := "RopedBells$Pulls"
def TX1 : u_T := fun k => match k with
  | 0 => ("RopedBells$Pulls", "bells", "[I", true)
  | 1 => ("RopedBells$Pulls", "minutes", "[I", true)
  | 2 => ("RopedBells$Pulls", "times", "[I", true)
  | _ => ("RopedBells$Pulls", "count", "I", false)
def tyX1 : Nat → FieldType := fun k => match k with
  | 0 => .array .int
  | 1 => .array .int
  | 2 => .array .int
  | _ => .int
abbrev wsX10 : List Cond := u_ws RX1 TX1 4
theorem nmX1 : ∀ a, a < 4 → ∀ b, b < 4 → a ≠ b → (TX1 a).2.1 ≠ (TX1 b).2.1 := by decide +kernel
theorem tyX1_ok : ∀ k, k < 4 → parseFieldDescriptor (TX1 k).2.2.1 = some (tyX1 k) := by decide +kernel
abbrev cX1_init : ByteArray := prog_3_method_1_code
def yX1_init : MethodName := ⟨RX1, "<init>", "()V"⟩
abbrev cX1_add : ByteArray := prog_3_method_2_code
def yX1_add : MethodName := ⟨RX1, "add", "(III)V"⟩
abbrev cX1_lastMinute : ByteArray := prog_3_method_3_code
def yX1_lastMinute : MethodName := ⟨RX1, "lastMinute", "()I"⟩
def RX2 : String := "RopedBells$Readings"
def TX2 : u_T := fun k => match k with
  | 0 => ("RopedBells$Readings", "bells", "[I", true)
  | 1 => ("RopedBells$Readings", "minutes", "[I", true)
  | 2 => ("RopedBells$Readings", "rang", "[Z", true)
  | _ => ("RopedBells$Readings", "count", "I", false)
def tyX2 : Nat → FieldType := fun k => match k with
  | 0 => .array .int
  | 1 => .array .int
  | 2 => .array .boolean
  | _ => .int
abbrev wsX20 : List Cond := u_ws RX2 TX2 4
theorem nmX2 : ∀ a, a < 4 → ∀ b, b < 4 → a ≠ b → (TX2 a).2.1 ≠ (TX2 b).2.1 := by decide +kernel
theorem tyX2_ok : ∀ k, k < 4 → parseFieldDescriptor (TX2 k).2.2.1 = some (tyX2 k) := by decide +kernel
abbrev cX2_init : ByteArray := prog_4_method_1_code
def yX2_init : MethodName := ⟨RX2, "<init>", "()V"⟩
abbrev cX2_add : ByteArray := prog_4_method_2_code
def yX2_add : MethodName := ⟨RX2, "add", "(IIZ)V"⟩
abbrev cX2_areSoIn : ByteArray := prog_4_method_3_code
def yX2_areSoIn : MethodName := ⟨RX2, "areSoIn", "(LRopedBells$Course;)Z"⟩
def RX3 : String := "RopedBells$Sheet"
def TX3 : u_T := fun k => match k with
  | 0 => ("RopedBells$Sheet", "cells", "[I", true)
  | 1 => ("RopedBells$Sheet", "lane", "I", false)
  | _ => ("RopedBells$Sheet", "size", "I", false)
def tyX3 : Nat → FieldType := fun k => match k with
  | 0 => .array .int
  | 1 => .int
  | _ => .int
abbrev wsX30 : List Cond := u_ws RX3 TX3 3
theorem nmX3 : ∀ a, a < 3 → ∀ b, b < 3 → a ≠ b → (TX3 a).2.1 ≠ (TX3 b).2.1 := by decide +kernel
theorem tyX3_ok : ∀ k, k < 3 → parseFieldDescriptor (TX3 k).2.2.1 = some (tyX3 k) := by decide +kernel
abbrev cX3_init : ByteArray := prog_5_method_1_code
def yX3_init : MethodName := ⟨RX3, "<init>", "()V"⟩
abbrev cX3_begin : ByteArray := prog_5_method_2_code
def yX3_begin : MethodName := ⟨RX3, "begin", "(II)V"⟩
abbrev cX3_hasRow : ByteArray := prog_5_method_3_code
def yX3_hasRow : MethodName := ⟨RX3, "hasRow", "()Z"⟩
abbrev cX3_hasCell : ByteArray := prog_5_method_4_code
def yX3_hasCell : MethodName := ⟨RX3, "hasCell", "(I)Z"⟩
abbrev cX3_hasCells : ByteArray := prog_5_method_5_code
def yX3_hasCells : MethodName := ⟨RX3, "hasCells", "(II)Z"⟩
abbrev cX3_faultOfLane : ByteArray := prog_5_method_6_code
def yX3_faultOfLane : MethodName := ⟨RX3, "faultOfLane", "(I)I"⟩
abbrev cX3_faultOfCells : ByteArray := prog_5_method_7_code
def yX3_faultOfCells : MethodName := ⟨RX3, "faultOfCells", "(III)I"⟩
abbrev cX3_cutToLane : ByteArray := prog_5_method_8_code
def yX3_cutToLane : MethodName := ⟨RX3, "cutToLane", "(I)I"⟩
def RX4 : String := "RopedBells$Text"
def TX4 : u_T := fun k => match k with
  | 0 => ("RopedBells$Text", "told", "LRopedBells$Valley;", true)
  | _ => ("RopedBells$Text", "state", "I", false)
def tyX4 : Nat → FieldType := fun k => match k with
  | 0 => .object "RopedBells$Valley"
  | _ => .int
abbrev wsX40 : List Cond := u_ws RX4 TX4 2
theorem nmX4 : ∀ a, a < 2 → ∀ b, b < 2 → a ≠ b → (TX4 a).2.1 ≠ (TX4 b).2.1 := by decide +kernel
theorem tyX4_ok : ∀ k, k < 2 → parseFieldDescriptor (TX4 k).2.2.1 = some (tyX4 k) := by decide +kernel
abbrev cX4_init : ByteArray := prog_6_method_1_code
def yX4_init : MethodName := ⟨RX4, "<init>", "()V"⟩
abbrev cX4_firstFault : ByteArray := prog_6_method_2_code
def yX4_firstFault : MethodName := ⟨RX4, "firstFault", "([III)I"⟩
abbrev cX4_goesOnWith : ByteArray := prog_6_method_3_code
def yX4_goesOnWith : MethodName := ⟨RX4, "goesOnWith", "(I)Z"⟩
abbrev cX4_beginsBell : ByteArray := prog_6_method_4_code
def yX4_beginsBell : MethodName := ⟨RX4, "beginsBell", "(I)Z"⟩
abbrev cX4_kindOf : ByteArray := prog_6_method_5_code
def yX4_kindOf : MethodName := ⟨RX4, "kindOf", "(I)I"⟩
abbrev cX4_takesNeeds : ByteArray := prog_6_method_6_code
def yX4_takesNeeds : MethodName := ⟨RX4, "takesNeeds", "(I)Z"⟩
abbrev cX4_beginsRope : ByteArray := prog_6_method_7_code
def yX4_beginsRope : MethodName := ⟨RX4, "beginsRope", "()Z"⟩
abbrev cX4_takesRope : ByteArray := prog_6_method_8_code
def yX4_takesRope : MethodName := ⟨RX4, "takesRope", "(I)Z"⟩
abbrev cX4_takesLong : ByteArray := prog_6_method_9_code
def yX4_takesLong : MethodName := ⟨RX4, "takesLong", "(I)Z"⟩
def RX5 : String := "RopedBells$Valley"
def TX5 : u_T := fun k => match k with
  | 0 => ("RopedBells$Valley", "kinds", "[I", true)
  | 1 => ("RopedBells$Valley", "needs", "[I", true)
  | 2 => ("RopedBells$Valley", "from", "[I", true)
  | 3 => ("RopedBells$Valley", "to", "[I", true)
  | 4 => ("RopedBells$Valley", "lasts", "[I", true)
  | 5 => ("RopedBells$Valley", "bells", "I", false)
  | 6 => ("RopedBells$Valley", "ropes", "I", false)
  | 7 => ("RopedBells$Valley", "span", "I", false)
  | _ => ("RopedBells$Valley", "tied", "I", false)
def tyX5 : Nat → FieldType := fun k => match k with
  | 0 => .array .int
  | 1 => .array .int
  | 2 => .array .int
  | 3 => .array .int
  | 4 => .array .int
  | 5 => .int
  | 6 => .int
  | 7 => .int
  | _ => .int
abbrev wsX50 : List Cond := u_ws RX5 TX5 9
theorem nmX5 : ∀ a, a < 9 → ∀ b, b < 9 → a ≠ b → (TX5 a).2.1 ≠ (TX5 b).2.1 := by decide +kernel
theorem tyX5_ok : ∀ k, k < 9 → parseFieldDescriptor (TX5 k).2.2.1 = some (tyX5 k) := by decide +kernel
abbrev cX5_init : ByteArray := prog_7_method_1_code
def yX5_init : MethodName := ⟨RX5, "<init>", "()V"⟩
abbrev cX5_begin : ByteArray := prog_7_method_2_code
def yX5_begin : MethodName := ⟨RX5, "begin", "()V"⟩
abbrev cX5_become : ByteArray := prog_7_method_3_code
def yX5_become : MethodName := ⟨RX5, "become", "(LRopedBells$Valley;)V"⟩
abbrev cX5_layRope : ByteArray := prog_7_method_4_code
def yX5_layRope : MethodName := ⟨RX5, "layRope", "(IIII)V"⟩
abbrev cX5_hasBell : ByteArray := prog_7_method_5_code
def yX5_hasBell : MethodName := ⟨RX5, "hasBell", "(I)Z"⟩
abbrev cX5_isTied : ByteArray := prog_7_method_6_code
def yX5_isTied : MethodName := ⟨RX5, "isTied", "(I)Z"⟩
abbrev cX5_allBells : ByteArray := prog_7_method_7_code
def yX5_allBells : MethodName := ⟨RX5, "allBells", "()I"⟩
abbrev cX5_allRopes : ByteArray := prog_7_method_8_code
def yX5_allRopes : MethodName := ⟨RX5, "allRopes", "()I"⟩
abbrev cX5_swingsFor : ByteArray := prog_7_method_9_code
def yX5_swingsFor : MethodName := ⟨RX5, "swingsFor", "(I)I"⟩
def RX6 : String := "RopedBells"
def TX6 : u_T := fun k => match k with
  | 0 => ("RopedBells", "valley", "LRopedBells$Valley;", true)
  | 1 => ("RopedBells", "text", "LRopedBells$Text;", true)
  | 2 => ("RopedBells", "pulls", "LRopedBells$Pulls;", true)
  | 3 => ("RopedBells", "triedPulls", "LRopedBells$Pulls;", true)
  | 4 => ("RopedBells", "readings", "LRopedBells$Readings;", true)
  | 5 => ("RopedBells", "heard", "LRopedBells$Course;", true)
  | 6 => ("RopedBells", "trial", "LRopedBells$Course;", true)
  | 7 => ("RopedBells", "sheets", "[LRopedBells$Sheet;", true)
  | 8 => ("RopedBells", "heardIsCurrent", "Z", false)
  | 9 => ("RopedBells", "trace", "I", false)
  | _ => ("RopedBells", "fault", "I", false)
def tyX6 : Nat → FieldType := fun k => match k with
  | 0 => .object "RopedBells$Valley"
  | 1 => .object "RopedBells$Text"
  | 2 => .object "RopedBells$Pulls"
  | 3 => .object "RopedBells$Pulls"
  | 4 => .object "RopedBells$Readings"
  | 5 => .object "RopedBells$Course"
  | 6 => .object "RopedBells$Course"
  | 7 => .array (.object "RopedBells$Sheet")
  | 8 => .boolean
  | 9 => .int
  | _ => .int
abbrev wsX60 : List Cond := u_ws RX6 TX6 11
theorem nmX6 : ∀ a, a < 11 → ∀ b, b < 11 → a ≠ b → (TX6 a).2.1 ≠ (TX6 b).2.1 := by decide +kernel
theorem tyX6_ok : ∀ k, k < 11 → parseFieldDescriptor (TX6 k).2.2.1 = some (tyX6 k) := by decide +kernel
abbrev cX6_init : ByteArray := prog_1_method_1_code
def yX6_init : MethodName := ⟨RX6, "<init>", "()V"⟩
abbrev cX6_valley : ByteArray := prog_1_method_2_code
def yX6_valley : MethodName := ⟨RX6, "valley", "(IIII)I"⟩
abbrev cX6_ofBell : ByteArray := prog_1_method_3_code
def yX6_ofBell : MethodName := ⟨RX6, "ofBell", "(II)I"⟩
abbrev cX6_ofRope : ByteArray := prog_1_method_4_code
def yX6_ofRope : MethodName := ⟨RX6, "ofRope", "(II)I"⟩
abbrev cX6_tie : ByteArray := prog_1_method_5_code
def yX6_tie : MethodName := ⟨RX6, "tie", "(IZ)I"⟩
abbrev cX6_span : ByteArray := prog_1_method_6_code
def yX6_span : MethodName := ⟨RX6, "span", "(I)I"⟩
abbrev cX6_pull : ByteArray := prog_1_method_7_code
def yX6_pull : MethodName := ⟨RX6, "pull", "(II)I"⟩
abbrev cX6_undo : ByteArray := prog_1_method_8_code
def yX6_undo : MethodName := ⟨RX6, "undo", "(I)I"⟩
abbrev cX6_rings : ByteArray := prog_1_method_9_code
def yX6_rings : MethodName := ⟨RX6, "rings", "(I)I"⟩
abbrev cX6_ringsAt : ByteArray := prog_1_method_10_code
def yX6_ringsAt : MethodName := ⟨RX6, "ringsAt", "(II)I"⟩
abbrev cX6_peal : ByteArray := prog_1_method_11_code
def yX6_peal : MethodName := ⟨RX6, "peal", "(I)I"⟩
abbrev cX6_stops : ByteArray := prog_1_method_12_code
def yX6_stops : MethodName := ⟨RX6, "stops", "()I"⟩
abbrev cX6_fewest : ByteArray := prog_1_method_13_code
def yX6_fewest : MethodName := ⟨RX6, "fewest", "(I)I"⟩
abbrev cX6_still : ByteArray := prog_1_method_14_code
def yX6_still : MethodName := ⟨RX6, "still", "(I)I"⟩
abbrev cX6_hung : ByteArray := prog_1_method_15_code
def yX6_hung : MethodName := ⟨RX6, "hung", "(I)I"⟩
abbrev cX6_cut : ByteArray := prog_1_method_16_code
def yX6_cut : MethodName := ⟨RX6, "cut", "()I"⟩
abbrev cX6_reading : ByteArray := prog_1_method_17_code
def yX6_reading : MethodName := ⟨RX6, "reading", "(IIZ)I"⟩
abbrev cX6_back : ByteArray := prog_1_method_18_code
def yX6_back : MethodName := ⟨RX6, "back", "(I)I"⟩
abbrev cX6_first : ByteArray := prog_1_method_19_code
def yX6_first : MethodName := ⟨RX6, "first", "()I"⟩
abbrev cX6_gone : ByteArray := prog_1_method_20_code
def yX6_gone : MethodName := ⟨RX6, "gone", "()I"⟩
abbrev cX6_sneezes : ByteArray := prog_1_method_21_code
def yX6_sneezes : MethodName := ⟨RX6, "sneezes", "(I)J"⟩
abbrev cX6_tune : ByteArray := prog_1_method_22_code
def yX6_tune : MethodName := ⟨RX6, "tune", "(IIII)I"⟩
abbrev cX6_sheet : ByteArray := prog_1_method_23_code
def yX6_sheet : MethodName := ⟨RX6, "sheet", "(III)I"⟩
abbrev cX6_lose : ByteArray := prog_1_method_24_code
def yX6_lose : MethodName := ⟨RX6, "lose", "(I)I"⟩
abbrev cX6_put : ByteArray := prog_1_method_25_code
def yX6_put : MethodName := ⟨RX6, "put", "(III)I"⟩
abbrev cX6_cell : ByteArray := prog_1_method_26_code
def yX6_cell : MethodName := ⟨RX6, "cell", "(III)J"⟩
abbrev cX6_copy : ByteArray := prog_1_method_27_code
def yX6_copy : MethodName := ⟨RX6, "copy", "(IIIII)I"⟩
abbrev cX6_tell : ByteArray := prog_1_method_28_code
def yX6_tell : MethodName := ⟨RX6, "tell", "(I)I"⟩
abbrev cX6_hail : ByteArray := prog_1_method_29_code
def yX6_hail : MethodName := ⟨RX6, "hail", "(I)I"⟩
abbrev cX6_as : ByteArray := prog_1_method_30_code
def yX6_as : MethodName := ⟨RX6, "as", "(II)I"⟩
abbrev cX6_trace : ByteArray := prog_1_method_31_code
def yX6_trace : MethodName := ⟨RX6, "trace", "()I"⟩
abbrev cX6_fault : ByteArray := prog_1_method_32_code
def yX6_fault : MethodName := ⟨RX6, "fault", "()I"⟩
abbrev cX6_many : ByteArray := prog_1_method_33_code
def yX6_many : MethodName := ⟨RX6, "many", "(I)I"⟩
abbrev cX6_isSheet : ByteArray := prog_1_method_34_code
def yX6_isSheet : MethodName := ⟨RX6, "isSheet", "(I)Z"⟩
abbrev cX6_isLane : ByteArray := prog_1_method_35_code
def yX6_isLane : MethodName := ⟨RX6, "isLane", "(I)Z"⟩
abbrev cX6_hasNoValley : ByteArray := prog_1_method_36_code
def yX6_hasNoValley : MethodName := ⟨RX6, "hasNoValley", "()Z"⟩
abbrev cX6_faulty : ByteArray := prog_1_method_37_code
def yX6_faulty : MethodName := ⟨RX6, "faulty", "(I)I"⟩
abbrev cX6_isFewer : ByteArray := prog_1_method_38_code
def yX6_isFewer : MethodName := ⟨RX6, "isFewer", "(II)Z"⟩
abbrev cX6_heardNow : ByteArray := prog_1_method_39_code
def yX6_heardNow : MethodName := ⟨RX6, "heardNow", "()LRopedBells$Course;"⟩
abbrev cX6_playSet : ByteArray := prog_1_method_40_code
def yX6_playSet : MethodName := ⟨RX6, "playSet", "(II)V"⟩
abbrev cX6_ringEarlyBy : ByteArray := prog_1_method_41_code
def yX6_ringEarlyBy : MethodName := ⟨RX6, "ringEarlyBy", "(I)I"⟩
abbrev cX6_lastMinuteTied : ByteArray := prog_1_method_42_code
def yX6_lastMinuteTied : MethodName := ⟨RX6, "lastMinuteTied", "(I)I"⟩
abbrev cX6_howManyRingWith : ByteArray := prog_1_method_43_code
def yX6_howManyRingWith : MethodName := ⟨RX6, "howManyRingWith", "(III)I"⟩
abbrev cX6_playWithout : ByteArray := prog_1_method_44_code
def yX6_playWithout : MethodName := ⟨RX6, "playWithout", "(II)V"⟩
abbrev cX6_wholeAt : ByteArray := prog_1_method_45_code
def yX6_wholeAt : MethodName := ⟨RX6, "wholeAt", "([III)I"⟩
abbrev cX6_leave : ByteArray := prog_1_method_46_code
def yX6_leave : MethodName := ⟨RX6, "leave", "(I)V"⟩
abbrev cX6_bellTells : ByteArray := prog_1_method_47_code
def yX6_bellTells : MethodName := ⟨RX6, "bellTells", "(I)I"⟩
abbrev cX6_greatTells : ByteArray := prog_1_method_48_code
def yX6_greatTells : MethodName := ⟨RX6, "greatTells", "(I)I"⟩
abbrev cX6_deafTells : ByteArray := prog_1_method_49_code
def yX6_deafTells : MethodName := ⟨RX6, "deafTells", "(I)I"⟩
abbrev cX6_lentHailed : ByteArray := prog_1_method_50_code
def yX6_lentHailed : MethodName := ⟨RX6, "lentHailed", "(I)I"⟩
abbrev cX6_deafHailed : ByteArray := prog_1_method_51_code
def yX6_deafHailed : MethodName := ⟨RX6, "deafHailed", "()I"⟩
def RX7 : String := "RopedBellsModel"
def TX7 : u_T := fun k => match k with
  | 0 => ("RopedBellsModel", "fault", "I", false)
  | 1 => ("RopedBellsModel", "bells", "I", false)
  | 2 => ("RopedBellsModel", "kindOf", "[I", true)
  | 3 => ("RopedBellsModel", "needsOf", "[I", true)
  | 4 => ("RopedBellsModel", "tied", "I", false)
  | 5 => ("RopedBellsModel", "ropes", "I", false)
  | 6 => ("RopedBellsModel", "fromOf", "[I", true)
  | 7 => ("RopedBellsModel", "toOf", "[I", true)
  | 8 => ("RopedBellsModel", "longOf", "[I", true)
  | 9 => ("RopedBellsModel", "spanNow", "I", false)
  | 10 => ("RopedBellsModel", "readAt", "I", false)
  | 11 => ("RopedBellsModel", "readBells", "I", false)
  | 12 => ("RopedBellsModel", "readRopes", "I", false)
  | 13 => ("RopedBellsModel", "readKind", "[I", true)
  | 14 => ("RopedBellsModel", "readNeeds", "[I", true)
  | 15 => ("RopedBellsModel", "readFrom", "[I", true)
  | 16 => ("RopedBellsModel", "readTo", "[I", true)
  | 17 => ("RopedBellsModel", "readLong", "[I", true)
  | 18 => ("RopedBellsModel", "pulls", "I", false)
  | 19 => ("RopedBellsModel", "pullOf", "[I", true)
  | 20 => ("RopedBellsModel", "pullAt", "[I", true)
  | 21 => ("RopedBellsModel", "peals", "[I", true)
  | 22 => ("RopedBellsModel", "swings", "[I", true)
  | 23 => ("RopedBellsModel", "lastRang", "[I", true)
  | 24 => ("RopedBellsModel", "heardSince", "[I", true)
  | 25 => ("RopedBellsModel", "readings", "I", false)
  | 26 => ("RopedBellsModel", "readingOf", "[I", true)
  | 27 => ("RopedBellsModel", "readingAt", "[I", true)
  | 28 => ("RopedBellsModel", "readingIs", "[Z", true)
  | 29 => ("RopedBellsModel", "sheetSize", "[I", true)
  | 30 => ("RopedBellsModel", "sheetLane", "[I", true)
  | 31 => ("RopedBellsModel", "sheet", "[I", true)
  | 32 => ("RopedBellsModel", "hands", "[I", true)
  | _ => ("RopedBellsModel", "traceNow", "I", false)
def tyX7 : Nat → FieldType := fun k => match k with
  | 0 => .int
  | 1 => .int
  | 2 => .array .int
  | 3 => .array .int
  | 4 => .int
  | 5 => .int
  | 6 => .array .int
  | 7 => .array .int
  | 8 => .array .int
  | 9 => .int
  | 10 => .int
  | 11 => .int
  | 12 => .int
  | 13 => .array .int
  | 14 => .array .int
  | 15 => .array .int
  | 16 => .array .int
  | 17 => .array .int
  | 18 => .int
  | 19 => .array .int
  | 20 => .array .int
  | 21 => .array .int
  | 22 => .array .int
  | 23 => .array .int
  | 24 => .array .int
  | 25 => .int
  | 26 => .array .int
  | 27 => .array .int
  | 28 => .array .boolean
  | 29 => .array .int
  | 30 => .array .int
  | 31 => .array .int
  | 32 => .array .int
  | _ => .int
abbrev wsX70 : List Cond := u_ws RX7 TX7 34
theorem nmX7 : ∀ a, a < 34 → ∀ b, b < 34 → a ≠ b → (TX7 a).2.1 ≠ (TX7 b).2.1 := by decide +kernel
theorem tyX7_ok : ∀ k, k < 34 → parseFieldDescriptor (TX7 k).2.2.1 = some (tyX7 k) := by decide +kernel
abbrev cX7_init : ByteArray := prog_9_method_1_code
def yX7_init : MethodName := ⟨RX7, "<init>", "()V"⟩
abbrev cX7_in : ByteArray := prog_9_method_2_code
def yX7_in : MethodName := ⟨RX7, "in", "(JJJ)Z"⟩
abbrev cX7_lost : ByteArray := prog_9_method_3_code
def yX7_lost : MethodName := ⟨RX7, "lost", "()J"⟩
abbrev cX7_isIn : ByteArray := prog_9_method_4_code
def yX7_isIn : MethodName := ⟨RX7, "isIn", "(II)Z"⟩
abbrev cX7_bits : ByteArray := prog_9_method_5_code
def yX7_bits : MethodName := ⟨RX7, "bits", "(I)I"⟩
abbrev cX7_told : ByteArray := prog_9_method_6_code
def yX7_told : MethodName := ⟨RX7, "told", "(JJI)J"⟩
abbrev cX7_refused : ByteArray := prog_9_method_7_code
def yX7_refused : MethodName := ⟨RX7, "refused", "(I)I"⟩
abbrev cX7_failed : ByteArray := prog_9_method_8_code
def yX7_failed : MethodName := ⟨RX7, "failed", "(I)I"⟩
abbrev cX7_failedLong : ByteArray := prog_9_method_9_code
def yX7_failedLong : MethodName := ⟨RX7, "failedLong", "(I)J"⟩
abbrev cX7_noBell : ByteArray := prog_9_method_10_code
def yX7_noBell : MethodName := ⟨RX7, "noBell", "(I)Z"⟩
abbrev cX7_all : ByteArray := prog_9_method_11_code
def yX7_all : MethodName := ⟨RX7, "all", "()I"⟩
abbrev cX7_codeAt : ByteArray := prog_9_method_12_code
def yX7_codeAt : MethodName := ⟨RX7, "codeAt", "(II)I"⟩
abbrev cX7_figure : ByteArray := prog_9_method_13_code
def yX7_figure : MethodName := ⟨RX7, "figure", "(IIII)I"⟩
abbrev cX7_readsBell : ByteArray := prog_9_method_14_code
def yX7_readsBell : MethodName := ⟨RX7, "readsBell", "(II)Z"⟩
abbrev cX7_readsRope : ByteArray := prog_9_method_15_code
def yX7_readsRope : MethodName := ⟨RX7, "readsRope", "(II)Z"⟩
abbrev cX7_readsValley : ByteArray := prog_9_method_16_code
def yX7_readsValley : MethodName := ⟨RX7, "readsValley", "(II)Z"⟩
abbrev cX7_cellsBarred : ByteArray := prog_9_method_17_code
def yX7_cellsBarred : MethodName := ⟨RX7, "cellsBarred", "(IIIJ)I"⟩
abbrev cX7_valley : ByteArray := prog_9_method_18_code
def yX7_valley : MethodName := ⟨RX7, "valley", "(IIII)I"⟩
abbrev cX7_needs : ByteArray := prog_9_method_19_code
def yX7_needs : MethodName := ⟨RX7, "needs", "(I)I"⟩
abbrev cX7_ofBell : ByteArray := prog_9_method_20_code
def yX7_ofBell : MethodName := ⟨RX7, "ofBell", "(II)I"⟩
abbrev cX7_ofRope : ByteArray := prog_9_method_21_code
def yX7_ofRope : MethodName := ⟨RX7, "ofRope", "(II)I"⟩
abbrev cX7_tie : ByteArray := prog_9_method_22_code
def yX7_tie : MethodName := ⟨RX7, "tie", "(IZ)I"⟩
abbrev cX7_span : ByteArray := prog_9_method_23_code
def yX7_span : MethodName := ⟨RX7, "span", "(I)I"⟩
abbrev cX7_pull : ByteArray := prog_9_method_24_code
def yX7_pull : MethodName := ⟨RX7, "pull", "(II)I"⟩
abbrev cX7_undo : ByteArray := prog_9_method_25_code
def yX7_undo : MethodName := ⟨RX7, "undo", "(I)I"⟩
abbrev cX7_swingByRope : ByteArray := prog_9_method_26_code
def yX7_swingByRope : MethodName := ⟨RX7, "swingByRope", "(II)V"⟩
abbrev cX7_swingAll : ByteArray := prog_9_method_27_code
def yX7_swingAll : MethodName := ⟨RX7, "swingAll", "(III)V"⟩
abbrev cX7_doesRing : ByteArray := prog_9_method_28_code
def yX7_doesRing : MethodName := ⟨RX7, "doesRing", "(II)Z"⟩
abbrev cX7_go : ByteArray := prog_9_method_29_code
def yX7_go : MethodName := ⟨RX7, "go", "(III)V"⟩
abbrev cX7_goPulls : ByteArray := prog_9_method_30_code
def yX7_goPulls : MethodName := ⟨RX7, "goPulls", "()V"⟩
abbrev cX7_rings : ByteArray := prog_9_method_31_code
def yX7_rings : MethodName := ⟨RX7, "rings", "(I)I"⟩
abbrev cX7_ringsAt : ByteArray := prog_9_method_32_code
def yX7_ringsAt : MethodName := ⟨RX7, "ringsAt", "(II)I"⟩
abbrev cX7_peal : ByteArray := prog_9_method_33_code
def yX7_peal : MethodName := ⟨RX7, "peal", "(I)I"⟩
abbrev cX7_lastNow : ByteArray := prog_9_method_34_code
def yX7_lastNow : MethodName := ⟨RX7, "lastNow", "()I"⟩
abbrev cX7_stops : ByteArray := prog_9_method_35_code
def yX7_stops : MethodName := ⟨RX7, "stops", "()I"⟩
abbrev cX7_rung : ByteArray := prog_9_method_36_code
def yX7_rung : MethodName := ⟨RX7, "rung", "(II)I"⟩
abbrev cX7_fewest : ByteArray := prog_9_method_37_code
def yX7_fewest : MethodName := ⟨RX7, "fewest", "(I)I"⟩
abbrev cX7_still : ByteArray := prog_9_method_38_code
def yX7_still : MethodName := ⟨RX7, "still", "(I)I"⟩
abbrev cX7_hung : ByteArray := prog_9_method_39_code
def yX7_hung : MethodName := ⟨RX7, "hung", "(I)I"⟩
abbrev cX7_cut : ByteArray := prog_9_method_40_code
def yX7_cut : MethodName := ⟨RX7, "cut", "()I"⟩
abbrev cX7_reading : ByteArray := prog_9_method_41_code
def yX7_reading : MethodName := ⟨RX7, "reading", "(IIZ)I"⟩
abbrev cX7_back : ByteArray := prog_9_method_42_code
def yX7_back : MethodName := ⟨RX7, "back", "(I)I"⟩
abbrev cX7_areSo : ByteArray := prog_9_method_43_code
def yX7_areSo : MethodName := ⟨RX7, "areSo", "(II)Z"⟩
abbrev cX7_first : ByteArray := prog_9_method_44_code
def yX7_first : MethodName := ⟨RX7, "first", "()I"⟩
abbrev cX7_gone : ByteArray := prog_9_method_45_code
def yX7_gone : MethodName := ⟨RX7, "gone", "()I"⟩
abbrev cX7_sneezes : ByteArray := prog_9_method_46_code
def yX7_sneezes : MethodName := ⟨RX7, "sneezes", "(I)J"⟩
abbrev cX7_tune : ByteArray := prog_9_method_47_code
def yX7_tune : MethodName := ⟨RX7, "tune", "(IIII)I"⟩
abbrev cX7_noSheet : ByteArray := prog_9_method_48_code
def yX7_noSheet : MethodName := ⟨RX7, "noSheet", "(I)Z"⟩
abbrev cX7_sheet : ByteArray := prog_9_method_49_code
def yX7_sheet : MethodName := ⟨RX7, "sheet", "(III)I"⟩
abbrev cX7_lose : ByteArray := prog_9_method_50_code
def yX7_lose : MethodName := ⟨RX7, "lose", "(I)I"⟩
abbrev cX7_noCell : ByteArray := prog_9_method_51_code
def yX7_noCell : MethodName := ⟨RX7, "noCell", "(II)I"⟩
abbrev cX7_put : ByteArray := prog_9_method_52_code
def yX7_put : MethodName := ⟨RX7, "put", "(III)I"⟩
abbrev cX7_cell : ByteArray := prog_9_method_53_code
def yX7_cell : MethodName := ⟨RX7, "cell", "(III)J"⟩
abbrev cX7_isBeyond : ByteArray := prog_9_method_54_code
def yX7_isBeyond : MethodName := ⟨RX7, "isBeyond", "(IJI)Z"⟩
abbrev cX7_copy : ByteArray := prog_9_method_55_code
def yX7_copy : MethodName := ⟨RX7, "copy", "(IIIII)I"⟩
abbrev cX7_traced : ByteArray := prog_9_method_56_code
def yX7_traced : MethodName := ⟨RX7, "traced", "(I)V"⟩
abbrev cX7_tell : ByteArray := prog_9_method_57_code
def yX7_tell : MethodName := ⟨RX7, "tell", "(I)I"⟩
abbrev cX7_hail : ByteArray := prog_9_method_58_code
def yX7_hail : MethodName := ⟨RX7, "hail", "(I)I"⟩
abbrev cX7_as : ByteArray := prog_9_method_59_code
def yX7_as : MethodName := ⟨RX7, "as", "(II)I"⟩
abbrev cX7_trace : ByteArray := prog_9_method_60_code
def yX7_trace : MethodName := ⟨RX7, "trace", "()I"⟩
abbrev cX7_fault : ByteArray := prog_9_method_61_code
def yX7_fault : MethodName := ⟨RX7, "fault", "()I"⟩
abbrev cX7_many : ByteArray := prog_9_method_62_code
def yX7_many : MethodName := ⟨RX7, "many", "(I)I"⟩
def RJ6 : String := "java/lang/Integer"
def TJ6 : u_T := fun k => match k with
  | _ => ("", "", "", false)
def tyJ6 : Nat → FieldType := fun k => match k with
  | _ => .int
abbrev wsJ60 : List Cond := u_ws RJ6 TJ6 0
theorem nmJ6 : ∀ a, a < 0 → ∀ b, b < 0 → a ≠ b → (TJ6 a).2.1 ≠ (TJ6 b).2.1 := by decide +kernel
theorem tyJ6_ok : ∀ k, k < 0 → parseFieldDescriptor (TJ6 k).2.2.1 = some (tyJ6 k) := by decide +kernel
abbrev cJ6_bitCount_0f7a4 : ByteArray := prog_10_method_49_code
def yJ6_bitCount_0f7a4 : MethodName := ⟨RJ6, "bitCount", "(I)I"⟩
def RJ9 : String := "java/lang/Math"
def TJ9 : u_T := fun k => match k with
  | _ => ("", "", "", false)
def tyJ9 : Nat → FieldType := fun k => match k with
  | _ => .int
abbrev wsJ90 : List Cond := u_ws RJ9 TJ9 0
theorem nmJ9 : ∀ a, a < 0 → ∀ b, b < 0 → a ≠ b → (TJ9 a).2.1 ≠ (TJ9 b).2.1 := by decide +kernel
theorem tyJ9_ok : ∀ k, k < 0 → parseFieldDescriptor (TJ9 k).2.2.1 = some (tyJ9 k) := by decide +kernel
abbrev cJ9_max_7cf53 : ByteArray := prog_11_method_65_code
def yJ9_max_7cf53 : MethodName := ⟨RJ9, "max", "(II)I"⟩
def RJ10 : String := "java/lang/System"
def TJ10 : u_T := fun k => match k with
  | _ => ("", "", "", false)
def tyJ10 : Nat → FieldType := fun k => match k with
  | _ => .int
abbrev wsJ100 : List Cond := u_ws RJ10 TJ10 0
theorem nmJ10 : ∀ a, a < 0 → ∀ b, b < 0 → a ≠ b → (TJ10 a).2.1 ≠ (TJ10 b).2.1 := by decide +kernel
theorem tyJ10_ok : ∀ k, k < 0 → parseFieldDescriptor (TJ10 k).2.2.1 = some (tyJ10 k) := by decide +kernel
def RJ7 : String := "java/util/Arrays"
def TJ7 : u_T := fun k => match k with
  | _ => ("", "", "", false)
def tyJ7 : Nat → FieldType := fun k => match k with
  | _ => .int
abbrev wsJ70 : List Cond := u_ws RJ7 TJ7 0
theorem nmJ7 : ∀ a, a < 0 → ∀ b, b < 0 → a ≠ b → (TJ7 a).2.1 ≠ (TJ7 b).2.1 := by decide +kernel
theorem tyJ7_ok : ∀ k, k < 0 → parseFieldDescriptor (TJ7 k).2.2.1 = some (tyJ7 k) := by decide +kernel
abbrev cJ7_fill_53178 : ByteArray := prog_13_method_103_code
def yJ7_fill_53178 : MethodName := ⟨RJ7, "fill", "([II)V"⟩
def RL : String := "RopedBellsLaw"
abbrev cL_law : ByteArray := code
def yL_law : MethodName := ⟨RL, "law", "([I)Z"⟩
abbrev vwCl : List vw_C := [(RX0, TX0, 6), (RX1, TX1, 4), (RX2, TX2, 4), (RX3, TX3, 3), (RX4, TX4, 2), (RX5, TX5, 9), (RX6, TX6, 11), (RX7, TX7, 34)]
def TB : List Cond := lw_tbl.filter goodWord
theorem tb_good : ∀ w ∈ TB, ((w.onTables && w.keeps) = true ∨ ∃ ty, w = .arrayClass ty) := fun w hw => good_of_word (List.mem_filter.mp hw).2
theorem tb_in_lw : ∀ w ∈ TB, w ∈ lw_tbl := fun w hw => (List.mem_filter.mp hw).1
theorem tb_m {w : Cond} {i : Nat} (h : lw_tbl[i]? = some w) (hg : goodWord w = true) : w ∈ TB := List.mem_filter.mpr ⟨List.mem_of_getElem? h, hg⟩
theorem mem_p (ws : List Cond) (ps : List Nat) (h : ps.map (fun i => lw_tbl[i]?) = ws.map some) (hg : ws.all goodWord = true) : ∀ w ∈ ws, w ∈ TB := by
  intro w hw
  have h1 : some w ∈ ps.map (fun i => lw_tbl[i]?) := by rw [h]; exact List.mem_map.mpr ⟨w, hw, rfl⟩
  obtain ⟨i, -, hi⟩ := List.mem_map.mp h1
  exact tb_m hi (List.all_eq_true.mp hg w hw)
theorem tb_in {y : MethodName} {bytes : ByteArray} {n : Nat} {r : Option FieldType} (h : Cond.code y bytes n r ∈ TB) : GoodIn TB (Cond.code y bytes n r :: TB) := by
  intro w hw
  rcases List.mem_cons.mp hw with rfl | hw
  · exact ⟨h, tb_good _ h⟩
  · exact ⟨hw, tb_good _ hw⟩
theorem inX0 : ∀ w ∈ wsX00, w ∈ TB := mem_p _ [202, 204, 206, 208, 210, 212] (by decide +kernel) (by decide +kernel)
theorem inX1 : ∀ w ∈ wsX10, w ∈ TB := mem_p _ [159, 161, 163, 165] (by decide +kernel) (by decide +kernel)
theorem inX2 : ∀ w ∈ wsX20, w ∈ TB := mem_p _ [179, 181, 183, 185] (by decide +kernel) (by decide +kernel)
theorem inX3 : ∀ w ∈ wsX30, w ∈ TB := mem_p _ [228, 230, 232] (by decide +kernel) (by decide +kernel)
theorem inX4 : ∀ w ∈ wsX40, w ∈ TB := mem_p _ [139, 141] (by decide +kernel) (by decide +kernel)
theorem inX5 : ∀ w ∈ wsX50, w ∈ TB := mem_p _ [108, 110, 112, 114, 116, 118, 120, 122, 124] (by decide +kernel) (by decide +kernel)
theorem inX6 : ∀ w ∈ wsX60, w ∈ TB := mem_p _ [246, 248, 250, 252, 254, 256, 258, 260, 262, 264, 266] (by decide +kernel) (by decide +kernel)
theorem inX7 : ∀ w ∈ wsX70, w ∈ TB := mem_p _ [683, 685, 687, 689, 691, 693, 695, 697, 699, 701, 703, 705, 707, 709, 711, 713, 715, 717, 719, 721, 723, 725, 727, 729, 731, 733, 735, 737, 739, 741, 743, 745, 747, 749] (by decide +kernel) (by decide +kernel)
