section
-- ===== PART A: goes FIRST, ahead of the names: the tables' words, and 'selects' of the private methods out of them =====
/-- a private method of a class that the tables say can be made, by its rows of tables_1 -/
def lw_okq (q : MethodName × Nat) : Prop := (q.1.cls ≠ "java/lang/invoke/MethodHandle" ∧ q.1.cls ≠ "java/lang/invoke/VarHandle") ∧ Cond.instantiable q.1.cls q.2 ∈ tables_1 ∧ Cond.privateMethod q.1 ∈ tables_1 ∧ Cond.instanceMethod q.1 ∈ tables_1
theorem lw_p0 : lw_okq (⟨"GathersAllFaults", "refuse", "(I)I"⟩, 14) := ⟨⟨by decide +kernel, by decide +kernel⟩, List.mem_of_getElem? (i := 13) (by decide +kernel), List.mem_of_getElem? (i := 294) (by decide +kernel), List.mem_of_getElem? (i := 295) (by decide +kernel)⟩
theorem lw_p1 : lw_okq (⟨"GathersAllFaults$CheckReader", "begins", "(I)Z"⟩, 11) := ⟨⟨by decide +kernel, by decide +kernel⟩, List.mem_of_getElem? (i := 210) (by decide +kernel), List.mem_of_getElem? (i := 325) (by decide +kernel), List.mem_of_getElem? (i := 326) (by decide +kernel)⟩
theorem lw_p2 : lw_okq (⟨"GathersAllFaults$CheckReader", "ends", "()V"⟩, 11) := ⟨⟨by decide +kernel, by decide +kernel⟩, List.mem_of_getElem? (i := 210) (by decide +kernel), List.mem_of_getElem? (i := 329) (by decide +kernel), List.mem_of_getElem? (i := 330) (by decide +kernel)⟩
theorem lw_p3 : lw_okq (⟨"GathersAllFaults$CheckReader", "goBehindDigits", "()V"⟩, 11) := ⟨⟨by decide +kernel, by decide +kernel⟩, List.mem_of_getElem? (i := 210) (by decide +kernel), List.mem_of_getElem? (i := 352) (by decide +kernel), List.mem_of_getElem? (i := 353) (by decide +kernel)⟩
theorem lw_p4 : lw_okq (⟨"GathersAllFaults$CheckReader", "field", "(I)Z"⟩, 11) := ⟨⟨by decide +kernel, by decide +kernel⟩, List.mem_of_getElem? (i := 210) (by decide +kernel), List.mem_of_getElem? (i := 359) (by decide +kernel), List.mem_of_getElem? (i := 360) (by decide +kernel)⟩
theorem lw_p5 : lw_okq (⟨"GathersAllFaults$CheckReader", "last", "(I)Z"⟩, 11) := ⟨⟨by decide +kernel, by decide +kernel⟩, List.mem_of_getElem? (i := 210) (by decide +kernel), List.mem_of_getElem? (i := 366) (by decide +kernel), List.mem_of_getElem? (i := 367) (by decide +kernel)⟩
theorem lw_p6 : lw_okq (⟨"GathersAllFaults$ValueReader", "begins", "(I)Z"⟩, 6) := ⟨⟨by decide +kernel, by decide +kernel⟩, List.mem_of_getElem? (i := 167) (by decide +kernel), List.mem_of_getElem? (i := 374) (by decide +kernel), List.mem_of_getElem? (i := 375) (by decide +kernel)⟩
theorem lw_p7 : lw_okq (⟨"GathersAllFaults$ValueReader", "ends", "()V"⟩, 6) := ⟨⟨by decide +kernel, by decide +kernel⟩, List.mem_of_getElem? (i := 167) (by decide +kernel), List.mem_of_getElem? (i := 381) (by decide +kernel), List.mem_of_getElem? (i := 382) (by decide +kernel)⟩
theorem lw_p8 : lw_okq (⟨"GathersAllFaults$ValueReader", "closes", "()Z"⟩, 6) := ⟨⟨by decide +kernel, by decide +kernel⟩, List.mem_of_getElem? (i := 167) (by decide +kernel), List.mem_of_getElem? (i := 388) (by decide +kernel), List.mem_of_getElem? (i := 389) (by decide +kernel)⟩
theorem lw_p9 : lw_okq (⟨"GathersAllFaults$CheckReader", "takes", "([II)Z"⟩, 11) := ⟨⟨by decide +kernel, by decide +kernel⟩, List.mem_of_getElem? (i := 210) (by decide +kernel), List.mem_of_getElem? (i := 402) (by decide +kernel), List.mem_of_getElem? (i := 403) (by decide +kernel)⟩
theorem lw_p10 : lw_okq (⟨"GathersAllFaults$CheckReader", "settle", "()V"⟩, 11) := ⟨⟨by decide +kernel, by decide +kernel⟩, List.mem_of_getElem? (i := 210) (by decide +kernel), List.mem_of_getElem? (i := 408) (by decide +kernel), List.mem_of_getElem? (i := 409) (by decide +kernel)⟩
theorem lw_p11 : lw_okq (⟨"GathersAllFaults$CheckReader", "addsField", "(II)Z"⟩, 11) := ⟨⟨by decide +kernel, by decide +kernel⟩, List.mem_of_getElem? (i := 210) (by decide +kernel), List.mem_of_getElem? (i := 415) (by decide +kernel), List.mem_of_getElem? (i := 416) (by decide +kernel)⟩
theorem lw_p12 : lw_okq (⟨"GathersAllFaults$CheckReader", "addsDependent", "(III)Z"⟩, 11) := ⟨⟨by decide +kernel, by decide +kernel⟩, List.mem_of_getElem? (i := 210) (by decide +kernel), List.mem_of_getElem? (i := 424) (by decide +kernel), List.mem_of_getElem? (i := 425) (by decide +kernel)⟩
theorem lw_p13 : lw_okq (⟨"GathersAllFaults$CheckReader", "adds", "(III)Z"⟩, 11) := ⟨⟨by decide +kernel, by decide +kernel⟩, List.mem_of_getElem? (i := 210) (by decide +kernel), List.mem_of_getElem? (i := 436) (by decide +kernel), List.mem_of_getElem? (i := 437) (by decide +kernel)⟩
theorem lw_p14 : lw_okq (⟨"GathersAllFaults$CheckReader", "canReturn", "()Z"⟩, 11) := ⟨⟨by decide +kernel, by decide +kernel⟩, List.mem_of_getElem? (i := 210) (by decide +kernel), List.mem_of_getElem? (i := 440) (by decide +kernel), List.mem_of_getElem? (i := 441) (by decide +kernel)⟩
theorem lw_p15 : lw_okq (⟨"GathersAllFaults$ValueReader", "adds", "(II)Z"⟩, 6) := ⟨⟨by decide +kernel, by decide +kernel⟩, List.mem_of_getElem? (i := 167) (by decide +kernel), List.mem_of_getElem? (i := 458) (by decide +kernel), List.mem_of_getElem? (i := 459) (by decide +kernel)⟩
def lw_privs_1 : List (MethodName × Nat) := [(⟨"GathersAllFaults", "refuse", "(I)I"⟩, 14), (⟨"GathersAllFaults$CheckReader", "begins", "(I)Z"⟩, 11), (⟨"GathersAllFaults$CheckReader", "ends", "()V"⟩, 11), (⟨"GathersAllFaults$CheckReader", "goBehindDigits", "()V"⟩, 11), (⟨"GathersAllFaults$CheckReader", "field", "(I)Z"⟩, 11), (⟨"GathersAllFaults$CheckReader", "last", "(I)Z"⟩, 11), (⟨"GathersAllFaults$ValueReader", "begins", "(I)Z"⟩, 6), (⟨"GathersAllFaults$ValueReader", "ends", "()V"⟩, 6), (⟨"GathersAllFaults$ValueReader", "closes", "()Z"⟩, 6), (⟨"GathersAllFaults$CheckReader", "takes", "([II)Z"⟩, 11), (⟨"GathersAllFaults$CheckReader", "settle", "()V"⟩, 11), (⟨"GathersAllFaults$CheckReader", "addsField", "(II)Z"⟩, 11), (⟨"GathersAllFaults$CheckReader", "addsDependent", "(III)Z"⟩, 11), (⟨"GathersAllFaults$CheckReader", "adds", "(III)Z"⟩, 11), (⟨"GathersAllFaults$CheckReader", "canReturn", "()Z"⟩, 11), (⟨"GathersAllFaults$ValueReader", "adds", "(II)Z"⟩, 6)]
theorem lw_r1 : ∀ q ∈ lw_privs_1, lw_okq q := List.forall_mem_cons.mpr ⟨lw_p0, List.forall_mem_cons.mpr ⟨lw_p1, List.forall_mem_cons.mpr ⟨lw_p2, List.forall_mem_cons.mpr ⟨lw_p3, List.forall_mem_cons.mpr ⟨lw_p4, List.forall_mem_cons.mpr ⟨lw_p5, List.forall_mem_cons.mpr ⟨lw_p6, List.forall_mem_cons.mpr ⟨lw_p7, List.forall_mem_cons.mpr ⟨lw_p8, List.forall_mem_cons.mpr ⟨lw_p9, List.forall_mem_cons.mpr ⟨lw_p10, List.forall_mem_cons.mpr ⟨lw_p11, List.forall_mem_cons.mpr ⟨lw_p12, List.forall_mem_cons.mpr ⟨lw_p13, List.forall_mem_cons.mpr ⟨lw_p14, List.forall_mem_cons.mpr ⟨lw_p15, fun _ h => absurd h List.not_mem_nil⟩⟩⟩⟩⟩⟩⟩⟩⟩⟩⟩⟩⟩⟩⟩⟩
theorem lw_p16 : lw_okq (⟨"GathersAllFaults$ValueReader", "takes", "(I)Z"⟩, 6) := ⟨⟨by decide +kernel, by decide +kernel⟩, List.mem_of_getElem? (i := 167) (by decide +kernel), List.mem_of_getElem? (i := 468) (by decide +kernel), List.mem_of_getElem? (i := 469) (by decide +kernel)⟩
theorem lw_p17 : lw_okq (⟨"GathersAllFaults$Tree", "takeOut", "(II)V"⟩, 7) := ⟨⟨by decide +kernel, by decide +kernel⟩, List.mem_of_getElem? (i := 21) (by decide +kernel), List.mem_of_getElem? (i := 527) (by decide +kernel), List.mem_of_getElem? (i := 528) (by decide +kernel)⟩
theorem lw_p18 : lw_okq (⟨"GathersAllFaults$Gatherer", "look", "(III)V"⟩, 5) := ⟨⟨by decide +kernel, by decide +kernel⟩, List.mem_of_getElem? (i := 66) (by decide +kernel), List.mem_of_getElem? (i := 546) (by decide +kernel), List.mem_of_getElem? (i := 547) (by decide +kernel)⟩
theorem lw_p19 : lw_okq (⟨"GathersAllFaults$Gatherer", "deciderOf", "(II)I"⟩, 5) := ⟨⟨by decide +kernel, by decide +kernel⟩, List.mem_of_getElem? (i := 66) (by decide +kernel), List.mem_of_getElem? (i := 550) (by decide +kernel), List.mem_of_getElem? (i := 551) (by decide +kernel)⟩
theorem lw_p20 : lw_okq (⟨"GathersAllFaults$Gatherer", "add", "(II)V"⟩, 5) := ⟨⟨by decide +kernel, by decide +kernel⟩, List.mem_of_getElem? (i := 66) (by decide +kernel), List.mem_of_getElem? (i := 555) (by decide +kernel), List.mem_of_getElem? (i := 556) (by decide +kernel)⟩
theorem lw_p21 : lw_okq (⟨"GathersAllFaults$Gatherer", "lookAtNumber", "(II)V"⟩, 5) := ⟨⟨by decide +kernel, by decide +kernel⟩, List.mem_of_getElem? (i := 66) (by decide +kernel), List.mem_of_getElem? (i := 560) (by decide +kernel), List.mem_of_getElem? (i := 561) (by decide +kernel)⟩
theorem lw_p22 : lw_okq (⟨"GathersAllFaults$Gatherer", "lookAtRecord", "(III)V"⟩, 5) := ⟨⟨by decide +kernel, by decide +kernel⟩, List.mem_of_getElem? (i := 66) (by decide +kernel), List.mem_of_getElem? (i := 564) (by decide +kernel), List.mem_of_getElem? (i := 565) (by decide +kernel)⟩
theorem lw_p23 : lw_okq (⟨"GathersAllFaults$Gatherer", "lookAtFields", "(III)V"⟩, 5) := ⟨⟨by decide +kernel, by decide +kernel⟩, List.mem_of_getElem? (i := 66) (by decide +kernel), List.mem_of_getElem? (i := 568) (by decide +kernel), List.mem_of_getElem? (i := 569) (by decide +kernel)⟩
theorem lw_p24 : lw_okq (⟨"GathersAllFaults$Gatherer", "lookForStrangers", "(II)V"⟩, 5) := ⟨⟨by decide +kernel, by decide +kernel⟩, List.mem_of_getElem? (i := 66) (by decide +kernel), List.mem_of_getElem? (i := 573) (by decide +kernel), List.mem_of_getElem? (i := 574) (by decide +kernel)⟩
theorem lw_p25 : lw_okq (⟨"GathersAllFaults$Gatherer", "lookAtDependent", "(III)V"⟩, 5) := ⟨⟨by decide +kernel, by decide +kernel⟩, List.mem_of_getElem? (i := 66) (by decide +kernel), List.mem_of_getElem? (i := 578) (by decide +kernel), List.mem_of_getElem? (i := 579) (by decide +kernel)⟩
theorem lw_p26 : lw_okq (⟨"GathersAllFaults$Gatherer", "lookAtList", "(III)V"⟩, 5) := ⟨⟨by decide +kernel, by decide +kernel⟩, List.mem_of_getElem? (i := 66) (by decide +kernel), List.mem_of_getElem? (i := 599) (by decide +kernel), List.mem_of_getElem? (i := 600) (by decide +kernel)⟩
theorem lw_p27 : lw_okq (⟨"GathersAllFaults$Gatherer", "lookForTwins", "(II)V"⟩, 5) := ⟨⟨by decide +kernel, by decide +kernel⟩, List.mem_of_getElem? (i := 66) (by decide +kernel), List.mem_of_getElem? (i := 603) (by decide +kernel), List.mem_of_getElem? (i := 604) (by decide +kernel)⟩
theorem lw_p28 : lw_okq (⟨"GathersAllFaults$Gatherer", "keepFewer", "(IIII)V"⟩, 5) := ⟨⟨by decide +kernel, by decide +kernel⟩, List.mem_of_getElem? (i := 66) (by decide +kernel), List.mem_of_getElem? (i := 607) (by decide +kernel), List.mem_of_getElem? (i := 608) (by decide +kernel)⟩
theorem lw_p29 : lw_okq (⟨"GathersAllFaults", "firstAlike", "(I)I"⟩, 14) := ⟨⟨by decide +kernel, by decide +kernel⟩, List.mem_of_getElem? (i := 13) (by decide +kernel), List.mem_of_getElem? (i := 664) (by decide +kernel), List.mem_of_getElem? (i := 665) (by decide +kernel)⟩
theorem lw_p30 : lw_okq (⟨"GathersAllFaults", "countAlike", "(I)I"⟩, 14) := ⟨⟨by decide +kernel, by decide +kernel⟩, List.mem_of_getElem? (i := 13) (by decide +kernel), List.mem_of_getElem? (i := 672) (by decide +kernel), List.mem_of_getElem? (i := 673) (by decide +kernel)⟩
theorem lw_p31 : lw_okq (⟨"GathersAllFaults$Tree", "parentOf", "(I)I"⟩, 7) := ⟨⟨by decide +kernel, by decide +kernel⟩, List.mem_of_getElem? (i := 21) (by decide +kernel), List.mem_of_getElem? (i := 684) (by decide +kernel), List.mem_of_getElem? (i := 685) (by decide +kernel)⟩
def lw_privs_2 : List (MethodName × Nat) := [(⟨"GathersAllFaults$ValueReader", "takes", "(I)Z"⟩, 6), (⟨"GathersAllFaults$Tree", "takeOut", "(II)V"⟩, 7), (⟨"GathersAllFaults$Gatherer", "look", "(III)V"⟩, 5), (⟨"GathersAllFaults$Gatherer", "deciderOf", "(II)I"⟩, 5), (⟨"GathersAllFaults$Gatherer", "add", "(II)V"⟩, 5), (⟨"GathersAllFaults$Gatherer", "lookAtNumber", "(II)V"⟩, 5), (⟨"GathersAllFaults$Gatherer", "lookAtRecord", "(III)V"⟩, 5), (⟨"GathersAllFaults$Gatherer", "lookAtFields", "(III)V"⟩, 5), (⟨"GathersAllFaults$Gatherer", "lookForStrangers", "(II)V"⟩, 5), (⟨"GathersAllFaults$Gatherer", "lookAtDependent", "(III)V"⟩, 5), (⟨"GathersAllFaults$Gatherer", "lookAtList", "(III)V"⟩, 5), (⟨"GathersAllFaults$Gatherer", "lookForTwins", "(II)V"⟩, 5), (⟨"GathersAllFaults$Gatherer", "keepFewer", "(IIII)V"⟩, 5), (⟨"GathersAllFaults", "firstAlike", "(I)I"⟩, 14), (⟨"GathersAllFaults", "countAlike", "(I)I"⟩, 14), (⟨"GathersAllFaults$Tree", "parentOf", "(I)I"⟩, 7)]
theorem lw_r2 : ∀ q ∈ lw_privs_2, lw_okq q := List.forall_mem_cons.mpr ⟨lw_p16, List.forall_mem_cons.mpr ⟨lw_p17, List.forall_mem_cons.mpr ⟨lw_p18, List.forall_mem_cons.mpr ⟨lw_p19, List.forall_mem_cons.mpr ⟨lw_p20, List.forall_mem_cons.mpr ⟨lw_p21, List.forall_mem_cons.mpr ⟨lw_p22, List.forall_mem_cons.mpr ⟨lw_p23, List.forall_mem_cons.mpr ⟨lw_p24, List.forall_mem_cons.mpr ⟨lw_p25, List.forall_mem_cons.mpr ⟨lw_p26, List.forall_mem_cons.mpr ⟨lw_p27, List.forall_mem_cons.mpr ⟨lw_p28, List.forall_mem_cons.mpr ⟨lw_p29, List.forall_mem_cons.mpr ⟨lw_p30, List.forall_mem_cons.mpr ⟨lw_p31, fun _ h => absurd h List.not_mem_nil⟩⟩⟩⟩⟩⟩⟩⟩⟩⟩⟩⟩⟩⟩⟩⟩
theorem lw_p32 : lw_okq (⟨"GathersAllFaults", "refuseLong", "(I)J"⟩, 14) := ⟨⟨by decide +kernel, by decide +kernel⟩, List.mem_of_getElem? (i := 13) (by decide +kernel), List.mem_of_getElem? (i := 701) (by decide +kernel), List.mem_of_getElem? (i := 702) (by decide +kernel)⟩
theorem lw_p33 : lw_okq (⟨"GathersAllFaults", "numbers", "()I"⟩, 14) := ⟨⟨by decide +kernel, by decide +kernel⟩, List.mem_of_getElem? (i := 13) (by decide +kernel), List.mem_of_getElem? (i := 706) (by decide +kernel), List.mem_of_getElem? (i := 707) (by decide +kernel)⟩
theorem lw_p34 : lw_okq (⟨"GathersAllFaults", "tryLosing", "(II)V"⟩, 14) := ⟨⟨by decide +kernel, by decide +kernel⟩, List.mem_of_getElem? (i := 13) (by decide +kernel), List.mem_of_getElem? (i := 710) (by decide +kernel), List.mem_of_getElem? (i := 711) (by decide +kernel)⟩
theorem lw_p35 : lw_okq (⟨"GathersAllFaults", "firstMistold", "()I"⟩, 14) := ⟨⟨by decide +kernel, by decide +kernel⟩, List.mem_of_getElem? (i := 13) (by decide +kernel), List.mem_of_getElem? (i := 734) (by decide +kernel), List.mem_of_getElem? (i := 735) (by decide +kernel)⟩
theorem lw_p36 : lw_okq (⟨"GathersAllFaults", "tryLots", "()V"⟩, 14) := ⟨⟨by decide +kernel, by decide +kernel⟩, List.mem_of_getElem? (i := 13) (by decide +kernel), List.mem_of_getElem? (i := 754) (by decide +kernel), List.mem_of_getElem? (i := 755) (by decide +kernel)⟩
theorem lw_p37 : lw_okq (⟨"GathersAllFaults", "draw", "(I)I"⟩, 14) := ⟨⟨by decide +kernel, by decide +kernel⟩, List.mem_of_getElem? (i := 13) (by decide +kernel), List.mem_of_getElem? (i := 758) (by decide +kernel), List.mem_of_getElem? (i := 759) (by decide +kernel)⟩
theorem lw_p38 : lw_okq (⟨"GathersAllFaults", "greatestPath", "()I"⟩, 14) := ⟨⟨by decide +kernel, by decide +kernel⟩, List.mem_of_getElem? (i := 13) (by decide +kernel), List.mem_of_getElem? (i := 777) (by decide +kernel), List.mem_of_getElem? (i := 778) (by decide +kernel)⟩
theorem lw_p39 : lw_okq (⟨"GathersAllFaultsModel", "measures", "()V"⟩, 54) := ⟨⟨by decide +kernel, by decide +kernel⟩, List.mem_of_getElem? (i := 784) (by decide +kernel), List.mem_of_getElem? (i := 790) (by decide +kernel), List.mem_of_getElem? (i := 791) (by decide +kernel)⟩
theorem lw_p40 : lw_okq (⟨"GathersAllFaultsModel", "many", "(I)I"⟩, 54) := ⟨⟨by decide +kernel, by decide +kernel⟩, List.mem_of_getElem? (i := 784) (by decide +kernel), List.mem_of_getElem? (i := 794) (by decide +kernel), List.mem_of_getElem? (i := 795) (by decide +kernel)⟩
theorem lw_p41 : lw_okq (⟨"GathersAllFaultsModel", "isHolding", "(I)Z"⟩, 54) := ⟨⟨by decide +kernel, by decide +kernel⟩, List.mem_of_getElem? (i := 784) (by decide +kernel), List.mem_of_getElem? (i := 798) (by decide +kernel), List.mem_of_getElem? (i := 799) (by decide +kernel)⟩
theorem lw_p42 : lw_okq (⟨"GathersAllFaultsModel", "no", "(I)I"⟩, 54) := ⟨⟨by decide +kernel, by decide +kernel⟩, List.mem_of_getElem? (i := 784) (by decide +kernel), List.mem_of_getElem? (i := 972) (by decide +kernel), List.mem_of_getElem? (i := 973) (by decide +kernel)⟩
theorem lw_p43 : lw_okq (⟨"GathersAllFaultsModel", "passesValue", "(IZ)V"⟩, 54) := ⟨⟨by decide +kernel, by decide +kernel⟩, List.mem_of_getElem? (i := 784) (by decide +kernel), List.mem_of_getElem? (i := 980) (by decide +kernel), List.mem_of_getElem? (i := 981) (by decide +kernel)⟩
theorem lw_p44 : lw_okq (⟨"GathersAllFaultsModel", "passes", "([I)V"⟩, 54) := ⟨⟨by decide +kernel, by decide +kernel⟩, List.mem_of_getElem? (i := 784) (by decide +kernel), List.mem_of_getElem? (i := 984) (by decide +kernel), List.mem_of_getElem? (i := 985) (by decide +kernel)⟩
theorem lw_p45 : lw_okq (⟨"GathersAllFaultsModel", "passOne", "(I)I"⟩, 54) := ⟨⟨by decide +kernel, by decide +kernel⟩, List.mem_of_getElem? (i := 784) (by decide +kernel), List.mem_of_getElem? (i := 988) (by decide +kernel), List.mem_of_getElem? (i := 989) (by decide +kernel)⟩
theorem lw_p46 : lw_okq (⟨"GathersAllFaultsModel", "readsValue", "()Z"⟩, 54) := ⟨⟨by decide +kernel, by decide +kernel⟩, List.mem_of_getElem? (i := 784) (by decide +kernel), List.mem_of_getElem? (i := 992) (by decide +kernel), List.mem_of_getElem? (i := 993) (by decide +kernel)⟩
theorem lw_p47 : lw_okq (⟨"GathersAllFaultsModel", "readsPart", "()Z"⟩, 54) := ⟨⟨by decide +kernel, by decide +kernel⟩, List.mem_of_getElem? (i := 784) (by decide +kernel), List.mem_of_getElem? (i := 996) (by decide +kernel), List.mem_of_getElem? (i := 997) (by decide +kernel)⟩
def lw_privs_3 : List (MethodName × Nat) := [(⟨"GathersAllFaults", "refuseLong", "(I)J"⟩, 14), (⟨"GathersAllFaults", "numbers", "()I"⟩, 14), (⟨"GathersAllFaults", "tryLosing", "(II)V"⟩, 14), (⟨"GathersAllFaults", "firstMistold", "()I"⟩, 14), (⟨"GathersAllFaults", "tryLots", "()V"⟩, 14), (⟨"GathersAllFaults", "draw", "(I)I"⟩, 14), (⟨"GathersAllFaults", "greatestPath", "()I"⟩, 14), (⟨"GathersAllFaultsModel", "measures", "()V"⟩, 54), (⟨"GathersAllFaultsModel", "many", "(I)I"⟩, 54), (⟨"GathersAllFaultsModel", "isHolding", "(I)Z"⟩, 54), (⟨"GathersAllFaultsModel", "no", "(I)I"⟩, 54), (⟨"GathersAllFaultsModel", "passesValue", "(IZ)V"⟩, 54), (⟨"GathersAllFaultsModel", "passes", "([I)V"⟩, 54), (⟨"GathersAllFaultsModel", "passOne", "(I)I"⟩, 54), (⟨"GathersAllFaultsModel", "readsValue", "()Z"⟩, 54), (⟨"GathersAllFaultsModel", "readsPart", "()Z"⟩, 54)]
theorem lw_r3 : ∀ q ∈ lw_privs_3, lw_okq q := List.forall_mem_cons.mpr ⟨lw_p32, List.forall_mem_cons.mpr ⟨lw_p33, List.forall_mem_cons.mpr ⟨lw_p34, List.forall_mem_cons.mpr ⟨lw_p35, List.forall_mem_cons.mpr ⟨lw_p36, List.forall_mem_cons.mpr ⟨lw_p37, List.forall_mem_cons.mpr ⟨lw_p38, List.forall_mem_cons.mpr ⟨lw_p39, List.forall_mem_cons.mpr ⟨lw_p40, List.forall_mem_cons.mpr ⟨lw_p41, List.forall_mem_cons.mpr ⟨lw_p42, List.forall_mem_cons.mpr ⟨lw_p43, List.forall_mem_cons.mpr ⟨lw_p44, List.forall_mem_cons.mpr ⟨lw_p45, List.forall_mem_cons.mpr ⟨lw_p46, List.forall_mem_cons.mpr ⟨lw_p47, fun _ h => absurd h List.not_mem_nil⟩⟩⟩⟩⟩⟩⟩⟩⟩⟩⟩⟩⟩⟩⟩⟩
theorem lw_p48 : lw_okq (⟨"GathersAllFaultsModel", "sign", "()I"⟩, 54) := ⟨⟨by decide +kernel, by decide +kernel⟩, List.mem_of_getElem? (i := 784) (by decide +kernel), List.mem_of_getElem? (i := 1000) (by decide +kernel), List.mem_of_getElem? (i := 1001) (by decide +kernel)⟩
theorem lw_p49 : lw_okq (⟨"GathersAllFaultsModel", "readsNumber", "()Z"⟩, 54) := ⟨⟨by decide +kernel, by decide +kernel⟩, List.mem_of_getElem? (i := 784) (by decide +kernel), List.mem_of_getElem? (i := 1007) (by decide +kernel), List.mem_of_getElem? (i := 1008) (by decide +kernel)⟩
theorem lw_p50 : lw_okq (⟨"GathersAllFaultsModel", "beginsPart", "(II)I"⟩, 54) := ⟨⟨by decide +kernel, by decide +kernel⟩, List.mem_of_getElem? (i := 784) (by decide +kernel), List.mem_of_getElem? (i := 1011) (by decide +kernel), List.mem_of_getElem? (i := 1012) (by decide +kernel)⟩
theorem lw_p51 : lw_okq (⟨"GathersAllFaultsModel", "isBad", "(I)V"⟩, 54) := ⟨⟨by decide +kernel, by decide +kernel⟩, List.mem_of_getElem? (i := 784) (by decide +kernel), List.mem_of_getElem? (i := 1015) (by decide +kernel), List.mem_of_getElem? (i := 1016) (by decide +kernel)⟩
theorem lw_p52 : lw_okq (⟨"GathersAllFaultsModel", "digit", "()I"⟩, 54) := ⟨⟨by decide +kernel, by decide +kernel⟩, List.mem_of_getElem? (i := 784) (by decide +kernel), List.mem_of_getElem? (i := 1019) (by decide +kernel), List.mem_of_getElem? (i := 1020) (by decide +kernel)⟩
theorem lw_p53 : lw_okq (⟨"GathersAllFaultsModel", "opens", "(IIZ)V"⟩, 54) := ⟨⟨by decide +kernel, by decide +kernel⟩, List.mem_of_getElem? (i := 784) (by decide +kernel), List.mem_of_getElem? (i := 1023) (by decide +kernel), List.mem_of_getElem? (i := 1024) (by decide +kernel)⟩
theorem lw_p54 : lw_okq (⟨"GathersAllFaultsModel", "readsInside", "()Z"⟩, 54) := ⟨⟨by decide +kernel, by decide +kernel⟩, List.mem_of_getElem? (i := 784) (by decide +kernel), List.mem_of_getElem? (i := 1027) (by decide +kernel), List.mem_of_getElem? (i := 1028) (by decide +kernel)⟩
theorem lw_p55 : lw_okq (⟨"GathersAllFaultsModel", "closes", "(I)Z"⟩, 54) := ⟨⟨by decide +kernel, by decide +kernel⟩, List.mem_of_getElem? (i := 784) (by decide +kernel), List.mem_of_getElem? (i := 1031) (by decide +kernel), List.mem_of_getElem? (i := 1032) (by decide +kernel)⟩
theorem lw_p56 : lw_okq (⟨"GathersAllFaultsModel", "reads", "(I)Z"⟩, 54) := ⟨⟨by decide +kernel, by decide +kernel⟩, List.mem_of_getElem? (i := 784) (by decide +kernel), List.mem_of_getElem? (i := 1035) (by decide +kernel), List.mem_of_getElem? (i := 1036) (by decide +kernel)⟩
theorem lw_p57 : lw_okq (⟨"GathersAllFaultsModel", "readsField", "()Z"⟩, 54) := ⟨⟨by decide +kernel, by decide +kernel⟩, List.mem_of_getElem? (i := 784) (by decide +kernel), List.mem_of_getElem? (i := 1039) (by decide +kernel), List.mem_of_getElem? (i := 1040) (by decide +kernel)⟩
theorem lw_p58 : lw_okq (⟨"GathersAllFaultsModel", "nameNow", "()I"⟩, 54) := ⟨⟨by decide +kernel, by decide +kernel⟩, List.mem_of_getElem? (i := 784) (by decide +kernel), List.mem_of_getElem? (i := 1043) (by decide +kernel), List.mem_of_getElem? (i := 1044) (by decide +kernel)⟩
theorem lw_p59 : lw_okq (⟨"GathersAllFaultsModel", "passesCheck", "(IZ)V"⟩, 54) := ⟨⟨by decide +kernel, by decide +kernel⟩, List.mem_of_getElem? (i := 784) (by decide +kernel), List.mem_of_getElem? (i := 1054) (by decide +kernel), List.mem_of_getElem? (i := 1055) (by decide +kernel)⟩
theorem lw_p60 : lw_okq (⟨"GathersAllFaultsModel", "readsAllCheck", "()Z"⟩, 54) := ⟨⟨by decide +kernel, by decide +kernel⟩, List.mem_of_getElem? (i := 784) (by decide +kernel), List.mem_of_getElem? (i := 1058) (by decide +kernel), List.mem_of_getElem? (i := 1059) (by decide +kernel)⟩
theorem lw_p61 : lw_okq (⟨"GathersAllFaultsModel", "readsCheck", "()Z"⟩, 54) := ⟨⟨by decide +kernel, by decide +kernel⟩, List.mem_of_getElem? (i := 784) (by decide +kernel), List.mem_of_getElem? (i := 1062) (by decide +kernel), List.mem_of_getElem? (i := 1063) (by decide +kernel)⟩
theorem lw_p62 : lw_okq (⟨"GathersAllFaultsModel", "isInside", "()Z"⟩, 54) := ⟨⟨by decide +kernel, by decide +kernel⟩, List.mem_of_getElem? (i := 784) (by decide +kernel), List.mem_of_getElem? (i := 1066) (by decide +kernel), List.mem_of_getElem? (i := 1067) (by decide +kernel)⟩
theorem lw_p63 : lw_okq (⟨"GathersAllFaultsModel", "beginsCheck", "(I)I"⟩, 54) := ⟨⟨by decide +kernel, by decide +kernel⟩, List.mem_of_getElem? (i := 784) (by decide +kernel), List.mem_of_getElem? (i := 1070) (by decide +kernel), List.mem_of_getElem? (i := 1071) (by decide +kernel)⟩
def lw_privs_4 : List (MethodName × Nat) := [(⟨"GathersAllFaultsModel", "sign", "()I"⟩, 54), (⟨"GathersAllFaultsModel", "readsNumber", "()Z"⟩, 54), (⟨"GathersAllFaultsModel", "beginsPart", "(II)I"⟩, 54), (⟨"GathersAllFaultsModel", "isBad", "(I)V"⟩, 54), (⟨"GathersAllFaultsModel", "digit", "()I"⟩, 54), (⟨"GathersAllFaultsModel", "opens", "(IIZ)V"⟩, 54), (⟨"GathersAllFaultsModel", "readsInside", "()Z"⟩, 54), (⟨"GathersAllFaultsModel", "closes", "(I)Z"⟩, 54), (⟨"GathersAllFaultsModel", "reads", "(I)Z"⟩, 54), (⟨"GathersAllFaultsModel", "readsField", "()Z"⟩, 54), (⟨"GathersAllFaultsModel", "nameNow", "()I"⟩, 54), (⟨"GathersAllFaultsModel", "passesCheck", "(IZ)V"⟩, 54), (⟨"GathersAllFaultsModel", "readsAllCheck", "()Z"⟩, 54), (⟨"GathersAllFaultsModel", "readsCheck", "()Z"⟩, 54), (⟨"GathersAllFaultsModel", "isInside", "()Z"⟩, 54), (⟨"GathersAllFaultsModel", "beginsCheck", "(I)I"⟩, 54)]
theorem lw_r4 : ∀ q ∈ lw_privs_4, lw_okq q := List.forall_mem_cons.mpr ⟨lw_p48, List.forall_mem_cons.mpr ⟨lw_p49, List.forall_mem_cons.mpr ⟨lw_p50, List.forall_mem_cons.mpr ⟨lw_p51, List.forall_mem_cons.mpr ⟨lw_p52, List.forall_mem_cons.mpr ⟨lw_p53, List.forall_mem_cons.mpr ⟨lw_p54, List.forall_mem_cons.mpr ⟨lw_p55, List.forall_mem_cons.mpr ⟨lw_p56, List.forall_mem_cons.mpr ⟨lw_p57, List.forall_mem_cons.mpr ⟨lw_p58, List.forall_mem_cons.mpr ⟨lw_p59, List.forall_mem_cons.mpr ⟨lw_p60, List.forall_mem_cons.mpr ⟨lw_p61, List.forall_mem_cons.mpr ⟨lw_p62, List.forall_mem_cons.mpr ⟨lw_p63, fun _ h => absurd h List.not_mem_nil⟩⟩⟩⟩⟩⟩⟩⟩⟩⟩⟩⟩⟩⟩⟩⟩
theorem lw_p64 : lw_okq (⟨"GathersAllFaultsModel", "readsBounds", "(II)Z"⟩, 54) := ⟨⟨by decide +kernel, by decide +kernel⟩, List.mem_of_getElem? (i := 784) (by decide +kernel), List.mem_of_getElem? (i := 1074) (by decide +kernel), List.mem_of_getElem? (i := 1075) (by decide +kernel)⟩
theorem lw_p65 : lw_okq (⟨"GathersAllFaultsModel", "endsCheck", "(I)V"⟩, 54) := ⟨⟨by decide +kernel, by decide +kernel⟩, List.mem_of_getElem? (i := 784) (by decide +kernel), List.mem_of_getElem? (i := 1078) (by decide +kernel), List.mem_of_getElem? (i := 1079) (by decide +kernel)⟩
theorem lw_p66 : lw_okq (⟨"GathersAllFaultsModel", "readsInCheck", "()Z"⟩, 54) := ⟨⟨by decide +kernel, by decide +kernel⟩, List.mem_of_getElem? (i := 784) (by decide +kernel), List.mem_of_getElem? (i := 1082) (by decide +kernel), List.mem_of_getElem? (i := 1083) (by decide +kernel)⟩
theorem lw_p67 : lw_okq (⟨"GathersAllFaultsModel", "readsWaiter", "()Z"⟩, 54) := ⟨⟨by decide +kernel, by decide +kernel⟩, List.mem_of_getElem? (i := 784) (by decide +kernel), List.mem_of_getElem? (i := 1086) (by decide +kernel), List.mem_of_getElem? (i := 1087) (by decide +kernel)⟩
theorem lw_p68 : lw_okq (⟨"GathersAllFaultsModel", "closesRecord", "()Z"⟩, 54) := ⟨⟨by decide +kernel, by decide +kernel⟩, List.mem_of_getElem? (i := 784) (by decide +kernel), List.mem_of_getElem? (i := 1090) (by decide +kernel), List.mem_of_getElem? (i := 1091) (by decide +kernel)⟩
theorem lw_p69 : lw_okq (⟨"GathersAllFaultsModel", "readsCheckField", "()Z"⟩, 54) := ⟨⟨by decide +kernel, by decide +kernel⟩, List.mem_of_getElem? (i := 784) (by decide +kernel), List.mem_of_getElem? (i := 1094) (by decide +kernel), List.mem_of_getElem? (i := 1095) (by decide +kernel)⟩
theorem lw_p70 : lw_okq (⟨"GathersAllFaultsModel", "partAt", "(I)I"⟩, 54) := ⟨⟨by decide +kernel, by decide +kernel⟩, List.mem_of_getElem? (i := 784) (by decide +kernel), List.mem_of_getElem? (i := 1110) (by decide +kernel), List.mem_of_getElem? (i := 1111) (by decide +kernel)⟩
theorem lw_p71 : lw_okq (⟨"GathersAllFaultsModel", "putsAt", "(III)V"⟩, 54) := ⟨⟨by decide +kernel, by decide +kernel⟩, List.mem_of_getElem? (i := 784) (by decide +kernel), List.mem_of_getElem? (i := 1122) (by decide +kernel), List.mem_of_getElem? (i := 1123) (by decide +kernel)⟩
theorem lw_p72 : lw_okq (⟨"GathersAllFaultsModel", "takesOut", "(II)V"⟩, 54) := ⟨⟨by decide +kernel, by decide +kernel⟩, List.mem_of_getElem? (i := 784) (by decide +kernel), List.mem_of_getElem? (i := 1126) (by decide +kernel), List.mem_of_getElem? (i := 1127) (by decide +kernel)⟩
theorem lw_p73 : lw_okq (⟨"GathersAllFaultsModel", "manyNow", "()I"⟩, 54) := ⟨⟨by decide +kernel, by decide +kernel⟩, List.mem_of_getElem? (i := 784) (by decide +kernel), List.mem_of_getElem? (i := 1138) (by decide +kernel), List.mem_of_getElem? (i := 1139) (by decide +kernel)⟩
theorem lw_p74 : lw_okq (⟨"GathersAllFaultsModel", "findFaults", "()V"⟩, 54) := ⟨⟨by decide +kernel, by decide +kernel⟩, List.mem_of_getElem? (i := 784) (by decide +kernel), List.mem_of_getElem? (i := 1142) (by decide +kernel), List.mem_of_getElem? (i := 1143) (by decide +kernel)⟩
theorem lw_p75 : lw_okq (⟨"GathersAllFaultsModel", "looks", "(II)V"⟩, 54) := ⟨⟨by decide +kernel, by decide +kernel⟩, List.mem_of_getElem? (i := 784) (by decide +kernel), List.mem_of_getElem? (i := 1146) (by decide +kernel), List.mem_of_getElem? (i := 1147) (by decide +kernel)⟩
theorem lw_p76 : lw_okq (⟨"GathersAllFaultsModel", "goesOn", "(II)V"⟩, 54) := ⟨⟨by decide +kernel, by decide +kernel⟩, List.mem_of_getElem? (i := 784) (by decide +kernel), List.mem_of_getElem? (i := 1150) (by decide +kernel), List.mem_of_getElem? (i := 1151) (by decide +kernel)⟩
theorem lw_p77 : lw_okq (⟨"GathersAllFaultsModel", "findsNumber", "(II)V"⟩, 54) := ⟨⟨by decide +kernel, by decide +kernel⟩, List.mem_of_getElem? (i := 784) (by decide +kernel), List.mem_of_getElem? (i := 1154) (by decide +kernel), List.mem_of_getElem? (i := 1155) (by decide +kernel)⟩
theorem lw_p78 : lw_okq (⟨"GathersAllFaultsModel", "finds", "(II)V"⟩, 54) := ⟨⟨by decide +kernel, by decide +kernel⟩, List.mem_of_getElem? (i := 784) (by decide +kernel), List.mem_of_getElem? (i := 1158) (by decide +kernel), List.mem_of_getElem? (i := 1159) (by decide +kernel)⟩
theorem lw_p79 : lw_okq (⟨"GathersAllFaultsModel", "findsThere", "(II)V"⟩, 54) := ⟨⟨by decide +kernel, by decide +kernel⟩, List.mem_of_getElem? (i := 784) (by decide +kernel), List.mem_of_getElem? (i := 1162) (by decide +kernel), List.mem_of_getElem? (i := 1163) (by decide +kernel)⟩
def lw_privs_5 : List (MethodName × Nat) := [(⟨"GathersAllFaultsModel", "readsBounds", "(II)Z"⟩, 54), (⟨"GathersAllFaultsModel", "endsCheck", "(I)V"⟩, 54), (⟨"GathersAllFaultsModel", "readsInCheck", "()Z"⟩, 54), (⟨"GathersAllFaultsModel", "readsWaiter", "()Z"⟩, 54), (⟨"GathersAllFaultsModel", "closesRecord", "()Z"⟩, 54), (⟨"GathersAllFaultsModel", "readsCheckField", "()Z"⟩, 54), (⟨"GathersAllFaultsModel", "partAt", "(I)I"⟩, 54), (⟨"GathersAllFaultsModel", "putsAt", "(III)V"⟩, 54), (⟨"GathersAllFaultsModel", "takesOut", "(II)V"⟩, 54), (⟨"GathersAllFaultsModel", "manyNow", "()I"⟩, 54), (⟨"GathersAllFaultsModel", "findFaults", "()V"⟩, 54), (⟨"GathersAllFaultsModel", "looks", "(II)V"⟩, 54), (⟨"GathersAllFaultsModel", "goesOn", "(II)V"⟩, 54), (⟨"GathersAllFaultsModel", "findsNumber", "(II)V"⟩, 54), (⟨"GathersAllFaultsModel", "finds", "(II)V"⟩, 54), (⟨"GathersAllFaultsModel", "findsThere", "(II)V"⟩, 54)]
theorem lw_r5 : ∀ q ∈ lw_privs_5, lw_okq q := List.forall_mem_cons.mpr ⟨lw_p64, List.forall_mem_cons.mpr ⟨lw_p65, List.forall_mem_cons.mpr ⟨lw_p66, List.forall_mem_cons.mpr ⟨lw_p67, List.forall_mem_cons.mpr ⟨lw_p68, List.forall_mem_cons.mpr ⟨lw_p69, List.forall_mem_cons.mpr ⟨lw_p70, List.forall_mem_cons.mpr ⟨lw_p71, List.forall_mem_cons.mpr ⟨lw_p72, List.forall_mem_cons.mpr ⟨lw_p73, List.forall_mem_cons.mpr ⟨lw_p74, List.forall_mem_cons.mpr ⟨lw_p75, List.forall_mem_cons.mpr ⟨lw_p76, List.forall_mem_cons.mpr ⟨lw_p77, List.forall_mem_cons.mpr ⟨lw_p78, List.forall_mem_cons.mpr ⟨lw_p79, fun _ h => absurd h List.not_mem_nil⟩⟩⟩⟩⟩⟩⟩⟩⟩⟩⟩⟩⟩⟩⟩⟩
theorem lw_p80 : lw_okq (⟨"GathersAllFaultsModel", "looksAs", "(I)V"⟩, 54) := ⟨⟨by decide +kernel, by decide +kernel⟩, List.mem_of_getElem? (i := 784) (by decide +kernel), List.mem_of_getElem? (i := 1166) (by decide +kernel), List.mem_of_getElem? (i := 1167) (by decide +kernel)⟩
theorem lw_p81 : lw_okq (⟨"GathersAllFaultsModel", "findsRecord", "(II)V"⟩, 54) := ⟨⟨by decide +kernel, by decide +kernel⟩, List.mem_of_getElem? (i := 784) (by decide +kernel), List.mem_of_getElem? (i := 1170) (by decide +kernel), List.mem_of_getElem? (i := 1171) (by decide +kernel)⟩
theorem lw_p82 : lw_okq (⟨"GathersAllFaultsModel", "fieldAt", "(II)I"⟩, 54) := ⟨⟨by decide +kernel, by decide +kernel⟩, List.mem_of_getElem? (i := 784) (by decide +kernel), List.mem_of_getElem? (i := 1174) (by decide +kernel), List.mem_of_getElem? (i := 1175) (by decide +kernel)⟩
theorem lw_p83 : lw_okq (⟨"GathersAllFaultsModel", "endsRecord", "(II)V"⟩, 54) := ⟨⟨by decide +kernel, by decide +kernel⟩, List.mem_of_getElem? (i := 784) (by decide +kernel), List.mem_of_getElem? (i := 1178) (by decide +kernel), List.mem_of_getElem? (i := 1179) (by decide +kernel)⟩
theorem lw_p84 : lw_okq (⟨"GathersAllFaultsModel", "findsMore", "(II)V"⟩, 54) := ⟨⟨by decide +kernel, by decide +kernel⟩, List.mem_of_getElem? (i := 784) (by decide +kernel), List.mem_of_getElem? (i := 1182) (by decide +kernel), List.mem_of_getElem? (i := 1183) (by decide +kernel)⟩
theorem lw_p85 : lw_okq (⟨"GathersAllFaultsModel", "childOf", "(II)I"⟩, 54) := ⟨⟨by decide +kernel, by decide +kernel⟩, List.mem_of_getElem? (i := 784) (by decide +kernel), List.mem_of_getElem? (i := 1186) (by decide +kernel), List.mem_of_getElem? (i := 1187) (by decide +kernel)⟩
theorem lw_p86 : lw_okq (⟨"GathersAllFaultsModel", "isToldField", "(II)Z"⟩, 54) := ⟨⟨by decide +kernel, by decide +kernel⟩, List.mem_of_getElem? (i := 784) (by decide +kernel), List.mem_of_getElem? (i := 1190) (by decide +kernel), List.mem_of_getElem? (i := 1191) (by decide +kernel)⟩
theorem lw_p87 : lw_okq (⟨"GathersAllFaultsModel", "findsWaiter", "(III)V"⟩, 54) := ⟨⟨by decide +kernel, by decide +kernel⟩, List.mem_of_getElem? (i := 784) (by decide +kernel), List.mem_of_getElem? (i := 1194) (by decide +kernel), List.mem_of_getElem? (i := 1195) (by decide +kernel)⟩
theorem lw_p88 : lw_okq (⟨"GathersAllFaultsModel", "fieldOf", "(II)I"⟩, 54) := ⟨⟨by decide +kernel, by decide +kernel⟩, List.mem_of_getElem? (i := 784) (by decide +kernel), List.mem_of_getElem? (i := 1198) (by decide +kernel), List.mem_of_getElem? (i := 1199) (by decide +kernel)⟩
theorem lw_p89 : lw_okq (⟨"GathersAllFaultsModel", "isAnyBelow", "(II)Z"⟩, 54) := ⟨⟨by decide +kernel, by decide +kernel⟩, List.mem_of_getElem? (i := 784) (by decide +kernel), List.mem_of_getElem? (i := 1202) (by decide +kernel), List.mem_of_getElem? (i := 1203) (by decide +kernel)⟩
theorem lw_p90 : lw_okq (⟨"GathersAllFaultsModel", "isLess", "(II)Z"⟩, 54) := ⟨⟨by decide +kernel, by decide +kernel⟩, List.mem_of_getElem? (i := 784) (by decide +kernel), List.mem_of_getElem? (i := 1209) (by decide +kernel), List.mem_of_getElem? (i := 1210) (by decide +kernel)⟩
theorem lw_p91 : lw_okq (⟨"GathersAllFaultsModel", "areSame", "(II)Z"⟩, 54) := ⟨⟨by decide +kernel, by decide +kernel⟩, List.mem_of_getElem? (i := 784) (by decide +kernel), List.mem_of_getElem? (i := 1213) (by decide +kernel), List.mem_of_getElem? (i := 1214) (by decide +kernel)⟩
theorem lw_p92 : lw_okq (⟨"GathersAllFaultsModel", "hasAlike", "(III)Z"⟩, 54) := ⟨⟨by decide +kernel, by decide +kernel⟩, List.mem_of_getElem? (i := 784) (by decide +kernel), List.mem_of_getElem? (i := 1217) (by decide +kernel), List.mem_of_getElem? (i := 1218) (by decide +kernel)⟩
theorem lw_p93 : lw_okq (⟨"GathersAllFaultsModel", "findsList", "(II)V"⟩, 54) := ⟨⟨by decide +kernel, by decide +kernel⟩, List.mem_of_getElem? (i := 784) (by decide +kernel), List.mem_of_getElem? (i := 1224) (by decide +kernel), List.mem_of_getElem? (i := 1225) (by decide +kernel)⟩
theorem lw_p94 : lw_okq (⟨"GathersAllFaultsModel", "findsAgain", "(II)V"⟩, 54) := ⟨⟨by decide +kernel, by decide +kernel⟩, List.mem_of_getElem? (i := 784) (by decide +kernel), List.mem_of_getElem? (i := 1228) (by decide +kernel), List.mem_of_getElem? (i := 1229) (by decide +kernel)⟩
theorem lw_p95 : lw_okq (⟨"GathersAllFaultsModel", "isAgain", "(II)Z"⟩, 54) := ⟨⟨by decide +kernel, by decide +kernel⟩, List.mem_of_getElem? (i := 784) (by decide +kernel), List.mem_of_getElem? (i := 1232) (by decide +kernel), List.mem_of_getElem? (i := 1233) (by decide +kernel)⟩
def lw_privs_6 : List (MethodName × Nat) := [(⟨"GathersAllFaultsModel", "looksAs", "(I)V"⟩, 54), (⟨"GathersAllFaultsModel", "findsRecord", "(II)V"⟩, 54), (⟨"GathersAllFaultsModel", "fieldAt", "(II)I"⟩, 54), (⟨"GathersAllFaultsModel", "endsRecord", "(II)V"⟩, 54), (⟨"GathersAllFaultsModel", "findsMore", "(II)V"⟩, 54), (⟨"GathersAllFaultsModel", "childOf", "(II)I"⟩, 54), (⟨"GathersAllFaultsModel", "isToldField", "(II)Z"⟩, 54), (⟨"GathersAllFaultsModel", "findsWaiter", "(III)V"⟩, 54), (⟨"GathersAllFaultsModel", "fieldOf", "(II)I"⟩, 54), (⟨"GathersAllFaultsModel", "isAnyBelow", "(II)Z"⟩, 54), (⟨"GathersAllFaultsModel", "isLess", "(II)Z"⟩, 54), (⟨"GathersAllFaultsModel", "areSame", "(II)Z"⟩, 54), (⟨"GathersAllFaultsModel", "hasAlike", "(III)Z"⟩, 54), (⟨"GathersAllFaultsModel", "findsList", "(II)V"⟩, 54), (⟨"GathersAllFaultsModel", "findsAgain", "(II)V"⟩, 54), (⟨"GathersAllFaultsModel", "isAgain", "(II)Z"⟩, 54)]
theorem lw_r6 : ∀ q ∈ lw_privs_6, lw_okq q := List.forall_mem_cons.mpr ⟨lw_p80, List.forall_mem_cons.mpr ⟨lw_p81, List.forall_mem_cons.mpr ⟨lw_p82, List.forall_mem_cons.mpr ⟨lw_p83, List.forall_mem_cons.mpr ⟨lw_p84, List.forall_mem_cons.mpr ⟨lw_p85, List.forall_mem_cons.mpr ⟨lw_p86, List.forall_mem_cons.mpr ⟨lw_p87, List.forall_mem_cons.mpr ⟨lw_p88, List.forall_mem_cons.mpr ⟨lw_p89, List.forall_mem_cons.mpr ⟨lw_p90, List.forall_mem_cons.mpr ⟨lw_p91, List.forall_mem_cons.mpr ⟨lw_p92, List.forall_mem_cons.mpr ⟨lw_p93, List.forall_mem_cons.mpr ⟨lw_p94, List.forall_mem_cons.mpr ⟨lw_p95, fun _ h => absurd h List.not_mem_nil⟩⟩⟩⟩⟩⟩⟩⟩⟩⟩⟩⟩⟩⟩⟩⟩
theorem lw_p96 : lw_okq (⟨"GathersAllFaultsModel", "findsEither", "(II)V"⟩, 54) := ⟨⟨by decide +kernel, by decide +kernel⟩, List.mem_of_getElem? (i := 784) (by decide +kernel), List.mem_of_getElem? (i := 1236) (by decide +kernel), List.mem_of_getElem? (i := 1237) (by decide +kernel)⟩
theorem lw_p97 : lw_okq (⟨"GathersAllFaultsModel", "endsEither", "()V"⟩, 54) := ⟨⟨by decide +kernel, by decide +kernel⟩, List.mem_of_getElem? (i := 784) (by decide +kernel), List.mem_of_getElem? (i := 1240) (by decide +kernel), List.mem_of_getElem? (i := 1241) (by decide +kernel)⟩
theorem lw_p98 : lw_okq (⟨"GathersAllFaultsModel", "takesSecond", "(II)V"⟩, 54) := ⟨⟨by decide +kernel, by decide +kernel⟩, List.mem_of_getElem? (i := 784) (by decide +kernel), List.mem_of_getElem? (i := 1244) (by decide +kernel), List.mem_of_getElem? (i := 1245) (by decide +kernel)⟩
theorem lw_p99 : lw_okq (⟨"GathersAllFaultsModel", "toldAt", "(I)I"⟩, 54) := ⟨⟨by decide +kernel, by decide +kernel⟩, List.mem_of_getElem? (i := 784) (by decide +kernel), List.mem_of_getElem? (i := 1269) (by decide +kernel), List.mem_of_getElem? (i := 1270) (by decide +kernel)⟩
theorem lw_p100 : lw_okq (⟨"GathersAllFaultsModel", "allNumbers", "()I"⟩, 54) := ⟨⟨by decide +kernel, by decide +kernel⟩, List.mem_of_getElem? (i := 784) (by decide +kernel), List.mem_of_getElem? (i := 1281) (by decide +kernel), List.mem_of_getElem? (i := 1282) (by decide +kernel)⟩
theorem lw_p101 : lw_okq (⟨"GathersAllFaultsModel", "alike", "(II)I"⟩, 54) := ⟨⟨by decide +kernel, by decide +kernel⟩, List.mem_of_getElem? (i := 784) (by decide +kernel), List.mem_of_getElem? (i := 1293) (by decide +kernel), List.mem_of_getElem? (i := 1294) (by decide +kernel)⟩
theorem lw_p102 : lw_okq (⟨"GathersAllFaultsModel", "minds", "()V"⟩, 54) := ⟨⟨by decide +kernel, by decide +kernel⟩, List.mem_of_getElem? (i := 784) (by decide +kernel), List.mem_of_getElem? (i := 1305) (by decide +kernel), List.mem_of_getElem? (i := 1306) (by decide +kernel)⟩
theorem lw_p103 : lw_okq (⟨"GathersAllFaultsModel", "leavesOut", "(I)V"⟩, 54) := ⟨⟨by decide +kernel, by decide +kernel⟩, List.mem_of_getElem? (i := 784) (by decide +kernel), List.mem_of_getElem? (i := 1309) (by decide +kernel), List.mem_of_getElem? (i := 1310) (by decide +kernel)⟩
theorem lw_p104 : lw_okq (⟨"GathersAllFaultsModel", "forgets", "()V"⟩, 54) := ⟨⟨by decide +kernel, by decide +kernel⟩, List.mem_of_getElem? (i := 784) (by decide +kernel), List.mem_of_getElem? (i := 1313) (by decide +kernel), List.mem_of_getElem? (i := 1314) (by decide +kernel)⟩
theorem lw_p105 : lw_okq (⟨"GathersAllFaultsModel", "faultsWith", "(II)I"⟩, 54) := ⟨⟨by decide +kernel, by decide +kernel⟩, List.mem_of_getElem? (i := 784) (by decide +kernel), List.mem_of_getElem? (i := 1321) (by decide +kernel), List.mem_of_getElem? (i := 1322) (by decide +kernel)⟩
theorem lw_p106 : lw_okq (⟨"GathersAllFaultsModel", "lowestOf", "(I)J"⟩, 54) := ⟨⟨by decide +kernel, by decide +kernel⟩, List.mem_of_getElem? (i := 784) (by decide +kernel), List.mem_of_getElem? (i := 1333) (by decide +kernel), List.mem_of_getElem? (i := 1334) (by decide +kernel)⟩
theorem lw_p107 : lw_okq (⟨"GathersAllFaultsModel", "numbersUpTo", "(I)I"⟩, 54) := ⟨⟨by decide +kernel, by decide +kernel⟩, List.mem_of_getElem? (i := 784) (by decide +kernel), List.mem_of_getElem? (i := 1338) (by decide +kernel), List.mem_of_getElem? (i := 1339) (by decide +kernel)⟩
theorem lw_p108 : lw_okq (⟨"GathersAllFaultsModel", "losesSome", "(I)V"⟩, 54) := ⟨⟨by decide +kernel, by decide +kernel⟩, List.mem_of_getElem? (i := 784) (by decide +kernel), List.mem_of_getElem? (i := 1342) (by decide +kernel), List.mem_of_getElem? (i := 1343) (by decide +kernel)⟩
theorem lw_p109 : lw_okq (⟨"GathersAllFaultsModel", "isCodedSo", "()Z"⟩, 54) := ⟨⟨by decide +kernel, by decide +kernel⟩, List.mem_of_getElem? (i := 784) (by decide +kernel), List.mem_of_getElem? (i := 1360) (by decide +kernel), List.mem_of_getElem? (i := 1361) (by decide +kernel)⟩
theorem lw_p110 : lw_okq (⟨"GathersAllFaultsModel", "changesByLot", "()V"⟩, 54) := ⟨⟨by decide +kernel, by decide +kernel⟩, List.mem_of_getElem? (i := 784) (by decide +kernel), List.mem_of_getElem? (i := 1380) (by decide +kernel), List.mem_of_getElem? (i := 1381) (by decide +kernel)⟩
theorem lw_p111 : lw_okq (⟨"GathersAllFaultsModel", "draw", "(I)I"⟩, 54) := ⟨⟨by decide +kernel, by decide +kernel⟩, List.mem_of_getElem? (i := 784) (by decide +kernel), List.mem_of_getElem? (i := 1384) (by decide +kernel), List.mem_of_getElem? (i := 1385) (by decide +kernel)⟩
def lw_privs_7 : List (MethodName × Nat) := [(⟨"GathersAllFaultsModel", "findsEither", "(II)V"⟩, 54), (⟨"GathersAllFaultsModel", "endsEither", "()V"⟩, 54), (⟨"GathersAllFaultsModel", "takesSecond", "(II)V"⟩, 54), (⟨"GathersAllFaultsModel", "toldAt", "(I)I"⟩, 54), (⟨"GathersAllFaultsModel", "allNumbers", "()I"⟩, 54), (⟨"GathersAllFaultsModel", "alike", "(II)I"⟩, 54), (⟨"GathersAllFaultsModel", "minds", "()V"⟩, 54), (⟨"GathersAllFaultsModel", "leavesOut", "(I)V"⟩, 54), (⟨"GathersAllFaultsModel", "forgets", "()V"⟩, 54), (⟨"GathersAllFaultsModel", "faultsWith", "(II)I"⟩, 54), (⟨"GathersAllFaultsModel", "lowestOf", "(I)J"⟩, 54), (⟨"GathersAllFaultsModel", "numbersUpTo", "(I)I"⟩, 54), (⟨"GathersAllFaultsModel", "losesSome", "(I)V"⟩, 54), (⟨"GathersAllFaultsModel", "isCodedSo", "()Z"⟩, 54), (⟨"GathersAllFaultsModel", "changesByLot", "()V"⟩, 54), (⟨"GathersAllFaultsModel", "draw", "(I)I"⟩, 54)]
theorem lw_r7 : ∀ q ∈ lw_privs_7, lw_okq q := List.forall_mem_cons.mpr ⟨lw_p96, List.forall_mem_cons.mpr ⟨lw_p97, List.forall_mem_cons.mpr ⟨lw_p98, List.forall_mem_cons.mpr ⟨lw_p99, List.forall_mem_cons.mpr ⟨lw_p100, List.forall_mem_cons.mpr ⟨lw_p101, List.forall_mem_cons.mpr ⟨lw_p102, List.forall_mem_cons.mpr ⟨lw_p103, List.forall_mem_cons.mpr ⟨lw_p104, List.forall_mem_cons.mpr ⟨lw_p105, List.forall_mem_cons.mpr ⟨lw_p106, List.forall_mem_cons.mpr ⟨lw_p107, List.forall_mem_cons.mpr ⟨lw_p108, List.forall_mem_cons.mpr ⟨lw_p109, List.forall_mem_cons.mpr ⟨lw_p110, List.forall_mem_cons.mpr ⟨lw_p111, fun _ h => absurd h List.not_mem_nil⟩⟩⟩⟩⟩⟩⟩⟩⟩⟩⟩⟩⟩⟩⟩⟩
theorem lw_p112 : lw_okq (⟨"GathersAllFaultsModel", "greatestPath", "()I"⟩, 54) := ⟨⟨by decide +kernel, by decide +kernel⟩, List.mem_of_getElem? (i := 784) (by decide +kernel), List.mem_of_getElem? (i := 1395) (by decide +kernel), List.mem_of_getElem? (i := 1396) (by decide +kernel)⟩
def lw_privs_8 : List (MethodName × Nat) := [(⟨"GathersAllFaultsModel", "greatestPath", "()I"⟩, 54)]
theorem lw_r8 : ∀ q ∈ lw_privs_8, lw_okq q := List.forall_mem_cons.mpr ⟨lw_p112, fun _ h => absurd h List.not_mem_nil⟩
def lw_privs : List (MethodName × Nat) := lw_privs_1 ++ (lw_privs_2 ++ (lw_privs_3 ++ (lw_privs_4 ++ (lw_privs_5 ++ (lw_privs_6 ++ (lw_privs_7 ++ (lw_privs_8)))))))
def lw_tbl : List Cond := k2_sels lw_privs ++ tables_1
theorem lw_privs_ok : ∀ q ∈ lw_privs, lw_okq q := by
  show ∀ q ∈ lw_privs_1 ++ (lw_privs_2 ++ (lw_privs_3 ++ (lw_privs_4 ++ (lw_privs_5 ++ (lw_privs_6 ++ (lw_privs_7 ++ (lw_privs_8))))))), lw_okq q
  exact List.forall_mem_append.mpr ⟨lw_r1, List.forall_mem_append.mpr ⟨lw_r2, List.forall_mem_append.mpr ⟨lw_r3, List.forall_mem_append.mpr ⟨lw_r4, List.forall_mem_append.mpr ⟨lw_r5, List.forall_mem_append.mpr ⟨lw_r6, List.forall_mem_append.mpr ⟨lw_r7, lw_r8⟩⟩⟩⟩⟩⟩⟩
-- ===== end of PART A; then your names; then what follows =====
end
section
def R0_ : String := "GathersAllFaults$CheckReader"
def T0_ : u_T := fun k => match k with
  | 0 => ("GathersAllFaults$Reader", "open", "[I", true)
  | 1 => ("GathersAllFaults$Reader", "height", "I", false)
  | 2 => ("GathersAllFaults$Reader", "state", "I", false)
  | 3 => ("GathersAllFaults$Reader", "lone", "Z", false)
  | 4 => ("GathersAllFaults$CheckReader", "made", "LGathersAllFaults$Plan;", true)
  | 5 => ("GathersAllFaults$CheckReader", "wanting", "[I", true)
  | 6 => ("GathersAllFaults$CheckReader", "owed", "I", false)
  | 7 => ("GathersAllFaults$CheckReader", "leads", "Z", false)
  | 8 => ("GathersAllFaults$CheckReader", "returns", "I", false)
  | 9 => ("GathersAllFaults$CheckReader", "digit", "I", false)
  | _ => ("GathersAllFaults$CheckReader", "free", "I", false)
def ty0_ : Nat → FieldType := fun k => match k with
  | 0 => .array .int
  | 1 => .int
  | 2 => .int
  | 3 => .boolean
  | 4 => .object "GathersAllFaults$Plan"
  | 5 => .array .int
  | 6 => .int
  | 7 => .boolean
  | 8 => .int
  | 9 => .int
  | _ => .int
theorem nm0_ : ∀ a, a < 11 → ∀ b, b < 11 → a ≠ b → (T0_ a).2.1 ≠ (T0_ b).2.1 := by decide +kernel
theorem ty0_ok : ∀ k, k < 11 → parseFieldDescriptor (T0_ k).2.2.1 = some (ty0_ k) := by decide +kernel
def R1_ : String := "GathersAllFaults$Gatherer"
def T1_ : u_T := fun k => match k with
  | 0 => ("GathersAllFaults$Gatherer", "plan", "LGathersAllFaults$Plan;", true)
  | 1 => ("GathersAllFaults$Gatherer", "tree", "LGathersAllFaults$Tree;", false)
  | 2 => ("GathersAllFaults$Gatherer", "found", "[I", true)
  | 3 => ("GathersAllFaults$Gatherer", "size", "I", false)
  | _ => ("GathersAllFaults$Gatherer", "waiting", "I", false)
def ty1_ : Nat → FieldType := fun k => match k with
  | 0 => .object "GathersAllFaults$Plan"
  | 1 => .object "GathersAllFaults$Tree"
  | 2 => .array .int
  | 3 => .int
  | _ => .int
theorem nm1_ : ∀ a, a < 5 → ∀ b, b < 5 → a ≠ b → (T1_ a).2.1 ≠ (T1_ b).2.1 := by decide +kernel
theorem ty1_ok : ∀ k, k < 5 → parseFieldDescriptor (T1_ k).2.2.1 = some (ty1_ k) := by decide +kernel
def R2_ : String := "GathersAllFaults$Plan"
def T2_ : u_T := fun k => match k with
  | 0 => ("GathersAllFaults$Plan", "sign", "[I", true)
  | 1 => ("GathersAllFaults$Plan", "low", "[I", true)
  | 2 => ("GathersAllFaults$Plan", "high", "[I", true)
  | 3 => ("GathersAllFaults$Plan", "span", "[I", true)
  | 4 => ("GathersAllFaults$Plan", "digit", "[I", true)
  | 5 => ("GathersAllFaults$Plan", "free", "[I", true)
  | 6 => ("GathersAllFaults$Plan", "fields", "[I", true)
  | 7 => ("GathersAllFaults$Plan", "names", "[I", true)
  | 8 => ("GathersAllFaults$Plan", "firstDependent", "[I", true)
  | 9 => ("GathersAllFaults$Plan", "dependents", "[I", true)
  | 10 => ("GathersAllFaults$Plan", "dependentSign", "[I", true)
  | 11 => ("GathersAllFaults$Plan", "dependentOne", "[I", true)
  | 12 => ("GathersAllFaults$Plan", "dependentOther", "[I", true)
  | 13 => ("GathersAllFaults$Plan", "size", "I", false)
  | _ => ("GathersAllFaults$Plan", "dependentCount", "I", false)
def ty2_ : Nat → FieldType := fun k => match k with
  | 0 => .array .int
  | 1 => .array .int
  | 2 => .array .int
  | 3 => .array .int
  | 4 => .array .int
  | 5 => .array .int
  | 6 => .array .int
  | 7 => .array .int
  | 8 => .array .int
  | 9 => .array .int
  | 10 => .array .int
  | 11 => .array .int
  | 12 => .array .int
  | 13 => .int
  | _ => .int
theorem nm2_ : ∀ a, a < 15 → ∀ b, b < 15 → a ≠ b → (T2_ a).2.1 ≠ (T2_ b).2.1 := by decide +kernel
theorem ty2_ok : ∀ k, k < 15 → parseFieldDescriptor (T2_ k).2.2.1 = some (ty2_ k) := by decide +kernel
def R3_ : String := "GathersAllFaults$Tree"
def T3_ : u_T := fun k => match k with
  | 0 => ("GathersAllFaults$Tree", "kind", "[I", true)
  | 1 => ("GathersAllFaults$Tree", "num", "[I", true)
  | 2 => ("GathersAllFaults$Tree", "kids", "[I", true)
  | 3 => ("GathersAllFaults$Tree", "digit", "[I", true)
  | 4 => ("GathersAllFaults$Tree", "span", "[I", true)
  | 5 => ("GathersAllFaults$Tree", "road", "[I", true)
  | _ => ("GathersAllFaults$Tree", "size", "I", false)
def ty3_ : Nat → FieldType := fun k => match k with
  | 0 => .array .int
  | 1 => .array .int
  | 2 => .array .int
  | 3 => .array .int
  | 4 => .array .int
  | 5 => .array .int
  | _ => .int
theorem nm3_ : ∀ a, a < 7 → ∀ b, b < 7 → a ≠ b → (T3_ a).2.1 ≠ (T3_ b).2.1 := by decide +kernel
theorem ty3_ok : ∀ k, k < 7 → parseFieldDescriptor (T3_ k).2.2.1 = some (ty3_ k) := by decide +kernel
def R4_ : String := "GathersAllFaults$ValueReader"
def T4_ : u_T := fun k => match k with
  | 0 => ("GathersAllFaults$Reader", "open", "[I", true)
  | 1 => ("GathersAllFaults$Reader", "height", "I", false)
  | 2 => ("GathersAllFaults$Reader", "state", "I", false)
  | 3 => ("GathersAllFaults$Reader", "lone", "Z", false)
  | 4 => ("GathersAllFaults$ValueReader", "made", "LGathersAllFaults$Tree;", true)
  | _ => ("GathersAllFaults$ValueReader", "digit", "I", false)
def ty4_ : Nat → FieldType := fun k => match k with
  | 0 => .array .int
  | 1 => .int
  | 2 => .int
  | 3 => .boolean
  | 4 => .object "GathersAllFaults$Tree"
  | _ => .int
theorem nm4_ : ∀ a, a < 6 → ∀ b, b < 6 → a ≠ b → (T4_ a).2.1 ≠ (T4_ b).2.1 := by decide +kernel
theorem ty4_ok : ∀ k, k < 6 → parseFieldDescriptor (T4_ k).2.2.1 = some (ty4_ k) := by decide +kernel
def R5_ : String := "GathersAllFaults"
def T5_ : u_T := fun k => match k with
  | 0 => ("GathersAllFaults", "now", "LGathersAllFaults$Tree;", true)
  | 1 => ("GathersAllFaults", "trial", "LGathersAllFaults$Tree;", true)
  | 2 => ("GathersAllFaults", "gatherer", "LGathersAllFaults$Gatherer;", true)
  | 3 => ("GathersAllFaults", "valueReader", "LGathersAllFaults$ValueReader;", true)
  | 4 => ("GathersAllFaults", "checkReader", "LGathersAllFaults$CheckReader;", true)
  | 5 => ("GathersAllFaults", "letters", "[I", true)
  | 6 => ("GathersAllFaults", "letterCount", "I", false)
  | 7 => ("GathersAllFaults", "told", "[I", true)
  | 8 => ("GathersAllFaults", "toldCount", "I", false)
  | 9 => ("GathersAllFaults", "refusals", "[I", true)
  | 10 => ("GathersAllFaults", "imageTree", "LGathersAllFaults$Tree;", true)
  | 11 => ("GathersAllFaults", "imagePlan", "LGathersAllFaults$Plan;", true)
  | 12 => ("GathersAllFaults", "imaged", "Z", false)
  | _ => ("GathersAllFaults", "seed", "I", false)
def ty5_ : Nat → FieldType := fun k => match k with
  | 0 => .object "GathersAllFaults$Tree"
  | 1 => .object "GathersAllFaults$Tree"
  | 2 => .object "GathersAllFaults$Gatherer"
  | 3 => .object "GathersAllFaults$ValueReader"
  | 4 => .object "GathersAllFaults$CheckReader"
  | 5 => .array .int
  | 6 => .int
  | 7 => .array .int
  | 8 => .int
  | 9 => .array .int
  | 10 => .object "GathersAllFaults$Tree"
  | 11 => .object "GathersAllFaults$Plan"
  | 12 => .boolean
  | _ => .int
theorem nm5_ : ∀ a, a < 14 → ∀ b, b < 14 → a ≠ b → (T5_ a).2.1 ≠ (T5_ b).2.1 := by decide +kernel
theorem ty5_ok : ∀ k, k < 14 → parseFieldDescriptor (T5_ k).2.2.1 = some (ty5_ k) := by decide +kernel
def R6_ : String := "GathersAllFaultsModel"
def T6_ : u_T := fun k => match k with
  | 0 => ("GathersAllFaultsModel", "refused", "[I", true)
  | 1 => ("GathersAllFaultsModel", "sort", "[I", true)
  | 2 => ("GathersAllFaultsModel", "number", "[I", true)
  | 3 => ("GathersAllFaultsModel", "name", "[I", true)
  | 4 => ("GathersAllFaultsModel", "size", "[I", true)
  | 5 => ("GathersAllFaultsModel", "path", "[I", true)
  | 6 => ("GathersAllFaultsModel", "parts", "I", false)
  | 7 => ("GathersAllFaultsModel", "kindOf", "[I", true)
  | 8 => ("GathersAllFaultsModel", "lowOf", "[I", true)
  | 9 => ("GathersAllFaultsModel", "highOf", "[I", true)
  | 10 => ("GathersAllFaultsModel", "firstOf", "[I", true)
  | 11 => ("GathersAllFaultsModel", "secondOf", "[I", true)
  | 12 => ("GathersAllFaultsModel", "fieldOwner", "[I", true)
  | 13 => ("GathersAllFaultsModel", "fieldName", "[I", true)
  | 14 => ("GathersAllFaultsModel", "fieldMay", "[I", true)
  | 15 => ("GathersAllFaultsModel", "fieldCheck", "[I", true)
  | 16 => ("GathersAllFaultsModel", "waiterOwner", "[I", true)
  | 17 => ("GathersAllFaultsModel", "waiterKind", "[I", true)
  | 18 => ("GathersAllFaultsModel", "waiterOne", "[I", true)
  | 19 => ("GathersAllFaultsModel", "waiterOther", "[I", true)
  | 20 => ("GathersAllFaultsModel", "checks", "I", false)
  | 21 => ("GathersAllFaultsModel", "fields", "I", false)
  | 22 => ("GathersAllFaultsModel", "waiters", "I", false)
  | 23 => ("GathersAllFaultsModel", "wholes", "I", false)
  | 24 => ("GathersAllFaultsModel", "faultPath", "[I", true)
  | 25 => ("GathersAllFaultsModel", "faultCode", "[I", true)
  | 26 => ("GathersAllFaultsModel", "lookCheck", "[I", true)
  | 27 => ("GathersAllFaultsModel", "lookPart", "[I", true)
  | 28 => ("GathersAllFaultsModel", "lookPhase", "[I", true)
  | 29 => ("GathersAllFaultsModel", "lookMark", "[I", true)
  | 30 => ("GathersAllFaultsModel", "lookWaits", "[I", true)
  | 31 => ("GathersAllFaultsModel", "lookEnd", "[I", true)
  | 32 => ("GathersAllFaultsModel", "lookEndWaits", "[I", true)
  | 33 => ("GathersAllFaultsModel", "found", "I", false)
  | 34 => ("GathersAllFaultsModel", "waiting", "I", false)
  | 35 => ("GathersAllFaultsModel", "deep", "I", false)
  | 36 => ("GathersAllFaultsModel", "tape", "[I", true)
  | 37 => ("GathersAllFaultsModel", "openAt", "[I", true)
  | 38 => ("GathersAllFaultsModel", "openSort", "[I", true)
  | 39 => ("GathersAllFaultsModel", "openNames", "[I", true)
  | 40 => ("GathersAllFaultsModel", "openMany", "[I", true)
  | 41 => ("GathersAllFaultsModel", "openInside", "[I", true)
  | 42 => ("GathersAllFaultsModel", "taped", "I", false)
  | 43 => ("GathersAllFaultsModel", "reading", "I", false)
  | 44 => ("GathersAllFaultsModel", "badAt", "I", false)
  | 45 => ("GathersAllFaultsModel", "open", "I", false)
  | 46 => ("GathersAllFaultsModel", "nameTold", "I", false)
  | 47 => ("GathersAllFaultsModel", "kept", "[I", true)
  | 48 => ("GathersAllFaultsModel", "hasImage", "Z", false)
  | 49 => ("GathersAllFaultsModel", "isKeeping", "Z", false)
  | 50 => ("GathersAllFaultsModel", "cursor", "I", false)
  | 51 => ("GathersAllFaultsModel", "row", "[I", true)
  | 52 => ("GathersAllFaultsModel", "rowMany", "I", false)
  | _ => ("GathersAllFaultsModel", "lots", "I", false)
def ty6_ : Nat → FieldType := fun k => match k with
  | 0 => .array .int
  | 1 => .array .int
  | 2 => .array .int
  | 3 => .array .int
  | 4 => .array .int
  | 5 => .array .int
  | 6 => .int
  | 7 => .array .int
  | 8 => .array .int
  | 9 => .array .int
  | 10 => .array .int
  | 11 => .array .int
  | 12 => .array .int
  | 13 => .array .int
  | 14 => .array .int
  | 15 => .array .int
  | 16 => .array .int
  | 17 => .array .int
  | 18 => .array .int
  | 19 => .array .int
  | 20 => .int
  | 21 => .int
  | 22 => .int
  | 23 => .int
  | 24 => .array .int
  | 25 => .array .int
  | 26 => .array .int
  | 27 => .array .int
  | 28 => .array .int
  | 29 => .array .int
  | 30 => .array .int
  | 31 => .array .int
  | 32 => .array .int
  | 33 => .int
  | 34 => .int
  | 35 => .int
  | 36 => .array .int
  | 37 => .array .int
  | 38 => .array .int
  | 39 => .array .int
  | 40 => .array .int
  | 41 => .array .int
  | 42 => .int
  | 43 => .int
  | 44 => .int
  | 45 => .int
  | 46 => .int
  | 47 => .array .int
  | 48 => .boolean
  | 49 => .boolean
  | 50 => .int
  | 51 => .array .int
  | 52 => .int
  | _ => .int
theorem nm6_ : ∀ a, a < 54 → ∀ b, b < 54 → a ≠ b → (T6_ a).2.1 ≠ (T6_ b).2.1 := by decide +kernel
theorem ty6_ok : ∀ k, k < 54 → parseFieldDescriptor (T6_ k).2.2.1 = some (ty6_ k) := by decide +kernel
abbrev classes : List vw_C := [(R0_, T0_, 11), (R1_, T1_, 5), (R2_, T2_, 15), (R3_, T3_, 7), (R4_, T4_, 6), (R5_, T5_, 14), (R6_, T6_, 54)]
def fs0_ : List (Nat × Nat × (Nat ⊕ Nat)) := [(1, 1, .inr 96), (0, 0, .inl 0), (0, 0, .inl 0), (3, 0, .inl 0), (1, 2, .inl 2), (1, 16, .inr 96), (0, 0, .inl 0), (3, 0, .inl 0), (0, 0, .inl 0), (0, 0, .inl 0), (0, 0, .inl 0)]
def fs1_ : List (Nat × Nat × (Nat ⊕ Nat)) := [(1, 1, .inl 2), (2, 0, .inl 3), (1, 22, .inr 6144), (0, 0, .inl 0), (0, 0, .inl 0)]
def fs2_ : List (Nat × Nat × (Nat ⊕ Nat)) := [(1, 1, .inr 24), (1, 2, .inr 24), (1, 3, .inr 24), (1, 4, .inr 24), (1, 5, .inr 24), (1, 6, .inr 24), (1, 7, .inr 24), (1, 8, .inr 24), (1, 9, .inr 24), (1, 10, .inr 24), (1, 11, .inr 32), (1, 12, .inr 32), (1, 13, .inr 32), (0, 0, .inl 0), (0, 0, .inl 0)]
def fs3_ : List (Nat × Nat × (Nat ⊕ Nat)) := [(1, 1, .inr 20), (1, 2, .inr 20), (1, 3, .inr 20), (1, 4, .inr 20), (1, 5, .inr 20), (1, 6, .inr 20), (0, 0, .inl 0)]
def fs4_ : List (Nat × Nat × (Nat ⊕ Nat)) := [(1, 1, .inr 96), (0, 0, .inl 0), (0, 0, .inl 0), (3, 0, .inl 0), (1, 2, .inl 3), (0, 0, .inl 0)]
def fs5_ : List (Nat × Nat × (Nat ⊕ Nat)) := [(1, 1, .inl 3), (1, 8, .inl 3), (1, 15, .inl 1), (1, 38, .inl 4), (1, 47, .inl 0), (1, 64, .inr 96), (0, 0, .inl 0), (1, 65, .inr 32), (0, 0, .inl 0), (1, 66, .inr 7), (1, 67, .inl 3), (1, 74, .inl 2), (3, 0, .inl 0), (0, 0, .inl 0)]
def fs6_ : List (Nat × Nat × (Nat ⊕ Nat)) := [(1, 1, .inr 7), (1, 2, .inr 21), (1, 3, .inr 21), (1, 4, .inr 21), (1, 5, .inr 21), (1, 6, .inr 21), (0, 0, .inl 0), (1, 7, .inr 25), (1, 8, .inr 25), (1, 9, .inr 25), (1, 10, .inr 25), (1, 11, .inr 25), (1, 12, .inr 25), (1, 13, .inr 25), (1, 14, .inr 25), (1, 15, .inr 25), (1, 16, .inr 33), (1, 17, .inr 33), (1, 18, .inr 33), (1, 19, .inr 33), (0, 0, .inl 0), (0, 0, .inl 0), (0, 0, .inl 0), (0, 0, .inl 0), (1, 20, .inr 16384), (1, 21, .inr 16384), (1, 22, .inr 400), (1, 23, .inr 400), (1, 24, .inr 400), (1, 25, .inr 400), (1, 26, .inr 400), (1, 27, .inr 400), (1, 28, .inr 400), (0, 0, .inl 0), (0, 0, .inl 0), (0, 0, .inl 0), (1, 29, .inr 96), (1, 30, .inr 100), (1, 31, .inr 100), (1, 32, .inr 100), (1, 33, .inr 100), (1, 34, .inr 100), (0, 0, .inl 0), (0, 0, .inl 0), (0, 0, .inl 0), (0, 0, .inl 0), (0, 0, .inl 0), (1, 35, .inr 1400), (3, 0, .inl 0), (3, 0, .inl 0), (0, 0, .inl 0), (1, 36, .inr 32), (0, 0, .inl 0), (0, 0, .inl 0)]
/-- of each class the sorts of its fields: 0 an int, 1 a fixed reference (how far off, what kind), 2 a reference that changes, 3 a boolean -/
def cfs : List (List (Nat × Nat × (Nat ⊕ Nat))) := [fs0_, fs1_, fs2_, fs3_, fs4_, fs5_, fs6_]
def LX : List (Nat ⊕ Nat) := [.inl 5, .inl 3, .inr 20, .inr 20, .inr 20, .inr 20, .inr 20, .inr 20, .inl 3, .inr 20, .inr 20, .inr 20, .inr 20, .inr 20, .inr 20, .inl 1, .inl 2, .inr 24, .inr 24, .inr 24, .inr 24, .inr 24, .inr 24, .inr 24, .inr 24, .inr 24, .inr 24, .inr 32, .inr 32, .inr 32, .inl 3, .inr 20, .inr 20, .inr 20, .inr 20, .inr 20, .inr 20, .inr 6144, .inl 4, .inr 96, .inl 3, .inr 20, .inr 20, .inr 20, .inr 20, .inr 20, .inr 20, .inl 0, .inr 96, .inl 2, .inr 24, .inr 24, .inr 24, .inr 24, .inr 24, .inr 24, .inr 24, .inr 24, .inr 24, .inr 24, .inr 32, .inr 32, .inr 32, .inr 96, .inr 96, .inr 32, .inr 7, .inl 3, .inr 20, .inr 20, .inr 20, .inr 20, .inr 20, .inr 20, .inl 2, .inr 24, .inr 24, .inr 24, .inr 24, .inr 24, .inr 24, .inr 24, .inr 24, .inr 24, .inr 24, .inr 32, .inr 32, .inr 32]
def LM : List (Nat ⊕ Nat) := [.inl 6, .inr 7, .inr 21, .inr 21, .inr 21, .inr 21, .inr 21, .inr 25, .inr 25, .inr 25, .inr 25, .inr 25, .inr 25, .inr 25, .inr 25, .inr 25, .inr 33, .inr 33, .inr 33, .inr 33, .inr 16384, .inr 16384, .inr 400, .inr 400, .inr 400, .inr 400, .inr 400, .inr 400, .inr 400, .inr 96, .inr 100, .inr 100, .inr 100, .inr 100, .inr 100, .inr 1400, .inr 32]
/-- the words that every method of ours has -/
def ALL : List Cond := lw_tbl.filter goodWord
def NW : List Cond := [.methodLinkNest "GathersAllFaults$Reader" 33 ⟨"GathersAllFaults", "at", "([II)I"⟩ "GathersAllFaults", .methodLinkNest "GathersAllFaults$Reader" 40 ⟨"GathersAllFaults", "set", "([III)V"⟩ "GathersAllFaults", .methodLinkNest "GathersAllFaults$CheckReader" 36 ⟨"GathersAllFaults", "isDigit", "(I)Z"⟩ "GathersAllFaults", .methodLinkNest "GathersAllFaults$CheckReader" 45 ⟨"GathersAllFaults", "isName", "(I)Z"⟩ "GathersAllFaults", .methodLinkNest "GathersAllFaults$ValueReader" 22 ⟨"GathersAllFaults", "isDigit", "(I)Z"⟩ "GathersAllFaults", .methodLinkNest "GathersAllFaults$ValueReader" 37 ⟨"GathersAllFaults", "isName", "(I)Z"⟩ "GathersAllFaults", .methodLinkNest "GathersAllFaults$CheckReader" 88 ⟨"GathersAllFaults", "at", "([II)I"⟩ "GathersAllFaults", .methodLinkNest "GathersAllFaults$CheckReader" 99 ⟨"GathersAllFaults", "set", "([III)V"⟩ "GathersAllFaults", .methodLinkNest "GathersAllFaults$CheckReader" 106 ⟨"GathersAllFaults", "digitOf", "(I)I"⟩ "GathersAllFaults", .methodLinkNest "GathersAllFaults$Plan" 62 ⟨"GathersAllFaults", "at", "([II)I"⟩ "GathersAllFaults", .methodLinkNest "GathersAllFaults$Plan" 66 ⟨"GathersAllFaults", "set", "([III)V"⟩ "GathersAllFaults", .methodLinkNest "GathersAllFaults$ValueReader" 63 ⟨"GathersAllFaults", "at", "([II)I"⟩ "GathersAllFaults", .methodLinkNest "GathersAllFaults$ValueReader" 81 ⟨"GathersAllFaults", "set", "([III)V"⟩ "GathersAllFaults", .methodLinkNest "GathersAllFaults$Tree" 42 ⟨"GathersAllFaults", "set", "([III)V"⟩ "GathersAllFaults", .methodLinkNest "GathersAllFaults$ValueReader" 85 ⟨"GathersAllFaults", "digitOf", "(I)I"⟩ "GathersAllFaults", .methodLinkNest "GathersAllFaults$Tree" 38 ⟨"GathersAllFaults", "at", "([II)I"⟩ "GathersAllFaults", .methodLinkNest "GathersAllFaults$Tree" 34 ⟨"GathersAllFaults", "copy", "([I[I)V"⟩ "GathersAllFaults", .methodLinkNest "GathersAllFaults$Plan" 55 ⟨"GathersAllFaults", "copy", "([I[I)V"⟩ "GathersAllFaults", .methodLinkNest "GathersAllFaults$Tree" 57 ⟨"GathersAllFaults", "close", "([IIII)V"⟩ "GathersAllFaults", .methodLinkNest "GathersAllFaults$Gatherer" 40 ⟨"GathersAllFaults", "at", "([II)I"⟩ "GathersAllFaults", .methodLinkNest "GathersAllFaults$Gatherer" 52 ⟨"GathersAllFaults", "set", "([III)V"⟩ "GathersAllFaults", .methodLinkNest "GathersAllFaults$Gatherer" 155 ⟨"GathersAllFaults", "close", "([IIII)V"⟩ "GathersAllFaults"]
theorem ALL_sub : ∀ w ∈ ALL, w ∈ lw_tbl := fun _ h => (List.mem_filter.mp h).1
theorem ALL_good : ∀ w ∈ ALL, (w.onTables && w.keeps) = true ∨ ∃ ty, w = .arrayClass ty := fun _ h => good_of_word (List.mem_filter.mp h).2
theorem ALL_in {w : Cond} (i : Nat) (h : tables_1[i]? = some w) (hg : goodWord w = true) : w ∈ ALL := List.mem_filter.mpr ⟨List.mem_append_right _ (List.mem_of_getElem? h), hg⟩
theorem ALL_inP {w : Cond} (i : Nat) (h : (k2_sels lw_privs)[i]? = some w) (hg : goodWord w = true) : w ∈ ALL := List.mem_filter.mpr ⟨List.mem_append_left _ (List.mem_of_getElem? h), hg⟩
theorem ws0_in : ∀ w ∈ u_ws R0_ T0_ 11, w ∈ ALL := by
  have h : (u_ws R0_ T0_ 11).all (fun w => decide (w ∈ tables_1) && goodWord w) = true := by decide +kernel
  intro w hw
  have h1 := List.all_eq_true.mp h w hw
  simp only [Bool.and_eq_true, decide_eq_true_eq] at h1
  exact List.mem_filter.mpr ⟨List.mem_append_right _ h1.1, h1.2⟩
theorem ws1_in : ∀ w ∈ u_ws R1_ T1_ 5, w ∈ ALL := by
  have h : (u_ws R1_ T1_ 5).all (fun w => decide (w ∈ tables_1) && goodWord w) = true := by decide +kernel
  intro w hw
  have h1 := List.all_eq_true.mp h w hw
  simp only [Bool.and_eq_true, decide_eq_true_eq] at h1
  exact List.mem_filter.mpr ⟨List.mem_append_right _ h1.1, h1.2⟩
theorem ws2_in : ∀ w ∈ u_ws R2_ T2_ 15, w ∈ ALL := by
  have h : (u_ws R2_ T2_ 15).all (fun w => decide (w ∈ tables_1) && goodWord w) = true := by decide +kernel
  intro w hw
  have h1 := List.all_eq_true.mp h w hw
  simp only [Bool.and_eq_true, decide_eq_true_eq] at h1
  exact List.mem_filter.mpr ⟨List.mem_append_right _ h1.1, h1.2⟩
theorem ws3_in : ∀ w ∈ u_ws R3_ T3_ 7, w ∈ ALL := by
  have h : (u_ws R3_ T3_ 7).all (fun w => decide (w ∈ tables_1) && goodWord w) = true := by decide +kernel
  intro w hw
  have h1 := List.all_eq_true.mp h w hw
  simp only [Bool.and_eq_true, decide_eq_true_eq] at h1
  exact List.mem_filter.mpr ⟨List.mem_append_right _ h1.1, h1.2⟩
theorem ws4_in : ∀ w ∈ u_ws R4_ T4_ 6, w ∈ ALL := by
  have h : (u_ws R4_ T4_ 6).all (fun w => decide (w ∈ tables_1) && goodWord w) = true := by decide +kernel
  intro w hw
  have h1 := List.all_eq_true.mp h w hw
  simp only [Bool.and_eq_true, decide_eq_true_eq] at h1
  exact List.mem_filter.mpr ⟨List.mem_append_right _ h1.1, h1.2⟩
theorem ws5_in : ∀ w ∈ u_ws R5_ T5_ 14, w ∈ ALL := by
  have h : (u_ws R5_ T5_ 14).all (fun w => decide (w ∈ tables_1) && goodWord w) = true := by decide +kernel
  intro w hw
  have h1 := List.all_eq_true.mp h w hw
  simp only [Bool.and_eq_true, decide_eq_true_eq] at h1
  exact List.mem_filter.mpr ⟨List.mem_append_right _ h1.1, h1.2⟩
theorem ws6_in : ∀ w ∈ u_ws R6_ T6_ 54, w ∈ ALL := by
  have h : (u_ws R6_ T6_ 54).all (fun w => decide (w ∈ tables_1) && goodWord w) = true := by decide +kernel
  intro w hw
  have h1 := List.all_eq_true.mp h w hw
  simp only [Bool.and_eq_true, decide_eq_true_eq] at h1
  exact List.mem_filter.mpr ⟨List.mem_append_right _ h1.1, h1.2⟩
end
section
/-! THE SIMPLE MACHINE (sm): worlds of int cells with fixed references, methods by weakest start, all over the kit's rows. No name of the claim's own stands here but ALL, NW, classes, cfs of part 00. -/
abbrev kd : Type := Nat ⊕ Nat
abbrev sv : Type := Int32 ⊕ (Int64 ⊕ (Nat × kd))
abbrev sS : Type := Nat → Nat → Int32
abbrev sL : Type := List (Nat × sv)
abbrev sF : Type := Nat × Nat × kd
abbrev sY : Type := MethodName × ByteArray × Nat × Option FieldType
/-- pc, length, instruction, target, cases of a switch, constants -/
abbrev sT : Type := Nat × Nat × Instr × Nat × List (Int32 × Nat) × Int32 × Int64
abbrev sP : Type := List sv → sS → Option (Option sv × sS)
/-- index, kind, receiver's class, callee, how many arguments, named method, owner or host, what it does if that is known -/
abbrev sE : Type := Nat × Nat × Nat × sY × Nat × MethodName × String × sP
abbrev sI (x : Int32) : sv := .inl x
abbrev sJ (x : Int64) : sv := .inr (.inl x)
abbrev sR (b : Nat) (k : kd) : sv := .inr (.inr (b, k))
def cv (ad : Nat → Nat) (v : sv) : Value := match v with
  | .inl x => .int x
  | .inr (.inl y) => .long y
  | .inr (.inr q) => .ref (ad q.1)
def cvL (ad : Nat → Nat) (ls : sL) : List (Nat × Value) := ls.map (fun q => (q.1, cv ad q.2))
def gl (i : Nat) : sL → Option sv
  | [] => none
  | q :: r => cond (Nat.beq q.1 i) (some q.2) (gl i r)
def il (i : Nat) (v : sv) : sL → sL
  | [] => [(i, v)]
  | q :: r => cond (Nat.blt i q.1) ((i, v) :: q :: r) (q :: il i v r)
def cat2 (v : sv) : Bool := match v with
  | .inr (.inl _) => true
  | _ => false
def sl1 (i : Nat) (v : sv) (ls : sL) : sL := il i v (ls.filter (fun q => !(Nat.beq q.1 i) && !(Nat.beq (q.1 + 1) i && cat2 q.2)))
def sl2 (i : Nat) (v : sv) (ls : sL) : sL := il i v (ls.filter (fun q => !(Nat.beq q.1 i) && (!(Nat.beq q.1 (i + 1)) && !(Nat.beq (q.1 + 1) i && cat2 q.2))))
def up (σ : sS) (a k : Nat) (x : Int32) : sS := fun c => if c = a then upd (σ a) k x else σ c
def fv (ad : Nat → Nat) (σ : sS) (b k : Nat) (s : sF) : Value := match s.1 with
  | 1 => .ref (ad (b + s.2.1))
  | 2 => .ref (ad (σ b k).toNatClampNeg)
  | _ => .int (σ b k)
def fvs (ad : Nat → Nat) (σ : sS) (b : Nat) : Nat → List sF → List Value
  | _, [] => []
  | k, s :: r => fv ad σ b k s :: fvs ad σ b (k + 1) r
def ent (cA : ClassId) (ad : Nat → Nat) (σ : sS) (b : Nat) (k : kd) : va_E := match k with
  | .inl ci => .inr (ci, fvs ad σ b 0 (cfs.getD ci []))
  | .inr n => .inl (cA, n, .inl (σ b))
def wl (cA : ClassId) (ad : Nat → Nat) (σ : sS) (Y : List kd) : va_W := Y.mapIdx (fun b k => (ad b, ent cA ad σ b k))
theorem wl_get {cA : ClassId} {ad : Nat → Nat} {σ : sS} {Y : List kd} {b : Nat} {k : kd} (h : Y[b]? = some k) : (wl cA ad σ Y)[b]? = some (ad b, ent cA ad σ b k) := by
  unfold wl
  rw [List.getElem?_mapIdx, h]
  rfl
theorem fvs_get (ad : Nat → Nat) (σ : sS) (b : Nat) : ∀ (l : List sF) (k j : Nat) (s : sF), l[j]? = some s → (fvs ad σ b k l)[j]? = some (fv ad σ b (k + j) s)
  | [], k, j, s, h => by simp at h
  | x :: r, k, 0, s, h => by
    simp at h
    subst h
    rfl
  | x :: r, k, j + 1, s, h => by
    have h' : r[j]? = some s := by simpa using h
    have := fvs_get ad σ b r (k + 1) j s h'
    simp only [fvs, List.getElem?_cons_succ]
    rw [this]
    congr 2
    omega
theorem fvs_len (ad : Nat → Nat) (σ : sS) (b : Nat) : ∀ (l : List sF) (k : Nat), (fvs ad σ b k l).length = l.length
  | [], k => rfl
  | x :: r, k => by simp [fvs, fvs_len ad σ b r (k + 1)]
theorem up_same (σ : sS) (a k : Nat) (x : Int32) : up σ a k x a = upd (σ a) k x := by simp [up]
theorem up_ne (σ : sS) {a c : Nat} (k : Nat) (x : Int32) (h : c ≠ a) : up σ a k x c = σ c := by simp [up, h]
theorem ent_ne (cA : ClassId) (ad : Nat → Nat) (σ σ' : sS) {b : Nat} (k : kd) (h : σ' b = σ b) : ent cA ad σ' b k = ent cA ad σ b k := by
  cases k with
  | inl ci =>
    have e : ∀ (l : List sF) (j : Nat), fvs ad σ' b j l = fvs ad σ b j l := by
      intro l
      induction l with
      | nil => intro j; rfl
      | cons s r ih =>
        intro j
        simp only [fvs]
        rw [ih (j + 1)]
        congr 1
        unfold fv
        rw [h]
    show (Sum.inr (ci, fvs ad σ' b 0 (cfs.getD ci [])) : va_E) = Sum.inr (ci, fvs ad σ b 0 (cfs.getD ci []))
    rw [e]
  | inr n =>
    show (Sum.inl (cA, n, Sum.inl (σ' b)) : va_E) = Sum.inl (cA, n, Sum.inl (σ b))
    rw [h]
/-- a world in which one cell is another -/
theorem wl_set {cA : ClassId} {ad : Nat → Nat} {σ σ' : sS} {Y : List kd} {a : Nat} {k : kd} (h : Y[a]? = some k) (ho : ∀ c, c ≠ a → σ' c = σ c) {x : va_E} (hx : ent cA ad σ' a k = x) : (wl cA ad σ Y).set a (ad a, x) = wl cA ad σ' Y := by
  apply List.ext_getElem?
  intro i
  have hl := (List.getElem?_eq_some_iff.mp h).1
  by_cases hi : i = a
  · subst hi
    rw [List.getElem?_set_self (by unfold wl; simpa using hl), wl_get h, hx]
  · rw [List.getElem?_set_ne (Ne.symm hi)]
    unfold wl
    rw [List.getElem?_mapIdx, List.getElem?_mapIdx]
    cases hY : Y[i]? with
    | none => rfl
    | some q =>
      show some (ad i, ent cA ad σ i q) = some (ad i, ent cA ad σ' i q)
      rw [ent_ne cA ad σ σ' q (ho i hi)]
theorem fvs_set (ad : Nat → Nat) (σ : sS) (b j : Nat) (x : Int32) : ∀ (l : List sF) (k : Nat) (s : sF), k ≤ j → l[j - k]? = some s → (fvs ad σ b k l).set (j - k) (fv ad (up σ b j x) b j s) = fvs ad (up σ b j x) b k l
  | [], k, s, hk, h => by simp at h
  | q :: r, k, s, hk, h => by
    have tail : ∀ (l : List sF) (k : Nat), j < k → fvs ad σ b k l = fvs ad (up σ b j x) b k l := by
      intro l
      induction l with
      | nil => intro k _; rfl
      | cons s r ih =>
        intro k hk
        simp only [fvs]
        rw [ih (k + 1) (by omega)]
        congr 1
        unfold fv
        rw [up_same]
        have : upd (σ b) j x k = σ b k := by simp [upd]; omega
        rw [this]
    by_cases e : j = k
    · subst e
      have hq : q = s := by simpa using h
      subst hq
      simp only [Nat.sub_self, fvs, List.set_cons_zero]
      rw [tail r (j + 1) (by omega)]
    · have e2 : j - k = (j - (k + 1)) + 1 := by omega
      rw [e2] at h ⊢
      have h' : r[j - (k + 1)]? = some s := by simpa using h
      simp only [fvs, List.set_cons_succ]
      rw [fvs_set ad σ b j x r (k + 1) s (by omega) h']
      congr 1
      unfold fv
      rw [up_same]
      have : upd (σ b) j x k = σ b k := by simp [upd]; omega
      rw [this]
/-! values and locals that fit the layout -/
def wtv (Y : List kd) (v : sv) : Prop := match v with
  | .inr (.inr q) => Y[q.1]? = some q.2
  | _ => True
def wtL (Y : List kd) (ls : sL) : Prop := ∀ q ∈ ls, wtv Y q.2
def wtS (Y : List kd) (st : List sv) : Prop := ∀ v ∈ st, wtv Y v
/-- fixed references point at cells of the kind that the class says -/
def lok (Y : List kd) : Prop := Y.length < 2 ^ 31 ∧ ∀ (b ci : Nat), Y[b]? = some (.inl ci) → ∀ (k : Nat) (s : sF), (cfs.getD ci [])[k]? = some s → s.1 = 1 → Y[b + s.2.1]? = some s.2.2
theorem gl_mem : ∀ (ls : sL) (i : Nat) (v : sv), gl i ls = some v → (i, v) ∈ ls
  | [], i, v, h => by simp [gl] at h
  | q :: r, i, v, h => by
    obtain ⟨j, w⟩ := q
    simp only [gl] at h
    cases hb : Nat.beq j i with
    | true =>
      rw [hb] at h
      have e := Nat.eq_of_beq_eq_true hb
      subst e
      have hw : w = v := by simpa using h
      subst hw
      exact List.mem_cons_self
    | false =>
      rw [hb] at h
      exact List.mem_cons_of_mem _ (gl_mem r i v h)
theorem cvL_mem {ad : Nat → Nat} {ls : sL} {i : Nat} {v : sv} (h : (i, v) ∈ ls) : (i, cv ad v) ∈ cvL ad ls := List.mem_map.mpr ⟨(i, v), h, rfl⟩
theorem lv_gl {ad : Nat → Nat} {lsA : Array Slot} {nL : Nat} {ls : sL} (h : lv_has lsA nL (cvL ad ls)) {i : Nat} {v : sv} (hg : gl i ls = some v) : lsA[i]? = some (.val (cv ad v)) := h.2.2 (i, cv ad v) (cvL_mem (gl_mem ls i v hg))
theorem wt_gl {Y : List kd} {ls : sL} (h : wtL Y ls) {i : Nat} {v : sv} (hg : gl i ls = some v) : wtv Y v := h _ (gl_mem ls i v hg)
theorem il_mem : ∀ (ls : sL) (i : Nat) (v : sv) (q : Nat × sv), q ∈ il i v ls → q = (i, v) ∨ q ∈ ls
  | [], i, v, q, h => by
    simp only [il, List.mem_singleton] at h
    exact Or.inl h
  | p :: r, i, v, q, h => by
    simp only [il] at h
    cases hb : Nat.blt i p.1 with
    | true =>
      rw [hb] at h
      exact List.mem_cons.mp h
    | false =>
      rw [hb] at h
      rcases List.mem_cons.mp h with e | h
      · exact Or.inr (e ▸ List.mem_cons_self)
      · rcases il_mem r i v q h with e | h
        · exact Or.inl e
        · exact Or.inr (List.mem_cons_of_mem _ h)
theorem cv_cat (ad : Nat → Nat) (v : sv) : (cv ad v).category = if cat2 v then 2 else 1 := by
  rcases v with x | y | q <;> rfl
theorem lv_has_mono {lsA : Array Slot} {nL : Nat} {l l' : List (Nat × Value)} (h : lv_has lsA nL l) (hm : ∀ q ∈ l', q ∈ l) : lv_has lsA nL l' := ⟨h.1, h.2.1, fun q hq => h.2.2 q (hm q hq)⟩
theorem sl1_mem {ad : Nat → Nat} {ls : sL} {i : Nat} {v : sv} : ∀ q ∈ cvL ad (sl1 i v ls), q ∈ (i, cv ad v) :: (cvL ad ls).filter (fun q => !(q.1 == i) && !(q.1 + 1 == i && q.2.category == 2)) := by
  intro q hq
  obtain ⟨p, hp, rfl⟩ := List.mem_map.mp hq
  rcases il_mem _ i v p hp with rfl | h
  · exact List.mem_cons_self
  · obtain ⟨h1, h2⟩ := List.mem_filter.mp h
    refine List.mem_cons_of_mem _ (List.mem_filter.mpr ⟨cvL_mem h1, ?_⟩)
    rw [cv_cat]
    have e : ∀ a b : Nat, Nat.beq a b = (a == b) := fun a b => by rw [Bool.eq_iff_iff]; simp [Nat.beq_eq]
    simp only [e] at h2
    cases hc : cat2 p.2 <;> simp [hc] at h2 ⊢ <;> exact h2
theorem sl2_mem {ad : Nat → Nat} {ls : sL} {i : Nat} {v : sv} : ∀ q ∈ cvL ad (sl2 i v ls), q ∈ (i, cv ad v) :: (cvL ad ls).filter (fun q => !(q.1 == i) && (!(q.1 == i + 1) && !(q.1 + 1 == i && q.2.category == 2))) := by
  intro q hq
  obtain ⟨p, hp, rfl⟩ := List.mem_map.mp hq
  rcases il_mem _ i v p hp with rfl | h
  · exact List.mem_cons_self
  · obtain ⟨h1, h2⟩ := List.mem_filter.mp h
    refine List.mem_cons_of_mem _ (List.mem_filter.mpr ⟨cvL_mem h1, ?_⟩)
    rw [cv_cat]
    have e : ∀ a b : Nat, Nat.beq a b = (a == b) := fun a b => by rw [Bool.eq_iff_iff]; simp [Nat.beq_eq]
    simp only [e] at h2
    cases hc : cat2 p.2 <;> simp [hc] at h2 ⊢ <;> exact h2
theorem wt_sl1 {Y : List kd} {ls : sL} {i : Nat} {v : sv} (h : wtL Y ls) (hv : wtv Y v) : wtL Y (sl1 i v ls) := by
  intro q hq
  rcases il_mem _ i v q hq with rfl | h1
  · exact hv
  · exact h q (List.mem_filter.mp h1).1
theorem wt_sl2 {Y : List kd} {ls : sL} {i : Nat} {v : sv} (h : wtL Y ls) (hv : wtv Y v) : wtL Y (sl2 i v ls) := by
  intro q hq
  rcases il_mem _ i v q hq with rfl | h1
  · exact hv
  · exact h q (List.mem_filter.mp h1).1
theorem wtS_tail {Y : List kd} {v : sv} {st : List sv} (h : wtS Y (v :: st)) : wtS Y st := fun w hw => h w (List.mem_cons_of_mem _ hw)
theorem wtS_head {Y : List kd} {v : sv} {st : List sv} (h : wtS Y (v :: st)) : wtv Y v := h v List.mem_cons_self
theorem wtS_cons {Y : List kd} {v : sv} {st : List sv} (hv : wtv Y v) (h : wtS Y st) : wtS Y (v :: st) := fun w hw => by
  rcases List.mem_cons.mp hw with rfl | h1
  · exact hv
  · exact h w h1
end
section
/-! what a method does on worlds: Jd, and the weakest start of one instruction -/
abbrev rmD (d : Nat) : Room := { frames := d, cells := 0, slots := 0, locals := 40 * d + 40 }
def wsY (y : sY) : List Cond := .code y.1 y.2.1 y.2.2.1 y.2.2.2 :: ALL
def sCx (Y : List kd) (y : sY) (d : Nat) (D : va_G) (cA : ClassId) (p : Program) (R : Room) (s : State) (m : MethodId) (args : Array Value) (meth : Method) (c : Code) : Prop :=
  p.tables.exec = Jvm.exec ∧ c.code = y.2.1 ∧ c.maxLocals = y.2.2.1 ∧ s.vm.findClass y.1.cls = some m.cls ∧ meth.sig.returnType = y.2.2.2 ∧ meth.locks = false ∧ (∀ w ∈ ALL, w.before args s = true) ∧ (∀ w ∈ NW, va_Nw w s) ∧ va_K D classes [(cA, .int)] s ∧ d ≤ R.frames ∧ 40 * d + 40 ≤ R.locals ∧ lok Y
def sQc (Y : List kd) (D : va_G) (cA : ClassId) (ad : Nat → Nat) (A : Nat → Prop) (Q : Option sv → sS → Prop) : Array Value → State → Outcome → State → Prop := fun _ st o t =>
  (∃ (r : Option sv) (σ : sS), o = .returned (r.map (cv ad)) ∧ (∀ v ∈ r, wtv Y v) ∧ Q r σ ∧ va_P D classes (wl cA ad σ Y) t.heap) ∧ va_F A st t
/-- from here the method comes to its end, with Q of its answer and of the world -/
def Jd (Y : List kd) (d : Nat) (y : sY) (pc : Nat) (ls : sL) (st : List sv) (σ : sS) (Q : Option sv → sS → Prop) : Prop :=
  ∀ (l : Launch) (D : va_G) (cA : ClassId) (ad : Nat → Nat) (A : Nat → Prop) (p : Program) (e : Env) (R : Room) (s : State) (m : MethodId) (args : Array Value) (below : List Frame) (meth : Method) (c : Code),
    sCx Y y d D cA p R s m args meth c → (∀ q : Nat, s.heap.size ≤ q → A q) →
    ∀ (H : Heap) (locs : List Loc) (lsA : Array Slot), va_P D classes (wl cA ad σ Y) H → va_D A (wl cA ad σ Y) → va_S A s.heap H locs → lv_has lsA y.2.2.1 (cvL ad ls) → wtL Y ls → wtS Y st →
      W p l e R s m args below meth c H locs 0 0 (MQ below (sQc Y D cA ad A Q) args s 0 0 A) (F0 m pc lsA (st.map (cv ad)))
def argL : Nat → List sv → sL
  | _, [] => []
  | i, v :: r => (i, v) :: argL (cond (cat2 v) (i + 2) (i + 1)) r
/-- a call, by its arguments (the receiver first) -/
def CJ (Y : List kd) (d : Nat) (y : sY) (as : List sv) (σ : sS) (Q : Option sv → sS → Prop) : Prop := Jd Y d y 0 (argL 0 as) [] σ Q
theorem Jd.mono {Y : List kd} {d d' : Nat} {y : sY} {pc : Nat} {ls : sL} {st : List sv} {σ : sS} {Q : Option sv → sS → Prop} (h : Jd Y d y pc ls st σ Q) (hd : d ≤ d') : Jd Y d' y pc ls st σ Q := by
  intro l D cA ad A p e R s m args below meth c hC
  obtain ⟨h1, h2, h3, h4, h5, h6, h7, h8, h9, h10, h11, h12⟩ := hC
  exact h l D cA ad A p e R s m args below meth c ⟨h1, h2, h3, h4, h5, h6, h7, h8, h9, Nat.le_trans hd h10, by omega, h12⟩
theorem Jd.sub {Y : List kd} {d : Nat} {y : sY} {pc : Nat} {ls ls' : sL} {st : List sv} {σ : sS} {Q : Option sv → sS → Prop} (h : Jd Y d y pc ls' st σ Q) (hm : ∀ q ∈ ls', q ∈ ls) : Jd Y d y pc ls st σ Q := by
  intro l D cA ad A p e R s m args below meth c hC hA H locs lsA hP hD hS hl hw hws
  refine h l D cA ad A p e R s m args below meth c hC hA H locs lsA hP hD hS (lv_has_mono hl ?_) (fun q hq => hw q (hm q hq)) hws
  intro q hq
  obtain ⟨r, hr, rfl⟩ := List.mem_map.mp hq
  exact List.mem_map.mpr ⟨r, hm r hr, rfl⟩
theorem W.imp {p : Program} {l : Launch} {e : Env} {R : Room} {s : State} {m : MethodId} {args : Array Value} {below : List Frame} {meth : Method} {c : Code} {H : Heap} {locs : List Loc} {cells slots : Nat} {Q Q' : State → Prop} {g : JFrame} (h : W p l e R s m args below meth c H locs cells slots Q g) (hQ : ∀ t, Q t → Q' t) : W p l e R s m args below meth c H locs cells slots Q' g := by
  intro T hT X
  obtain ⟨t, a, b⟩ := h T hT X
  exact ⟨t, a, hQ t b⟩
theorem Jd.imp {Y : List kd} {d : Nat} {y : sY} {pc : Nat} {ls : sL} {st : List sv} {σ : sS} {Q Q' : Option sv → sS → Prop} (h : Jd Y d y pc ls st σ Q) (hQ : ∀ r σ, Q r σ → Q' r σ) : Jd Y d y pc ls st σ Q' := by
  intro l D cA ad A p e R s m args below meth c hC hA H locs lsA hP hD hS hl hw hws
  refine W.imp (h l D cA ad A p e R s m args below meth c hC hA H locs lsA hP hD hS hl hw hws) ?_
  rintro t ⟨o, h1, h2, ⟨⟨r, σ', e1, e2, e3, e4⟩, h4⟩, h5⟩
  exact ⟨o, h1, h2, ⟨⟨r, σ', e1, e2, hQ r σ' e3, e4⟩, h4⟩, h5⟩
theorem CJ.mono {Y : List kd} {d d' : Nat} {y : sY} {as : List sv} {σ : sS} {Q : Option sv → sS → Prop} (h : CJ Y d y as σ Q) (hd : d ≤ d') : CJ Y d' y as σ Q := Jd.mono h hd
theorem CJ.imp {Y : List kd} {d : Nat} {y : sY} {as : List sv} {σ : sS} {Q Q' : Option sv → sS → Prop} (h : CJ Y d y as σ Q) (hQ : ∀ r σ, Q r σ → Q' r σ) : CJ Y d y as σ Q' := Jd.imp h hQ
/-! the contract of the machine out of CJ -/
def sPc (Y : List kd) (D : va_G) (cA : ClassId) (ad : Nat → Nat) (σ : sS) (as : List sv) (sz : Nat) : Array Value → State → Prop :=
  va_Pc (as.map (cv ad)) (fun U => U.heap.size = sz ∧ va_P D classes (wl cA ad σ Y) U.heap ∧ va_K D classes [(cA, .int)] U ∧ va_D (fun _ => True) (wl cA ad σ Y) ∧ ∀ w ∈ NW, va_Nw w U)
theorem NW_tab : ∀ w ∈ NW, w.onTables = true := by decide +kernel
theorem sPc_blind {Y : List kd} {D : va_G} {cA : ClassId} {ad : Nat → Nat} {σ : sS} {as : List sv} {sz : Nat} : FrameBlind (sPc Y D cA ad σ as sz) := by
  rintro a U g mk ⟨h1, h2, h3, h4, h5, h6⟩
  exact ⟨h1, h2, h3, va_K.moved (u := U) (U := U.calling g mk a) (Vm.Alike.refl U.vm) h4, h5, fun w hw => va_Nw.same (NW_tab w hw) (u := U) (U := U.calling g mk a) rfl (h6 w hw)⟩
theorem argL_cv (ad : Nat → Nat) : ∀ (as : List sv) (i : Nat), cvL ad (argL i as) = lv_args i (as.map (cv ad))
  | [], i => rfl
  | v :: r, i => by
    simp only [argL, cvL, List.map_cons, lv_args]
    have h := argL_cv ad r (cond (cat2 v) (i + 2) (i + 1))
    simp only [cvL] at h
    rw [h, cv_cat]
    cases cat2 v <;> rfl
theorem argL_mem : ∀ (as : List sv) (i : Nat) (q : Nat × sv), q ∈ argL i as → q.2 ∈ as
  | [], i, q, h => by cases h
  | v :: r, i, q, h => by
    rcases List.mem_cons.mp h with rfl | h
    · exact List.mem_cons_self
    · exact List.mem_cons_of_mem _ (argL_mem r _ q h)
theorem met_of {Y : List kd} {d : Nat} {y : sY} {as : List sv} {σ : sS} {Q : Option sv → sS → Prop} (h : CJ Y d y as σ Q) (hy : plainName y.1.cls = true) (hY : lok Y) (hwt : wtS Y as) (l : Launch) (D : va_G) (cA : ClassId) (ad : Nat → Nat) (sz : Nat) (hn : (lg_sl (as.map (cv ad))).length ≤ y.2.2.1) :
    Met l y.1 (wsY y) (rmD d) (sPc Y D cA ad σ as sz) (sQc Y D cA ad (va_A (wl cA ad σ Y) sz) Q) 0 0 (va_A (wl cA ad σ Y) sz) := by
  refine Met.ofW (cc := y.2.1) (maxL := y.2.2.1) (ret := y.2.2.2) (ws' := ALL) hy rfl ?_
  intro p e s m args below meth c s₁ B hml hv
  obtain ⟨rfl, hsz, hP, hK, hD0, hN⟩ := hv
  have hts := atoms_spec (ws := wsY y) B.pre
  have hown : s.vm.findClass y.1.cls = some m.cls := findClass_of_methodNamed B.named
  subst hsz
  have hl := lv_entry (as.map (cv ad)) (n := y.2.2.1) hn
  rw [lg_entry_eq]
  rw [← argL_cv] at hl
  exact h l D cA ad _ p e _ s m _ below meth c ⟨B.exec, B.bytes, hml, hown, B.returns, B.notSynchronized, fun w hw => hts w (List.mem_cons_of_mem _ hw), hN, hK, Nat.le_refl _, Nat.le_refl _, hY⟩ (fun q hq => Or.inr hq) s.heap [] _ hP hD0.self va_S.rf hl (fun q hq => hwt _ (argL_mem as 0 q hq)) (fun v hv => by cases hv)
end
