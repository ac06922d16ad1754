section
-- ===== PART A: goes FIRST, ahead of the names: the tables' words, and 'selects' of the private methods out of them =====
/-- a private method of a class that the tables say can be made, by its rows of tables_1 -/
def lw_okq (q : MethodName × Nat) : Prop := (q.1.cls ≠ "java/lang/invoke/MethodHandle" ∧ q.1.cls ≠ "java/lang/invoke/VarHandle") ∧ Cond.instantiable q.1.cls q.2 ∈ tables_1 ∧ Cond.privateMethod q.1 ∈ tables_1 ∧ Cond.instanceMethod q.1 ∈ tables_1
theorem lw_p0 : lw_okq (⟨"GathersAllFaults", "refuse", "(I)I"⟩, 14) := ⟨⟨by decide +kernel, by decide +kernel⟩, List.mem_of_getElem? (i := 13) (by decide +kernel), List.mem_of_getElem? (i := 294) (by decide +kernel), List.mem_of_getElem? (i := 295) (by decide +kernel)⟩
theorem lw_p1 : lw_okq (⟨"GathersAllFaults$CheckReader", "begins", "(I)Z"⟩, 11) := ⟨⟨by decide +kernel, by decide +kernel⟩, List.mem_of_getElem? (i := 210) (by decide +kernel), List.mem_of_getElem? (i := 325) (by decide +kernel), List.mem_of_getElem? (i := 326) (by decide +kernel)⟩
theorem lw_p2 : lw_okq (⟨"GathersAllFaults$CheckReader", "ends", "()V"⟩, 11) := ⟨⟨by decide +kernel, by decide +kernel⟩, List.mem_of_getElem? (i := 210) (by decide +kernel), List.mem_of_getElem? (i := 329) (by decide +kernel), List.mem_of_getElem? (i := 330) (by decide +kernel)⟩
theorem lw_p3 : lw_okq (⟨"GathersAllFaults$CheckReader", "goBehindDigits", "()V"⟩, 11) := ⟨⟨by decide +kernel, by decide +kernel⟩, List.mem_of_getElem? (i := 210) (by decide +kernel), List.mem_of_getElem? (i := 352) (by decide +kernel), List.mem_of_getElem? (i := 353) (by decide +kernel)⟩
theorem lw_p4 : lw_okq (⟨"GathersAllFaults$CheckReader", "field", "(I)Z"⟩, 11) := ⟨⟨by decide +kernel, by decide +kernel⟩, List.mem_of_getElem? (i := 210) (by decide +kernel), List.mem_of_getElem? (i := 359) (by decide +kernel), List.mem_of_getElem? (i := 360) (by decide +kernel)⟩
theorem lw_p5 : lw_okq (⟨"GathersAllFaults$CheckReader", "last", "(I)Z"⟩, 11) := ⟨⟨by decide +kernel, by decide +kernel⟩, List.mem_of_getElem? (i := 210) (by decide +kernel), List.mem_of_getElem? (i := 366) (by decide +kernel), List.mem_of_getElem? (i := 367) (by decide +kernel)⟩
theorem lw_p6 : lw_okq (⟨"GathersAllFaults$ValueReader", "begins", "(I)Z"⟩, 6) := ⟨⟨by decide +kernel, by decide +kernel⟩, List.mem_of_getElem? (i := 167) (by decide +kernel), List.mem_of_getElem? (i := 374) (by decide +kernel), List.mem_of_getElem? (i := 375) (by decide +kernel)⟩
theorem lw_p7 : lw_okq (⟨"GathersAllFaults$ValueReader", "ends", "()V"⟩, 6) := ⟨⟨by decide +kernel, by decide +kernel⟩, List.mem_of_getElem? (i := 167) (by decide +kernel), List.mem_of_getElem? (i := 381) (by decide +kernel), List.mem_of_getElem? (i := 382) (by decide +kernel)⟩
theorem lw_p8 : lw_okq (⟨"GathersAllFaults$ValueReader", "closes", "()Z"⟩, 6) := ⟨⟨by decide +kernel, by decide +kernel⟩, List.mem_of_getElem? (i := 167) (by decide +kernel), List.mem_of_getElem? (i := 388) (by decide +kernel), List.mem_of_getElem? (i := 389) (by decide +kernel)⟩
theorem lw_p9 : lw_okq (⟨"GathersAllFaults$CheckReader", "takes", "([II)Z"⟩, 11) := ⟨⟨by decide +kernel, by decide +kernel⟩, List.mem_of_getElem? (i := 210) (by decide +kernel), List.mem_of_getElem? (i := 402) (by decide +kernel), List.mem_of_getElem? (i := 403) (by decide +kernel)⟩
theorem lw_p10 : lw_okq (⟨"GathersAllFaults$CheckReader", "settle", "()V"⟩, 11) := ⟨⟨by decide +kernel, by decide +kernel⟩, List.mem_of_getElem? (i := 210) (by decide +kernel), List.mem_of_getElem? (i := 408) (by decide +kernel), List.mem_of_getElem? (i := 409) (by decide +kernel)⟩
theorem lw_p11 : lw_okq (⟨"GathersAllFaults$CheckReader", "addsField", "(II)Z"⟩, 11) := ⟨⟨by decide +kernel, by decide +kernel⟩, List.mem_of_getElem? (i := 210) (by decide +kernel), List.mem_of_getElem? (i := 415) (by decide +kernel), List.mem_of_getElem? (i := 416) (by decide +kernel)⟩
theorem lw_p12 : lw_okq (⟨"GathersAllFaults$CheckReader", "addsDependent", "(III)Z"⟩, 11) := ⟨⟨by decide +kernel, by decide +kernel⟩, List.mem_of_getElem? (i := 210) (by decide +kernel), List.mem_of_getElem? (i := 424) (by decide +kernel), List.mem_of_getElem? (i := 425) (by decide +kernel)⟩
theorem lw_p13 : lw_okq (⟨"GathersAllFaults$CheckReader", "adds", "(III)Z"⟩, 11) := ⟨⟨by decide +kernel, by decide +kernel⟩, List.mem_of_getElem? (i := 210) (by decide +kernel), List.mem_of_getElem? (i := 436) (by decide +kernel), List.mem_of_getElem? (i := 437) (by decide +kernel)⟩
theorem lw_p14 : lw_okq (⟨"GathersAllFaults$CheckReader", "canReturn", "()Z"⟩, 11) := ⟨⟨by decide +kernel, by decide +kernel⟩, List.mem_of_getElem? (i := 210) (by decide +kernel), List.mem_of_getElem? (i := 440) (by decide +kernel), List.mem_of_getElem? (i := 441) (by decide +kernel)⟩
theorem lw_p15 : lw_okq (⟨"GathersAllFaults$ValueReader", "adds", "(II)Z"⟩, 6) := ⟨⟨by decide +kernel, by decide +kernel⟩, List.mem_of_getElem? (i := 167) (by decide +kernel), List.mem_of_getElem? (i := 458) (by decide +kernel), List.mem_of_getElem? (i := 459) (by decide +kernel)⟩
def lw_privs_1 : List (MethodName × Nat) := [(⟨"GathersAllFaults", "refuse", "(I)I"⟩, 14), (⟨"GathersAllFaults$CheckReader", "begins", "(I)Z"⟩, 11), (⟨"GathersAllFaults$CheckReader", "ends", "()V"⟩, 11), (⟨"GathersAllFaults$CheckReader", "goBehindDigits", "()V"⟩, 11), (⟨"GathersAllFaults$CheckReader", "field", "(I)Z"⟩, 11), (⟨"GathersAllFaults$CheckReader", "last", "(I)Z"⟩, 11), (⟨"GathersAllFaults$ValueReader", "begins", "(I)Z"⟩, 6), (⟨"GathersAllFaults$ValueReader", "ends", "()V"⟩, 6), (⟨"GathersAllFaults$ValueReader", "closes", "()Z"⟩, 6), (⟨"GathersAllFaults$CheckReader", "takes", "([II)Z"⟩, 11), (⟨"GathersAllFaults$CheckReader", "settle", "()V"⟩, 11), (⟨"GathersAllFaults$CheckReader", "addsField", "(II)Z"⟩, 11), (⟨"GathersAllFaults$CheckReader", "addsDependent", "(III)Z"⟩, 11), (⟨"GathersAllFaults$CheckReader", "adds", "(III)Z"⟩, 11), (⟨"GathersAllFaults$CheckReader", "canReturn", "()Z"⟩, 11), (⟨"GathersAllFaults$ValueReader", "adds", "(II)Z"⟩, 6)]
theorem lw_r1 : ∀ q ∈ lw_privs_1, lw_okq q := List.forall_mem_cons.mpr ⟨lw_p0, List.forall_mem_cons.mpr ⟨lw_p1, List.forall_mem_cons.mpr ⟨lw_p2, List.forall_mem_cons.mpr ⟨lw_p3, List.forall_mem_cons.mpr ⟨lw_p4, List.forall_mem_cons.mpr ⟨lw_p5, List.forall_mem_cons.mpr ⟨lw_p6, List.forall_mem_cons.mpr ⟨lw_p7, List.forall_mem_cons.mpr ⟨lw_p8, List.forall_mem_cons.mpr ⟨lw_p9, List.forall_mem_cons.mpr ⟨lw_p10, List.forall_mem_cons.mpr ⟨lw_p11, List.forall_mem_cons.mpr ⟨lw_p12, List.forall_mem_cons.mpr ⟨lw_p13, List.forall_mem_cons.mpr ⟨lw_p14, List.forall_mem_cons.mpr ⟨lw_p15, fun _ h => absurd h List.not_mem_nil⟩⟩⟩⟩⟩⟩⟩⟩⟩⟩⟩⟩⟩⟩⟩⟩
theorem lw_p16 : lw_okq (⟨"GathersAllFaults$ValueReader", "takes", "(I)Z"⟩, 6) := ⟨⟨by decide +kernel, by decide +kernel⟩, List.mem_of_getElem? (i := 167) (by decide +kernel), List.mem_of_getElem? (i := 468) (by decide +kernel), List.mem_of_getElem? (i := 469) (by decide +kernel)⟩
theorem lw_p17 : lw_okq (⟨"GathersAllFaults$Tree", "takeOut", "(II)V"⟩, 7) := ⟨⟨by decide +kernel, by decide +kernel⟩, List.mem_of_getElem? (i := 21) (by decide +kernel), List.mem_of_getElem? (i := 527) (by decide +kernel), List.mem_of_getElem? (i := 528) (by decide +kernel)⟩
theorem lw_p18 : lw_okq (⟨"GathersAllFaults$Gatherer", "look", "(III)V"⟩, 5) := ⟨⟨by decide +kernel, by decide +kernel⟩, List.mem_of_getElem? (i := 66) (by decide +kernel), List.mem_of_getElem? (i := 546) (by decide +kernel), List.mem_of_getElem? (i := 547) (by decide +kernel)⟩
theorem lw_p19 : lw_okq (⟨"GathersAllFaults$Gatherer", "deciderOf", "(II)I"⟩, 5) := ⟨⟨by decide +kernel, by decide +kernel⟩, List.mem_of_getElem? (i := 66) (by decide +kernel), List.mem_of_getElem? (i := 550) (by decide +kernel), List.mem_of_getElem? (i := 551) (by decide +kernel)⟩
theorem lw_p20 : lw_okq (⟨"GathersAllFaults$Gatherer", "add", "(II)V"⟩, 5) := ⟨⟨by decide +kernel, by decide +kernel⟩, List.mem_of_getElem? (i := 66) (by decide +kernel), List.mem_of_getElem? (i := 555) (by decide +kernel), List.mem_of_getElem? (i := 556) (by decide +kernel)⟩
theorem lw_p21 : lw_okq (⟨"GathersAllFaults$Gatherer", "lookAtNumber", "(II)V"⟩, 5) := ⟨⟨by decide +kernel, by decide +kernel⟩, List.mem_of_getElem? (i := 66) (by decide +kernel), List.mem_of_getElem? (i := 560) (by decide +kernel), List.mem_of_getElem? (i := 561) (by decide +kernel)⟩
theorem lw_p22 : lw_okq (⟨"GathersAllFaults$Gatherer", "lookAtRecord", "(III)V"⟩, 5) := ⟨⟨by decide +kernel, by decide +kernel⟩, List.mem_of_getElem? (i := 66) (by decide +kernel), List.mem_of_getElem? (i := 564) (by decide +kernel), List.mem_of_getElem? (i := 565) (by decide +kernel)⟩
theorem lw_p23 : lw_okq (⟨"GathersAllFaults$Gatherer", "lookAtFields", "(III)V"⟩, 5) := ⟨⟨by decide +kernel, by decide +kernel⟩, List.mem_of_getElem? (i := 66) (by decide +kernel), List.mem_of_getElem? (i := 568) (by decide +kernel), List.mem_of_getElem? (i := 569) (by decide +kernel)⟩
theorem lw_p24 : lw_okq (⟨"GathersAllFaults$Gatherer", "lookForStrangers", "(II)V"⟩, 5) := ⟨⟨by decide +kernel, by decide +kernel⟩, List.mem_of_getElem? (i := 66) (by decide +kernel), List.mem_of_getElem? (i := 573) (by decide +kernel), List.mem_of_getElem? (i := 574) (by decide +kernel)⟩
theorem lw_p25 : lw_okq (⟨"GathersAllFaults$Gatherer", "lookAtDependent", "(III)V"⟩, 5) := ⟨⟨by decide +kernel, by decide +kernel⟩, List.mem_of_getElem? (i := 66) (by decide +kernel), List.mem_of_getElem? (i := 578) (by decide +kernel), List.mem_of_getElem? (i := 579) (by decide +kernel)⟩
theorem lw_p26 : lw_okq (⟨"GathersAllFaults$Gatherer", "lookAtList", "(III)V"⟩, 5) := ⟨⟨by decide +kernel, by decide +kernel⟩, List.mem_of_getElem? (i := 66) (by decide +kernel), List.mem_of_getElem? (i := 599) (by decide +kernel), List.mem_of_getElem? (i := 600) (by decide +kernel)⟩
theorem lw_p27 : lw_okq (⟨"GathersAllFaults$Gatherer", "lookForTwins", "(II)V"⟩, 5) := ⟨⟨by decide +kernel, by decide +kernel⟩, List.mem_of_getElem? (i := 66) (by decide +kernel), List.mem_of_getElem? (i := 603) (by decide +kernel), List.mem_of_getElem? (i := 604) (by decide +kernel)⟩
theorem lw_p28 : lw_okq (⟨"GathersAllFaults$Gatherer", "keepFewer", "(IIII)V"⟩, 5) := ⟨⟨by decide +kernel, by decide +kernel⟩, List.mem_of_getElem? (i := 66) (by decide +kernel), List.mem_of_getElem? (i := 607) (by decide +kernel), List.mem_of_getElem? (i := 608) (by decide +kernel)⟩
theorem lw_p29 : lw_okq (⟨"GathersAllFaults", "firstAlike", "(I)I"⟩, 14) := ⟨⟨by decide +kernel, by decide +kernel⟩, List.mem_of_getElem? (i := 13) (by decide +kernel), List.mem_of_getElem? (i := 664) (by decide +kernel), List.mem_of_getElem? (i := 665) (by decide +kernel)⟩
theorem lw_p30 : lw_okq (⟨"GathersAllFaults", "countAlike", "(I)I"⟩, 14) := ⟨⟨by decide +kernel, by decide +kernel⟩, List.mem_of_getElem? (i := 13) (by decide +kernel), List.mem_of_getElem? (i := 672) (by decide +kernel), List.mem_of_getElem? (i := 673) (by decide +kernel)⟩
theorem lw_p31 : lw_okq (⟨"GathersAllFaults$Tree", "parentOf", "(I)I"⟩, 7) := ⟨⟨by decide +kernel, by decide +kernel⟩, List.mem_of_getElem? (i := 21) (by decide +kernel), List.mem_of_getElem? (i := 684) (by decide +kernel), List.mem_of_getElem? (i := 685) (by decide +kernel)⟩
def lw_privs_2 : List (MethodName × Nat) := [(⟨"GathersAllFaults$ValueReader", "takes", "(I)Z"⟩, 6), (⟨"GathersAllFaults$Tree", "takeOut", "(II)V"⟩, 7), (⟨"GathersAllFaults$Gatherer", "look", "(III)V"⟩, 5), (⟨"GathersAllFaults$Gatherer", "deciderOf", "(II)I"⟩, 5), (⟨"GathersAllFaults$Gatherer", "add", "(II)V"⟩, 5), (⟨"GathersAllFaults$Gatherer", "lookAtNumber", "(II)V"⟩, 5), (⟨"GathersAllFaults$Gatherer", "lookAtRecord", "(III)V"⟩, 5), (⟨"GathersAllFaults$Gatherer", "lookAtFields", "(III)V"⟩, 5), (⟨"GathersAllFaults$Gatherer", "lookForStrangers", "(II)V"⟩, 5), (⟨"GathersAllFaults$Gatherer", "lookAtDependent", "(III)V"⟩, 5), (⟨"GathersAllFaults$Gatherer", "lookAtList", "(III)V"⟩, 5), (⟨"GathersAllFaults$Gatherer", "lookForTwins", "(II)V"⟩, 5), (⟨"GathersAllFaults$Gatherer", "keepFewer", "(IIII)V"⟩, 5), (⟨"GathersAllFaults", "firstAlike", "(I)I"⟩, 14), (⟨"GathersAllFaults", "countAlike", "(I)I"⟩, 14), (⟨"GathersAllFaults$Tree", "parentOf", "(I)I"⟩, 7)]
theorem lw_r2 : ∀ q ∈ lw_privs_2, lw_okq q := List.forall_mem_cons.mpr ⟨lw_p16, List.forall_mem_cons.mpr ⟨lw_p17, List.forall_mem_cons.mpr ⟨lw_p18, List.forall_mem_cons.mpr ⟨lw_p19, List.forall_mem_cons.mpr ⟨lw_p20, List.forall_mem_cons.mpr ⟨lw_p21, List.forall_mem_cons.mpr ⟨lw_p22, List.forall_mem_cons.mpr ⟨lw_p23, List.forall_mem_cons.mpr ⟨lw_p24, List.forall_mem_cons.mpr ⟨lw_p25, List.forall_mem_cons.mpr ⟨lw_p26, List.forall_mem_cons.mpr ⟨lw_p27, List.forall_mem_cons.mpr ⟨lw_p28, List.forall_mem_cons.mpr ⟨lw_p29, List.forall_mem_cons.mpr ⟨lw_p30, List.forall_mem_cons.mpr ⟨lw_p31, fun _ h => absurd h List.not_mem_nil⟩⟩⟩⟩⟩⟩⟩⟩⟩⟩⟩⟩⟩⟩⟩⟩
theorem lw_p32 : lw_okq (⟨"GathersAllFaults", "refuseLong", "(I)J"⟩, 14) := ⟨⟨by decide +kernel, by decide +kernel⟩, List.mem_of_getElem? (i := 13) (by decide +kernel), List.mem_of_getElem? (i := 701) (by decide +kernel), List.mem_of_getElem? (i := 702) (by decide +kernel)⟩
theorem lw_p33 : lw_okq (⟨"GathersAllFaults", "numbers", "()I"⟩, 14) := ⟨⟨by decide +kernel, by decide +kernel⟩, List.mem_of_getElem? (i := 13) (by decide +kernel), List.mem_of_getElem? (i := 706) (by decide +kernel), List.mem_of_getElem? (i := 707) (by decide +kernel)⟩
theorem lw_p34 : lw_okq (⟨"GathersAllFaults", "tryLosing", "(II)V"⟩, 14) := ⟨⟨by decide +kernel, by decide +kernel⟩, List.mem_of_getElem? (i := 13) (by decide +kernel), List.mem_of_getElem? (i := 710) (by decide +kernel), List.mem_of_getElem? (i := 711) (by decide +kernel)⟩
theorem lw_p35 : lw_okq (⟨"GathersAllFaults", "firstMistold", "()I"⟩, 14) := ⟨⟨by decide +kernel, by decide +kernel⟩, List.mem_of_getElem? (i := 13) (by decide +kernel), List.mem_of_getElem? (i := 734) (by decide +kernel), List.mem_of_getElem? (i := 735) (by decide +kernel)⟩
theorem lw_p36 : lw_okq (⟨"GathersAllFaults", "tryLots", "()V"⟩, 14) := ⟨⟨by decide +kernel, by decide +kernel⟩, List.mem_of_getElem? (i := 13) (by decide +kernel), List.mem_of_getElem? (i := 754) (by decide +kernel), List.mem_of_getElem? (i := 755) (by decide +kernel)⟩
theorem lw_p37 : lw_okq (⟨"GathersAllFaults", "draw", "(I)I"⟩, 14) := ⟨⟨by decide +kernel, by decide +kernel⟩, List.mem_of_getElem? (i := 13) (by decide +kernel), List.mem_of_getElem? (i := 758) (by decide +kernel), List.mem_of_getElem? (i := 759) (by decide +kernel)⟩
theorem lw_p38 : lw_okq (⟨"GathersAllFaults", "greatestPath", "()I"⟩, 14) := ⟨⟨by decide +kernel, by decide +kernel⟩, List.mem_of_getElem? (i := 13) (by decide +kernel), List.mem_of_getElem? (i := 777) (by decide +kernel), List.mem_of_getElem? (i := 778) (by decide +kernel)⟩
theorem lw_p39 : lw_okq (⟨"GathersAllFaultsModel", "measures", "()V"⟩, 54) := ⟨⟨by decide +kernel, by decide +kernel⟩, List.mem_of_getElem? (i := 784) (by decide +kernel), List.mem_of_getElem? (i := 790) (by decide +kernel), List.mem_of_getElem? (i := 791) (by decide +kernel)⟩
theorem lw_p40 : lw_okq (⟨"GathersAllFaultsModel", "many", "(I)I"⟩, 54) := ⟨⟨by decide +kernel, by decide +kernel⟩, List.mem_of_getElem? (i := 784) (by decide +kernel), List.mem_of_getElem? (i := 794) (by decide +kernel), List.mem_of_getElem? (i := 795) (by decide +kernel)⟩
theorem lw_p41 : lw_okq (⟨"GathersAllFaultsModel", "isHolding", "(I)Z"⟩, 54) := ⟨⟨by decide +kernel, by decide +kernel⟩, List.mem_of_getElem? (i := 784) (by decide +kernel), List.mem_of_getElem? (i := 798) (by decide +kernel), List.mem_of_getElem? (i := 799) (by decide +kernel)⟩
theorem lw_p42 : lw_okq (⟨"GathersAllFaultsModel", "no", "(I)I"⟩, 54) := ⟨⟨by decide +kernel, by decide +kernel⟩, List.mem_of_getElem? (i := 784) (by decide +kernel), List.mem_of_getElem? (i := 972) (by decide +kernel), List.mem_of_getElem? (i := 973) (by decide +kernel)⟩
theorem lw_p43 : lw_okq (⟨"GathersAllFaultsModel", "passesValue", "(IZ)V"⟩, 54) := ⟨⟨by decide +kernel, by decide +kernel⟩, List.mem_of_getElem? (i := 784) (by decide +kernel), List.mem_of_getElem? (i := 980) (by decide +kernel), List.mem_of_getElem? (i := 981) (by decide +kernel)⟩
theorem lw_p44 : lw_okq (⟨"GathersAllFaultsModel", "passes", "([I)V"⟩, 54) := ⟨⟨by decide +kernel, by decide +kernel⟩, List.mem_of_getElem? (i := 784) (by decide +kernel), List.mem_of_getElem? (i := 984) (by decide +kernel), List.mem_of_getElem? (i := 985) (by decide +kernel)⟩
theorem lw_p45 : lw_okq (⟨"GathersAllFaultsModel", "passOne", "(I)I"⟩, 54) := ⟨⟨by decide +kernel, by decide +kernel⟩, List.mem_of_getElem? (i := 784) (by decide +kernel), List.mem_of_getElem? (i := 988) (by decide +kernel), List.mem_of_getElem? (i := 989) (by decide +kernel)⟩
theorem lw_p46 : lw_okq (⟨"GathersAllFaultsModel", "readsValue", "()Z"⟩, 54) := ⟨⟨by decide +kernel, by decide +kernel⟩, List.mem_of_getElem? (i := 784) (by decide +kernel), List.mem_of_getElem? (i := 992) (by decide +kernel), List.mem_of_getElem? (i := 993) (by decide +kernel)⟩
theorem lw_p47 : lw_okq (⟨"GathersAllFaultsModel", "readsPart", "()Z"⟩, 54) := ⟨⟨by decide +kernel, by decide +kernel⟩, List.mem_of_getElem? (i := 784) (by decide +kernel), List.mem_of_getElem? (i := 996) (by decide +kernel), List.mem_of_getElem? (i := 997) (by decide +kernel)⟩
def lw_privs_3 : List (MethodName × Nat) := [(⟨"GathersAllFaults", "refuseLong", "(I)J"⟩, 14), (⟨"GathersAllFaults", "numbers", "()I"⟩, 14), (⟨"GathersAllFaults", "tryLosing", "(II)V"⟩, 14), (⟨"GathersAllFaults", "firstMistold", "()I"⟩, 14), (⟨"GathersAllFaults", "tryLots", "()V"⟩, 14), (⟨"GathersAllFaults", "draw", "(I)I"⟩, 14), (⟨"GathersAllFaults", "greatestPath", "()I"⟩, 14), (⟨"GathersAllFaultsModel", "measures", "()V"⟩, 54), (⟨"GathersAllFaultsModel", "many", "(I)I"⟩, 54), (⟨"GathersAllFaultsModel", "isHolding", "(I)Z"⟩, 54), (⟨"GathersAllFaultsModel", "no", "(I)I"⟩, 54), (⟨"GathersAllFaultsModel", "passesValue", "(IZ)V"⟩, 54), (⟨"GathersAllFaultsModel", "passes", "([I)V"⟩, 54), (⟨"GathersAllFaultsModel", "passOne", "(I)I"⟩, 54), (⟨"GathersAllFaultsModel", "readsValue", "()Z"⟩, 54), (⟨"GathersAllFaultsModel", "readsPart", "()Z"⟩, 54)]
theorem lw_r3 : ∀ q ∈ lw_privs_3, lw_okq q := List.forall_mem_cons.mpr ⟨lw_p32, List.forall_mem_cons.mpr ⟨lw_p33, List.forall_mem_cons.mpr ⟨lw_p34, List.forall_mem_cons.mpr ⟨lw_p35, List.forall_mem_cons.mpr ⟨lw_p36, List.forall_mem_cons.mpr ⟨lw_p37, List.forall_mem_cons.mpr ⟨lw_p38, List.forall_mem_cons.mpr ⟨lw_p39, List.forall_mem_cons.mpr ⟨lw_p40, List.forall_mem_cons.mpr ⟨lw_p41, List.forall_mem_cons.mpr ⟨lw_p42, List.forall_mem_cons.mpr ⟨lw_p43, List.forall_mem_cons.mpr ⟨lw_p44, List.forall_mem_cons.mpr ⟨lw_p45, List.forall_mem_cons.mpr ⟨lw_p46, List.forall_mem_cons.mpr ⟨lw_p47, fun _ h => absurd h List.not_mem_nil⟩⟩⟩⟩⟩⟩⟩⟩⟩⟩⟩⟩⟩⟩⟩⟩
theorem lw_p48 : lw_okq (⟨"GathersAllFaultsModel", "sign", "()I"⟩, 54) := ⟨⟨by decide +kernel, by decide +kernel⟩, List.mem_of_getElem? (i := 784) (by decide +kernel), List.mem_of_getElem? (i := 1000) (by decide +kernel), List.mem_of_getElem? (i := 1001) (by decide +kernel)⟩
theorem lw_p49 : lw_okq (⟨"GathersAllFaultsModel", "readsNumber", "()Z"⟩, 54) := ⟨⟨by decide +kernel, by decide +kernel⟩, List.mem_of_getElem? (i := 784) (by decide +kernel), List.mem_of_getElem? (i := 1007) (by decide +kernel), List.mem_of_getElem? (i := 1008) (by decide +kernel)⟩
theorem lw_p50 : lw_okq (⟨"GathersAllFaultsModel", "beginsPart", "(II)I"⟩, 54) := ⟨⟨by decide +kernel, by decide +kernel⟩, List.mem_of_getElem? (i := 784) (by decide +kernel), List.mem_of_getElem? (i := 1011) (by decide +kernel), List.mem_of_getElem? (i := 1012) (by decide +kernel)⟩
theorem lw_p51 : lw_okq (⟨"GathersAllFaultsModel", "isBad", "(I)V"⟩, 54) := ⟨⟨by decide +kernel, by decide +kernel⟩, List.mem_of_getElem? (i := 784) (by decide +kernel), List.mem_of_getElem? (i := 1015) (by decide +kernel), List.mem_of_getElem? (i := 1016) (by decide +kernel)⟩
theorem lw_p52 : lw_okq (⟨"GathersAllFaultsModel", "digit", "()I"⟩, 54) := ⟨⟨by decide +kernel, by decide +kernel⟩, List.mem_of_getElem? (i := 784) (by decide +kernel), List.mem_of_getElem? (i := 1019) (by decide +kernel), List.mem_of_getElem? (i := 1020) (by decide +kernel)⟩
theorem lw_p53 : lw_okq (⟨"GathersAllFaultsModel", "opens", "(IIZ)V"⟩, 54) := ⟨⟨by decide +kernel, by decide +kernel⟩, List.mem_of_getElem? (i := 784) (by decide +kernel), List.mem_of_getElem? (i := 1023) (by decide +kernel), List.mem_of_getElem? (i := 1024) (by decide +kernel)⟩
theorem lw_p54 : lw_okq (⟨"GathersAllFaultsModel", "readsInside", "()Z"⟩, 54) := ⟨⟨by decide +kernel, by decide +kernel⟩, List.mem_of_getElem? (i := 784) (by decide +kernel), List.mem_of_getElem? (i := 1027) (by decide +kernel), List.mem_of_getElem? (i := 1028) (by decide +kernel)⟩
theorem lw_p55 : lw_okq (⟨"GathersAllFaultsModel", "closes", "(I)Z"⟩, 54) := ⟨⟨by decide +kernel, by decide +kernel⟩, List.mem_of_getElem? (i := 784) (by decide +kernel), List.mem_of_getElem? (i := 1031) (by decide +kernel), List.mem_of_getElem? (i := 1032) (by decide +kernel)⟩
theorem lw_p56 : lw_okq (⟨"GathersAllFaultsModel", "reads", "(I)Z"⟩, 54) := ⟨⟨by decide +kernel, by decide +kernel⟩, List.mem_of_getElem? (i := 784) (by decide +kernel), List.mem_of_getElem? (i := 1035) (by decide +kernel), List.mem_of_getElem? (i := 1036) (by decide +kernel)⟩
theorem lw_p57 : lw_okq (⟨"GathersAllFaultsModel", "readsField", "()Z"⟩, 54) := ⟨⟨by decide +kernel, by decide +kernel⟩, List.mem_of_getElem? (i := 784) (by decide +kernel), List.mem_of_getElem? (i := 1039) (by decide +kernel), List.mem_of_getElem? (i := 1040) (by decide +kernel)⟩
theorem lw_p58 : lw_okq (⟨"GathersAllFaultsModel", "nameNow", "()I"⟩, 54) := ⟨⟨by decide +kernel, by decide +kernel⟩, List.mem_of_getElem? (i := 784) (by decide +kernel), List.mem_of_getElem? (i := 1043) (by decide +kernel), List.mem_of_getElem? (i := 1044) (by decide +kernel)⟩
theorem lw_p59 : lw_okq (⟨"GathersAllFaultsModel", "passesCheck", "(IZ)V"⟩, 54) := ⟨⟨by decide +kernel, by decide +kernel⟩, List.mem_of_getElem? (i := 784) (by decide +kernel), List.mem_of_getElem? (i := 1054) (by decide +kernel), List.mem_of_getElem? (i := 1055) (by decide +kernel)⟩
theorem lw_p60 : lw_okq (⟨"GathersAllFaultsModel", "readsAllCheck", "()Z"⟩, 54) := ⟨⟨by decide +kernel, by decide +kernel⟩, List.mem_of_getElem? (i := 784) (by decide +kernel), List.mem_of_getElem? (i := 1058) (by decide +kernel), List.mem_of_getElem? (i := 1059) (by decide +kernel)⟩
theorem lw_p61 : lw_okq (⟨"GathersAllFaultsModel", "readsCheck", "()Z"⟩, 54) := ⟨⟨by decide +kernel, by decide +kernel⟩, List.mem_of_getElem? (i := 784) (by decide +kernel), List.mem_of_getElem? (i := 1062) (by decide +kernel), List.mem_of_getElem? (i := 1063) (by decide +kernel)⟩
theorem lw_p62 : lw_okq (⟨"GathersAllFaultsModel", "isInside", "()Z"⟩, 54) := ⟨⟨by decide +kernel, by decide +kernel⟩, List.mem_of_getElem? (i := 784) (by decide +kernel), List.mem_of_getElem? (i := 1066) (by decide +kernel), List.mem_of_getElem? (i := 1067) (by decide +kernel)⟩
theorem lw_p63 : lw_okq (⟨"GathersAllFaultsModel", "beginsCheck", "(I)I"⟩, 54) := ⟨⟨by decide +kernel, by decide +kernel⟩, List.mem_of_getElem? (i := 784) (by decide +kernel), List.mem_of_getElem? (i := 1070) (by decide +kernel), List.mem_of_getElem? (i := 1071) (by decide +kernel)⟩
def lw_privs_4 : List (MethodName × Nat) := [(⟨"GathersAllFaultsModel", "sign", "()I"⟩, 54), (⟨"GathersAllFaultsModel", "readsNumber", "()Z"⟩, 54), (⟨"GathersAllFaultsModel", "beginsPart", "(II)I"⟩, 54), (⟨"GathersAllFaultsModel", "isBad", "(I)V"⟩, 54), (⟨"GathersAllFaultsModel", "digit", "()I"⟩, 54), (⟨"GathersAllFaultsModel", "opens", "(IIZ)V"⟩, 54), (⟨"GathersAllFaultsModel", "readsInside", "()Z"⟩, 54), (⟨"GathersAllFaultsModel", "closes", "(I)Z"⟩, 54), (⟨"GathersAllFaultsModel", "reads", "(I)Z"⟩, 54), (⟨"GathersAllFaultsModel", "readsField", "()Z"⟩, 54), (⟨"GathersAllFaultsModel", "nameNow", "()I"⟩, 54), (⟨"GathersAllFaultsModel", "passesCheck", "(IZ)V"⟩, 54), (⟨"GathersAllFaultsModel", "readsAllCheck", "()Z"⟩, 54), (⟨"GathersAllFaultsModel", "readsCheck", "()Z"⟩, 54), (⟨"GathersAllFaultsModel", "isInside", "()Z"⟩, 54), (⟨"GathersAllFaultsModel", "beginsCheck", "(I)I"⟩, 54)]
theorem lw_r4 : ∀ q ∈ lw_privs_4, lw_okq q := List.forall_mem_cons.mpr ⟨lw_p48, List.forall_mem_cons.mpr ⟨lw_p49, List.forall_mem_cons.mpr ⟨lw_p50, List.forall_mem_cons.mpr ⟨lw_p51, List.forall_mem_cons.mpr ⟨lw_p52, List.forall_mem_cons.mpr ⟨lw_p53, List.forall_mem_cons.mpr ⟨lw_p54, List.forall_mem_cons.mpr ⟨lw_p55, List.forall_mem_cons.mpr ⟨lw_p56, List.forall_mem_cons.mpr ⟨lw_p57, List.forall_mem_cons.mpr ⟨lw_p58, List.forall_mem_cons.mpr ⟨lw_p59, List.forall_mem_cons.mpr ⟨lw_p60, List.forall_mem_cons.mpr ⟨lw_p61, List.forall_mem_cons.mpr ⟨lw_p62, List.forall_mem_cons.mpr ⟨lw_p63, fun _ h => absurd h List.not_mem_nil⟩⟩⟩⟩⟩⟩⟩⟩⟩⟩⟩⟩⟩⟩⟩⟩
theorem lw_p64 : lw_okq (⟨"GathersAllFaultsModel", "readsBounds", "(II)Z"⟩, 54) := ⟨⟨by decide +kernel, by decide +kernel⟩, List.mem_of_getElem? (i := 784) (by decide +kernel), List.mem_of_getElem? (i := 1074) (by decide +kernel), List.mem_of_getElem? (i := 1075) (by decide +kernel)⟩
theorem lw_p65 : lw_okq (⟨"GathersAllFaultsModel", "endsCheck", "(I)V"⟩, 54) := ⟨⟨by decide +kernel, by decide +kernel⟩, List.mem_of_getElem? (i := 784) (by decide +kernel), List.mem_of_getElem? (i := 1078) (by decide +kernel), List.mem_of_getElem? (i := 1079) (by decide +kernel)⟩
theorem lw_p66 : lw_okq (⟨"GathersAllFaultsModel", "readsInCheck", "()Z"⟩, 54) := ⟨⟨by decide +kernel, by decide +kernel⟩, List.mem_of_getElem? (i := 784) (by decide +kernel), List.mem_of_getElem? (i := 1082) (by decide +kernel), List.mem_of_getElem? (i := 1083) (by decide +kernel)⟩
theorem lw_p67 : lw_okq (⟨"GathersAllFaultsModel", "readsWaiter", "()Z"⟩, 54) := ⟨⟨by decide +kernel, by decide +kernel⟩, List.mem_of_getElem? (i := 784) (by decide +kernel), List.mem_of_getElem? (i := 1086) (by decide +kernel), List.mem_of_getElem? (i := 1087) (by decide +kernel)⟩
theorem lw_p68 : lw_okq (⟨"GathersAllFaultsModel", "closesRecord", "()Z"⟩, 54) := ⟨⟨by decide +kernel, by decide +kernel⟩, List.mem_of_getElem? (i := 784) (by decide +kernel), List.mem_of_getElem? (i := 1090) (by decide +kernel), List.mem_of_getElem? (i := 1091) (by decide +kernel)⟩
theorem lw_p69 : lw_okq (⟨"GathersAllFaultsModel", "readsCheckField", "()Z"⟩, 54) := ⟨⟨by decide +kernel, by decide +kernel⟩, List.mem_of_getElem? (i := 784) (by decide +kernel), List.mem_of_getElem? (i := 1094) (by decide +kernel), List.mem_of_getElem? (i := 1095) (by decide +kernel)⟩
theorem lw_p70 : lw_okq (⟨"GathersAllFaultsModel", "partAt", "(I)I"⟩, 54) := ⟨⟨by decide +kernel, by decide +kernel⟩, List.mem_of_getElem? (i := 784) (by decide +kernel), List.mem_of_getElem? (i := 1110) (by decide +kernel), List.mem_of_getElem? (i := 1111) (by decide +kernel)⟩
theorem lw_p71 : lw_okq (⟨"GathersAllFaultsModel", "putsAt", "(III)V"⟩, 54) := ⟨⟨by decide +kernel, by decide +kernel⟩, List.mem_of_getElem? (i := 784) (by decide +kernel), List.mem_of_getElem? (i := 1122) (by decide +kernel), List.mem_of_getElem? (i := 1123) (by decide +kernel)⟩
theorem lw_p72 : lw_okq (⟨"GathersAllFaultsModel", "takesOut", "(II)V"⟩, 54) := ⟨⟨by decide +kernel, by decide +kernel⟩, List.mem_of_getElem? (i := 784) (by decide +kernel), List.mem_of_getElem? (i := 1126) (by decide +kernel), List.mem_of_getElem? (i := 1127) (by decide +kernel)⟩
theorem lw_p73 : lw_okq (⟨"GathersAllFaultsModel", "manyNow", "()I"⟩, 54) := ⟨⟨by decide +kernel, by decide +kernel⟩, List.mem_of_getElem? (i := 784) (by decide +kernel), List.mem_of_getElem? (i := 1138) (by decide +kernel), List.mem_of_getElem? (i := 1139) (by decide +kernel)⟩
theorem lw_p74 : lw_okq (⟨"GathersAllFaultsModel", "findFaults", "()V"⟩, 54) := ⟨⟨by decide +kernel, by decide +kernel⟩, List.mem_of_getElem? (i := 784) (by decide +kernel), List.mem_of_getElem? (i := 1142) (by decide +kernel), List.mem_of_getElem? (i := 1143) (by decide +kernel)⟩
theorem lw_p75 : lw_okq (⟨"GathersAllFaultsModel", "looks", "(II)V"⟩, 54) := ⟨⟨by decide +kernel, by decide +kernel⟩, List.mem_of_getElem? (i := 784) (by decide +kernel), List.mem_of_getElem? (i := 1146) (by decide +kernel), List.mem_of_getElem? (i := 1147) (by decide +kernel)⟩
theorem lw_p76 : lw_okq (⟨"GathersAllFaultsModel", "goesOn", "(II)V"⟩, 54) := ⟨⟨by decide +kernel, by decide +kernel⟩, List.mem_of_getElem? (i := 784) (by decide +kernel), List.mem_of_getElem? (i := 1150) (by decide +kernel), List.mem_of_getElem? (i := 1151) (by decide +kernel)⟩
theorem lw_p77 : lw_okq (⟨"GathersAllFaultsModel", "findsNumber", "(II)V"⟩, 54) := ⟨⟨by decide +kernel, by decide +kernel⟩, List.mem_of_getElem? (i := 784) (by decide +kernel), List.mem_of_getElem? (i := 1154) (by decide +kernel), List.mem_of_getElem? (i := 1155) (by decide +kernel)⟩
theorem lw_p78 : lw_okq (⟨"GathersAllFaultsModel", "finds", "(II)V"⟩, 54) := ⟨⟨by decide +kernel, by decide +kernel⟩, List.mem_of_getElem? (i := 784) (by decide +kernel), List.mem_of_getElem? (i := 1158) (by decide +kernel), List.mem_of_getElem? (i := 1159) (by decide +kernel)⟩
theorem lw_p79 : lw_okq (⟨"GathersAllFaultsModel", "findsThere", "(II)V"⟩, 54) := ⟨⟨by decide +kernel, by decide +kernel⟩, List.mem_of_getElem? (i := 784) (by decide +kernel), List.mem_of_getElem? (i := 1162) (by decide +kernel), List.mem_of_getElem? (i := 1163) (by decide +kernel)⟩
def lw_privs_5 : List (MethodName × Nat) := [(⟨"GathersAllFaultsModel", "readsBounds", "(II)Z"⟩, 54), (⟨"GathersAllFaultsModel", "endsCheck", "(I)V"⟩, 54), (⟨"GathersAllFaultsModel", "readsInCheck", "()Z"⟩, 54), (⟨"GathersAllFaultsModel", "readsWaiter", "()Z"⟩, 54), (⟨"GathersAllFaultsModel", "closesRecord", "()Z"⟩, 54), (⟨"GathersAllFaultsModel", "readsCheckField", "()Z"⟩, 54), (⟨"GathersAllFaultsModel", "partAt", "(I)I"⟩, 54), (⟨"GathersAllFaultsModel", "putsAt", "(III)V"⟩, 54), (⟨"GathersAllFaultsModel", "takesOut", "(II)V"⟩, 54), (⟨"GathersAllFaultsModel", "manyNow", "()I"⟩, 54), (⟨"GathersAllFaultsModel", "findFaults", "()V"⟩, 54), (⟨"GathersAllFaultsModel", "looks", "(II)V"⟩, 54), (⟨"GathersAllFaultsModel", "goesOn", "(II)V"⟩, 54), (⟨"GathersAllFaultsModel", "findsNumber", "(II)V"⟩, 54), (⟨"GathersAllFaultsModel", "finds", "(II)V"⟩, 54), (⟨"GathersAllFaultsModel", "findsThere", "(II)V"⟩, 54)]
theorem lw_r5 : ∀ q ∈ lw_privs_5, lw_okq q := List.forall_mem_cons.mpr ⟨lw_p64, List.forall_mem_cons.mpr ⟨lw_p65, List.forall_mem_cons.mpr ⟨lw_p66, List.forall_mem_cons.mpr ⟨lw_p67, List.forall_mem_cons.mpr ⟨lw_p68, List.forall_mem_cons.mpr ⟨lw_p69, List.forall_mem_cons.mpr ⟨lw_p70, List.forall_mem_cons.mpr ⟨lw_p71, List.forall_mem_cons.mpr ⟨lw_p72, List.forall_mem_cons.mpr ⟨lw_p73, List.forall_mem_cons.mpr ⟨lw_p74, List.forall_mem_cons.mpr ⟨lw_p75, List.forall_mem_cons.mpr ⟨lw_p76, List.forall_mem_cons.mpr ⟨lw_p77, List.forall_mem_cons.mpr ⟨lw_p78, List.forall_mem_cons.mpr ⟨lw_p79, fun _ h => absurd h List.not_mem_nil⟩⟩⟩⟩⟩⟩⟩⟩⟩⟩⟩⟩⟩⟩⟩⟩
theorem lw_p80 : lw_okq (⟨"GathersAllFaultsModel", "looksAs", "(I)V"⟩, 54) := ⟨⟨by decide +kernel, by decide +kernel⟩, List.mem_of_getElem? (i := 784) (by decide +kernel), List.mem_of_getElem? (i := 1166) (by decide +kernel), List.mem_of_getElem? (i := 1167) (by decide +kernel)⟩
theorem lw_p81 : lw_okq (⟨"GathersAllFaultsModel", "findsRecord", "(II)V"⟩, 54) := ⟨⟨by decide +kernel, by decide +kernel⟩, List.mem_of_getElem? (i := 784) (by decide +kernel), List.mem_of_getElem? (i := 1170) (by decide +kernel), List.mem_of_getElem? (i := 1171) (by decide +kernel)⟩
theorem lw_p82 : lw_okq (⟨"GathersAllFaultsModel", "fieldAt", "(II)I"⟩, 54) := ⟨⟨by decide +kernel, by decide +kernel⟩, List.mem_of_getElem? (i := 784) (by decide +kernel), List.mem_of_getElem? (i := 1174) (by decide +kernel), List.mem_of_getElem? (i := 1175) (by decide +kernel)⟩
theorem lw_p83 : lw_okq (⟨"GathersAllFaultsModel", "endsRecord", "(II)V"⟩, 54) := ⟨⟨by decide +kernel, by decide +kernel⟩, List.mem_of_getElem? (i := 784) (by decide +kernel), List.mem_of_getElem? (i := 1178) (by decide +kernel), List.mem_of_getElem? (i := 1179) (by decide +kernel)⟩
theorem lw_p84 : lw_okq (⟨"GathersAllFaultsModel", "findsMore", "(II)V"⟩, 54) := ⟨⟨by decide +kernel, by decide +kernel⟩, List.mem_of_getElem? (i := 784) (by decide +kernel), List.mem_of_getElem? (i := 1182) (by decide +kernel), List.mem_of_getElem? (i := 1183) (by decide +kernel)⟩
theorem lw_p85 : lw_okq (⟨"GathersAllFaultsModel", "childOf", "(II)I"⟩, 54) := ⟨⟨by decide +kernel, by decide +kernel⟩, List.mem_of_getElem? (i := 784) (by decide +kernel), List.mem_of_getElem? (i := 1186) (by decide +kernel), List.mem_of_getElem? (i := 1187) (by decide +kernel)⟩
theorem lw_p86 : lw_okq (⟨"GathersAllFaultsModel", "isToldField", "(II)Z"⟩, 54) := ⟨⟨by decide +kernel, by decide +kernel⟩, List.mem_of_getElem? (i := 784) (by decide +kernel), List.mem_of_getElem? (i := 1190) (by decide +kernel), List.mem_of_getElem? (i := 1191) (by decide +kernel)⟩
theorem lw_p87 : lw_okq (⟨"GathersAllFaultsModel", "findsWaiter", "(III)V"⟩, 54) := ⟨⟨by decide +kernel, by decide +kernel⟩, List.mem_of_getElem? (i := 784) (by decide +kernel), List.mem_of_getElem? (i := 1194) (by decide +kernel), List.mem_of_getElem? (i := 1195) (by decide +kernel)⟩
theorem lw_p88 : lw_okq (⟨"GathersAllFaultsModel", "fieldOf", "(II)I"⟩, 54) := ⟨⟨by decide +kernel, by decide +kernel⟩, List.mem_of_getElem? (i := 784) (by decide +kernel), List.mem_of_getElem? (i := 1198) (by decide +kernel), List.mem_of_getElem? (i := 1199) (by decide +kernel)⟩
theorem lw_p89 : lw_okq (⟨"GathersAllFaultsModel", "isAnyBelow", "(II)Z"⟩, 54) := ⟨⟨by decide +kernel, by decide +kernel⟩, List.mem_of_getElem? (i := 784) (by decide +kernel), List.mem_of_getElem? (i := 1202) (by decide +kernel), List.mem_of_getElem? (i := 1203) (by decide +kernel)⟩
theorem lw_p90 : lw_okq (⟨"GathersAllFaultsModel", "isLess", "(II)Z"⟩, 54) := ⟨⟨by decide +kernel, by decide +kernel⟩, List.mem_of_getElem? (i := 784) (by decide +kernel), List.mem_of_getElem? (i := 1209) (by decide +kernel), List.mem_of_getElem? (i := 1210) (by decide +kernel)⟩
theorem lw_p91 : lw_okq (⟨"GathersAllFaultsModel", "areSame", "(II)Z"⟩, 54) := ⟨⟨by decide +kernel, by decide +kernel⟩, List.mem_of_getElem? (i := 784) (by decide +kernel), List.mem_of_getElem? (i := 1213) (by decide +kernel), List.mem_of_getElem? (i := 1214) (by decide +kernel)⟩
theorem lw_p92 : lw_okq (⟨"GathersAllFaultsModel", "hasAlike", "(III)Z"⟩, 54) := ⟨⟨by decide +kernel, by decide +kernel⟩, List.mem_of_getElem? (i := 784) (by decide +kernel), List.mem_of_getElem? (i := 1217) (by decide +kernel), List.mem_of_getElem? (i := 1218) (by decide +kernel)⟩
theorem lw_p93 : lw_okq (⟨"GathersAllFaultsModel", "findsList", "(II)V"⟩, 54) := ⟨⟨by decide +kernel, by decide +kernel⟩, List.mem_of_getElem? (i := 784) (by decide +kernel), List.mem_of_getElem? (i := 1224) (by decide +kernel), List.mem_of_getElem? (i := 1225) (by decide +kernel)⟩
theorem lw_p94 : lw_okq (⟨"GathersAllFaultsModel", "findsAgain", "(II)V"⟩, 54) := ⟨⟨by decide +kernel, by decide +kernel⟩, List.mem_of_getElem? (i := 784) (by decide +kernel), List.mem_of_getElem? (i := 1228) (by decide +kernel), List.mem_of_getElem? (i := 1229) (by decide +kernel)⟩
theorem lw_p95 : lw_okq (⟨"GathersAllFaultsModel", "isAgain", "(II)Z"⟩, 54) := ⟨⟨by decide +kernel, by decide +kernel⟩, List.mem_of_getElem? (i := 784) (by decide +kernel), List.mem_of_getElem? (i := 1232) (by decide +kernel), List.mem_of_getElem? (i := 1233) (by decide +kernel)⟩
def lw_privs_6 : List (MethodName × Nat) := [(⟨"GathersAllFaultsModel", "looksAs", "(I)V"⟩, 54), (⟨"GathersAllFaultsModel", "findsRecord", "(II)V"⟩, 54), (⟨"GathersAllFaultsModel", "fieldAt", "(II)I"⟩, 54), (⟨"GathersAllFaultsModel", "endsRecord", "(II)V"⟩, 54), (⟨"GathersAllFaultsModel", "findsMore", "(II)V"⟩, 54), (⟨"GathersAllFaultsModel", "childOf", "(II)I"⟩, 54), (⟨"GathersAllFaultsModel", "isToldField", "(II)Z"⟩, 54), (⟨"GathersAllFaultsModel", "findsWaiter", "(III)V"⟩, 54), (⟨"GathersAllFaultsModel", "fieldOf", "(II)I"⟩, 54), (⟨"GathersAllFaultsModel", "isAnyBelow", "(II)Z"⟩, 54), (⟨"GathersAllFaultsModel", "isLess", "(II)Z"⟩, 54), (⟨"GathersAllFaultsModel", "areSame", "(II)Z"⟩, 54), (⟨"GathersAllFaultsModel", "hasAlike", "(III)Z"⟩, 54), (⟨"GathersAllFaultsModel", "findsList", "(II)V"⟩, 54), (⟨"GathersAllFaultsModel", "findsAgain", "(II)V"⟩, 54), (⟨"GathersAllFaultsModel", "isAgain", "(II)Z"⟩, 54)]
theorem lw_r6 : ∀ q ∈ lw_privs_6, lw_okq q := List.forall_mem_cons.mpr ⟨lw_p80, List.forall_mem_cons.mpr ⟨lw_p81, List.forall_mem_cons.mpr ⟨lw_p82, List.forall_mem_cons.mpr ⟨lw_p83, List.forall_mem_cons.mpr ⟨lw_p84, List.forall_mem_cons.mpr ⟨lw_p85, List.forall_mem_cons.mpr ⟨lw_p86, List.forall_mem_cons.mpr ⟨lw_p87, List.forall_mem_cons.mpr ⟨lw_p88, List.forall_mem_cons.mpr ⟨lw_p89, List.forall_mem_cons.mpr ⟨lw_p90, List.forall_mem_cons.mpr ⟨lw_p91, List.forall_mem_cons.mpr ⟨lw_p92, List.forall_mem_cons.mpr ⟨lw_p93, List.forall_mem_cons.mpr ⟨lw_p94, List.forall_mem_cons.mpr ⟨lw_p95, fun _ h => absurd h List.not_mem_nil⟩⟩⟩⟩⟩⟩⟩⟩⟩⟩⟩⟩⟩⟩⟩⟩
theorem lw_p96 : lw_okq (⟨"GathersAllFaultsModel", "findsEither", "(II)V"⟩, 54) := ⟨⟨by decide +kernel, by decide +kernel⟩, List.mem_of_getElem? (i := 784) (by decide +kernel), List.mem_of_getElem? (i := 1236) (by decide +kernel), List.mem_of_getElem? (i := 1237) (by decide +kernel)⟩
theorem lw_p97 : lw_okq (⟨"GathersAllFaultsModel", "endsEither", "()V"⟩, 54) := ⟨⟨by decide +kernel, by decide +kernel⟩, List.mem_of_getElem? (i := 784) (by decide +kernel), List.mem_of_getElem? (i := 1240) (by decide +kernel), List.mem_of_getElem? (i := 1241) (by decide +kernel)⟩
theorem lw_p98 : lw_okq (⟨"GathersAllFaultsModel", "takesSecond", "(II)V"⟩, 54) := ⟨⟨by decide +kernel, by decide +kernel⟩, List.mem_of_getElem? (i := 784) (by decide +kernel), List.mem_of_getElem? (i := 1244) (by decide +kernel), List.mem_of_getElem? (i := 1245) (by decide +kernel)⟩
theorem lw_p99 : lw_okq (⟨"GathersAllFaultsModel", "toldAt", "(I)I"⟩, 54) := ⟨⟨by decide +kernel, by decide +kernel⟩, List.mem_of_getElem? (i := 784) (by decide +kernel), List.mem_of_getElem? (i := 1269) (by decide +kernel), List.mem_of_getElem? (i := 1270) (by decide +kernel)⟩
theorem lw_p100 : lw_okq (⟨"GathersAllFaultsModel", "allNumbers", "()I"⟩, 54) := ⟨⟨by decide +kernel, by decide +kernel⟩, List.mem_of_getElem? (i := 784) (by decide +kernel), List.mem_of_getElem? (i := 1281) (by decide +kernel), List.mem_of_getElem? (i := 1282) (by decide +kernel)⟩
theorem lw_p101 : lw_okq (⟨"GathersAllFaultsModel", "alike", "(II)I"⟩, 54) := ⟨⟨by decide +kernel, by decide +kernel⟩, List.mem_of_getElem? (i := 784) (by decide +kernel), List.mem_of_getElem? (i := 1293) (by decide +kernel), List.mem_of_getElem? (i := 1294) (by decide +kernel)⟩
theorem lw_p102 : lw_okq (⟨"GathersAllFaultsModel", "minds", "()V"⟩, 54) := ⟨⟨by decide +kernel, by decide +kernel⟩, List.mem_of_getElem? (i := 784) (by decide +kernel), List.mem_of_getElem? (i := 1305) (by decide +kernel), List.mem_of_getElem? (i := 1306) (by decide +kernel)⟩
theorem lw_p103 : lw_okq (⟨"GathersAllFaultsModel", "leavesOut", "(I)V"⟩, 54) := ⟨⟨by decide +kernel, by decide +kernel⟩, List.mem_of_getElem? (i := 784) (by decide +kernel), List.mem_of_getElem? (i := 1309) (by decide +kernel), List.mem_of_getElem? (i := 1310) (by decide +kernel)⟩
theorem lw_p104 : lw_okq (⟨"GathersAllFaultsModel", "forgets", "()V"⟩, 54) := ⟨⟨by decide +kernel, by decide +kernel⟩, List.mem_of_getElem? (i := 784) (by decide +kernel), List.mem_of_getElem? (i := 1313) (by decide +kernel), List.mem_of_getElem? (i := 1314) (by decide +kernel)⟩
theorem lw_p105 : lw_okq (⟨"GathersAllFaultsModel", "faultsWith", "(II)I"⟩, 54) := ⟨⟨by decide +kernel, by decide +kernel⟩, List.mem_of_getElem? (i := 784) (by decide +kernel), List.mem_of_getElem? (i := 1321) (by decide +kernel), List.mem_of_getElem? (i := 1322) (by decide +kernel)⟩
theorem lw_p106 : lw_okq (⟨"GathersAllFaultsModel", "lowestOf", "(I)J"⟩, 54) := ⟨⟨by decide +kernel, by decide +kernel⟩, List.mem_of_getElem? (i := 784) (by decide +kernel), List.mem_of_getElem? (i := 1333) (by decide +kernel), List.mem_of_getElem? (i := 1334) (by decide +kernel)⟩
theorem lw_p107 : lw_okq (⟨"GathersAllFaultsModel", "numbersUpTo", "(I)I"⟩, 54) := ⟨⟨by decide +kernel, by decide +kernel⟩, List.mem_of_getElem? (i := 784) (by decide +kernel), List.mem_of_getElem? (i := 1338) (by decide +kernel), List.mem_of_getElem? (i := 1339) (by decide +kernel)⟩
theorem lw_p108 : lw_okq (⟨"GathersAllFaultsModel", "losesSome", "(I)V"⟩, 54) := ⟨⟨by decide +kernel, by decide +kernel⟩, List.mem_of_getElem? (i := 784) (by decide +kernel), List.mem_of_getElem? (i := 1342) (by decide +kernel), List.mem_of_getElem? (i := 1343) (by decide +kernel)⟩
theorem lw_p109 : lw_okq (⟨"GathersAllFaultsModel", "isCodedSo", "()Z"⟩, 54) := ⟨⟨by decide +kernel, by decide +kernel⟩, List.mem_of_getElem? (i := 784) (by decide +kernel), List.mem_of_getElem? (i := 1360) (by decide +kernel), List.mem_of_getElem? (i := 1361) (by decide +kernel)⟩
theorem lw_p110 : lw_okq (⟨"GathersAllFaultsModel", "changesByLot", "()V"⟩, 54) := ⟨⟨by decide +kernel, by decide +kernel⟩, List.mem_of_getElem? (i := 784) (by decide +kernel), List.mem_of_getElem? (i := 1380) (by decide +kernel), List.mem_of_getElem? (i := 1381) (by decide +kernel)⟩
theorem lw_p111 : lw_okq (⟨"GathersAllFaultsModel", "draw", "(I)I"⟩, 54) := ⟨⟨by decide +kernel, by decide +kernel⟩, List.mem_of_getElem? (i := 784) (by decide +kernel), List.mem_of_getElem? (i := 1384) (by decide +kernel), List.mem_of_getElem? (i := 1385) (by decide +kernel)⟩
def lw_privs_7 : List (MethodName × Nat) := [(⟨"GathersAllFaultsModel", "findsEither", "(II)V"⟩, 54), (⟨"GathersAllFaultsModel", "endsEither", "()V"⟩, 54), (⟨"GathersAllFaultsModel", "takesSecond", "(II)V"⟩, 54), (⟨"GathersAllFaultsModel", "toldAt", "(I)I"⟩, 54), (⟨"GathersAllFaultsModel", "allNumbers", "()I"⟩, 54), (⟨"GathersAllFaultsModel", "alike", "(II)I"⟩, 54), (⟨"GathersAllFaultsModel", "minds", "()V"⟩, 54), (⟨"GathersAllFaultsModel", "leavesOut", "(I)V"⟩, 54), (⟨"GathersAllFaultsModel", "forgets", "()V"⟩, 54), (⟨"GathersAllFaultsModel", "faultsWith", "(II)I"⟩, 54), (⟨"GathersAllFaultsModel", "lowestOf", "(I)J"⟩, 54), (⟨"GathersAllFaultsModel", "numbersUpTo", "(I)I"⟩, 54), (⟨"GathersAllFaultsModel", "losesSome", "(I)V"⟩, 54), (⟨"GathersAllFaultsModel", "isCodedSo", "()Z"⟩, 54), (⟨"GathersAllFaultsModel", "changesByLot", "()V"⟩, 54), (⟨"GathersAllFaultsModel", "draw", "(I)I"⟩, 54)]
theorem lw_r7 : ∀ q ∈ lw_privs_7, lw_okq q := List.forall_mem_cons.mpr ⟨lw_p96, List.forall_mem_cons.mpr ⟨lw_p97, List.forall_mem_cons.mpr ⟨lw_p98, List.forall_mem_cons.mpr ⟨lw_p99, List.forall_mem_cons.mpr ⟨lw_p100, List.forall_mem_cons.mpr ⟨lw_p101, List.forall_mem_cons.mpr ⟨lw_p102, List.forall_mem_cons.mpr ⟨lw_p103, List.forall_mem_cons.mpr ⟨lw_p104, List.forall_mem_cons.mpr ⟨lw_p105, List.forall_mem_cons.mpr ⟨lw_p106, List.forall_mem_cons.mpr ⟨lw_p107, List.forall_mem_cons.mpr ⟨lw_p108, List.forall_mem_cons.mpr ⟨lw_p109, List.forall_mem_cons.mpr ⟨lw_p110, List.forall_mem_cons.mpr ⟨lw_p111, fun _ h => absurd h List.not_mem_nil⟩⟩⟩⟩⟩⟩⟩⟩⟩⟩⟩⟩⟩⟩⟩⟩
theorem lw_p112 : lw_okq (⟨"GathersAllFaultsModel", "greatestPath", "()I"⟩, 54) := ⟨⟨by decide +kernel, by decide +kernel⟩, List.mem_of_getElem? (i := 784) (by decide +kernel), List.mem_of_getElem? (i := 1395) (by decide +kernel), List.mem_of_getElem? (i := 1396) (by decide +kernel)⟩
def lw_privs_8 : List (MethodName × Nat) := [(⟨"GathersAllFaultsModel", "greatestPath", "()I"⟩, 54)]
theorem lw_r8 : ∀ q ∈ lw_privs_8, lw_okq q := List.forall_mem_cons.mpr ⟨lw_p112, fun _ h => absurd h List.not_mem_nil⟩
def lw_privs : List (MethodName × Nat) := lw_privs_1 ++ (lw_privs_2 ++ (lw_privs_3 ++ (lw_privs_4 ++ (lw_privs_5 ++ (lw_privs_6 ++ (lw_privs_7 ++ (lw_privs_8)))))))
def lw_tbl : List Cond := k2_sels lw_privs ++ tables_1
theorem lw_privs_ok : ∀ q ∈ lw_privs, lw_okq q := by
  show ∀ q ∈ lw_privs_1 ++ (lw_privs_2 ++ (lw_privs_3 ++ (lw_privs_4 ++ (lw_privs_5 ++ (lw_privs_6 ++ (lw_privs_7 ++ (lw_privs_8))))))), lw_okq q
  exact List.forall_mem_append.mpr ⟨lw_r1, List.forall_mem_append.mpr ⟨lw_r2, List.forall_mem_append.mpr ⟨lw_r3, List.forall_mem_append.mpr ⟨lw_r4, List.forall_mem_append.mpr ⟨lw_r5, List.forall_mem_append.mpr ⟨lw_r6, List.forall_mem_append.mpr ⟨lw_r7, lw_r8⟩⟩⟩⟩⟩⟩⟩
-- ===== end of PART A; then your names; then what follows =====
end
section
def R0_ : String := "GathersAllFaults$CheckReader"
def T0_ : u_T := fun k => match k with
  | 0 => ("GathersAllFaults$Reader", "open", "[I", true)
  | 1 => ("GathersAllFaults$Reader", "height", "I", false)
  | 2 => ("GathersAllFaults$Reader", "state", "I", false)
  | 3 => ("GathersAllFaults$Reader", "lone", "Z", false)
  | 4 => ("GathersAllFaults$CheckReader", "made", "LGathersAllFaults$Plan;", true)
  | 5 => ("GathersAllFaults$CheckReader", "wanting", "[I", true)
  | 6 => ("GathersAllFaults$CheckReader", "owed", "I", false)
  | 7 => ("GathersAllFaults$CheckReader", "leads", "Z", false)
  | 8 => ("GathersAllFaults$CheckReader", "returns", "I", false)
  | 9 => ("GathersAllFaults$CheckReader", "digit", "I", false)
  | _ => ("GathersAllFaults$CheckReader", "free", "I", false)
def ty0_ : Nat → FieldType := fun k => match k with
  | 0 => .array .int
  | 1 => .int
  | 2 => .int
  | 3 => .boolean
  | 4 => .object "GathersAllFaults$Plan"
  | 5 => .array .int
  | 6 => .int
  | 7 => .boolean
  | 8 => .int
  | 9 => .int
  | _ => .int
theorem nm0_ : ∀ a, a < 11 → ∀ b, b < 11 → a ≠ b → (T0_ a).2.1 ≠ (T0_ b).2.1 := by decide +kernel
theorem ty0_ok : ∀ k, k < 11 → parseFieldDescriptor (T0_ k).2.2.1 = some (ty0_ k) := by decide +kernel
def R1_ : String := "GathersAllFaults$Gatherer"
def T1_ : u_T := fun k => match k with
  | 0 => ("GathersAllFaults$Gatherer", "plan", "LGathersAllFaults$Plan;", true)
  | 1 => ("GathersAllFaults$Gatherer", "tree", "LGathersAllFaults$Tree;", false)
  | 2 => ("GathersAllFaults$Gatherer", "found", "[I", true)
  | 3 => ("GathersAllFaults$Gatherer", "size", "I", false)
  | _ => ("GathersAllFaults$Gatherer", "waiting", "I", false)
def ty1_ : Nat → FieldType := fun k => match k with
  | 0 => .object "GathersAllFaults$Plan"
  | 1 => .object "GathersAllFaults$Tree"
  | 2 => .array .int
  | 3 => .int
  | _ => .int
theorem nm1_ : ∀ a, a < 5 → ∀ b, b < 5 → a ≠ b → (T1_ a).2.1 ≠ (T1_ b).2.1 := by decide +kernel
theorem ty1_ok : ∀ k, k < 5 → parseFieldDescriptor (T1_ k).2.2.1 = some (ty1_ k) := by decide +kernel
def R2_ : String := "GathersAllFaults$Plan"
def T2_ : u_T := fun k => match k with
  | 0 => ("GathersAllFaults$Plan", "sign", "[I", true)
  | 1 => ("GathersAllFaults$Plan", "low", "[I", true)
  | 2 => ("GathersAllFaults$Plan", "high", "[I", true)
  | 3 => ("GathersAllFaults$Plan", "span", "[I", true)
  | 4 => ("GathersAllFaults$Plan", "digit", "[I", true)
  | 5 => ("GathersAllFaults$Plan", "free", "[I", true)
  | 6 => ("GathersAllFaults$Plan", "fields", "[I", true)
  | 7 => ("GathersAllFaults$Plan", "names", "[I", true)
  | 8 => ("GathersAllFaults$Plan", "firstDependent", "[I", true)
  | 9 => ("GathersAllFaults$Plan", "dependents", "[I", true)
  | 10 => ("GathersAllFaults$Plan", "dependentSign", "[I", true)
  | 11 => ("GathersAllFaults$Plan", "dependentOne", "[I", true)
  | 12 => ("GathersAllFaults$Plan", "dependentOther", "[I", true)
  | 13 => ("GathersAllFaults$Plan", "size", "I", false)
  | _ => ("GathersAllFaults$Plan", "dependentCount", "I", false)
def ty2_ : Nat → FieldType := fun k => match k with
  | 0 => .array .int
  | 1 => .array .int
  | 2 => .array .int
  | 3 => .array .int
  | 4 => .array .int
  | 5 => .array .int
  | 6 => .array .int
  | 7 => .array .int
  | 8 => .array .int
  | 9 => .array .int
  | 10 => .array .int
  | 11 => .array .int
  | 12 => .array .int
  | 13 => .int
  | _ => .int
theorem nm2_ : ∀ a, a < 15 → ∀ b, b < 15 → a ≠ b → (T2_ a).2.1 ≠ (T2_ b).2.1 := by decide +kernel
theorem ty2_ok : ∀ k, k < 15 → parseFieldDescriptor (T2_ k).2.2.1 = some (ty2_ k) := by decide +kernel
def R3_ : String := "GathersAllFaults$Tree"
def T3_ : u_T := fun k => match k with
  | 0 => ("GathersAllFaults$Tree", "kind", "[I", true)
  | 1 => ("GathersAllFaults$Tree", "num", "[I", true)
  | 2 => ("GathersAllFaults$Tree", "kids", "[I", true)
  | 3 => ("GathersAllFaults$Tree", "digit", "[I", true)
  | 4 => ("GathersAllFaults$Tree", "span", "[I", true)
  | 5 => ("GathersAllFaults$Tree", "road", "[I", true)
  | _ => ("GathersAllFaults$Tree", "size", "I", false)
def ty3_ : Nat → FieldType := fun k => match k with
  | 0 => .array .int
  | 1 => .array .int
  | 2 => .array .int
  | 3 => .array .int
  | 4 => .array .int
  | 5 => .array .int
  | _ => .int
theorem nm3_ : ∀ a, a < 7 → ∀ b, b < 7 → a ≠ b → (T3_ a).2.1 ≠ (T3_ b).2.1 := by decide +kernel
theorem ty3_ok : ∀ k, k < 7 → parseFieldDescriptor (T3_ k).2.2.1 = some (ty3_ k) := by decide +kernel
def R4_ : String := "GathersAllFaults$ValueReader"
def T4_ : u_T := fun k => match k with
  | 0 => ("GathersAllFaults$Reader", "open", "[I", true)
  | 1 => ("GathersAllFaults$Reader", "height", "I", false)
  | 2 => ("GathersAllFaults$Reader", "state", "I", false)
  | 3 => ("GathersAllFaults$Reader", "lone", "Z", false)
  | 4 => ("GathersAllFaults$ValueReader", "made", "LGathersAllFaults$Tree;", true)
  | _ => ("GathersAllFaults$ValueReader", "digit", "I", false)
def ty4_ : Nat → FieldType := fun k => match k with
  | 0 => .array .int
  | 1 => .int
  | 2 => .int
  | 3 => .boolean
  | 4 => .object "GathersAllFaults$Tree"
  | _ => .int
theorem nm4_ : ∀ a, a < 6 → ∀ b, b < 6 → a ≠ b → (T4_ a).2.1 ≠ (T4_ b).2.1 := by decide +kernel
theorem ty4_ok : ∀ k, k < 6 → parseFieldDescriptor (T4_ k).2.2.1 = some (ty4_ k) := by decide +kernel
def R5_ : String := "GathersAllFaults"
def T5_ : u_T := fun k => match k with
  | 0 => ("GathersAllFaults", "now", "LGathersAllFaults$Tree;", true)
  | 1 => ("GathersAllFaults", "trial", "LGathersAllFaults$Tree;", true)
  | 2 => ("GathersAllFaults", "gatherer", "LGathersAllFaults$Gatherer;", true)
  | 3 => ("GathersAllFaults", "valueReader", "LGathersAllFaults$ValueReader;", true)
  | 4 => ("GathersAllFaults", "checkReader", "LGathersAllFaults$CheckReader;", true)
  | 5 => ("GathersAllFaults", "letters", "[I", true)
  | 6 => ("GathersAllFaults", "letterCount", "I", false)
  | 7 => ("GathersAllFaults", "told", "[I", true)
  | 8 => ("GathersAllFaults", "toldCount", "I", false)
  | 9 => ("GathersAllFaults", "refusals", "[I", true)
  | 10 => ("GathersAllFaults", "imageTree", "LGathersAllFaults$Tree;", true)
  | 11 => ("GathersAllFaults", "imagePlan", "LGathersAllFaults$Plan;", true)
  | 12 => ("GathersAllFaults", "imaged", "Z", false)
  | _ => ("GathersAllFaults", "seed", "I", false)
def ty5_ : Nat → FieldType := fun k => match k with
  | 0 => .object "GathersAllFaults$Tree"
  | 1 => .object "GathersAllFaults$Tree"
  | 2 => .object "GathersAllFaults$Gatherer"
  | 3 => .object "GathersAllFaults$ValueReader"
  | 4 => .object "GathersAllFaults$CheckReader"
  | 5 => .array .int
  | 6 => .int
  | 7 => .array .int
  | 8 => .int
  | 9 => .array .int
  | 10 => .object "GathersAllFaults$Tree"
  | 11 => .object "GathersAllFaults$Plan"
  | 12 => .boolean
  | _ => .int
theorem nm5_ : ∀ a, a < 14 → ∀ b, b < 14 → a ≠ b → (T5_ a).2.1 ≠ (T5_ b).2.1 := by decide +kernel
theorem ty5_ok : ∀ k, k < 14 → parseFieldDescriptor (T5_ k).2.2.1 = some (ty5_ k) := by decide +kernel
def R6_ : String := "GathersAllFaultsModel"
def T6_ : u_T := fun k => match k with
  | 0 => ("GathersAllFaultsModel", "refused", "[I", true)
  | 1 => ("GathersAllFaultsModel", "sort", "[I", true)
  | 2 => ("GathersAllFaultsModel", "number", "[I", true)
  | 3 => ("GathersAllFaultsModel", "name", "[I", true)
  | 4 => ("GathersAllFaultsModel", "size", "[I", true)
  | 5 => ("GathersAllFaultsModel", "path", "[I", true)
  | 6 => ("GathersAllFaultsModel", "parts", "I", false)
  | 7 => ("GathersAllFaultsModel", "kindOf", "[I", true)
  | 8 => ("GathersAllFaultsModel", "lowOf", "[I", true)
  | 9 => ("GathersAllFaultsModel", "highOf", "[I", true)
  | 10 => ("GathersAllFaultsModel", "firstOf", "[I", true)
  | 11 => ("GathersAllFaultsModel", "secondOf", "[I", true)
  | 12 => ("GathersAllFaultsModel", "fieldOwner", "[I", true)
  | 13 => ("GathersAllFaultsModel", "fieldName", "[I", true)
  | 14 => ("GathersAllFaultsModel", "fieldMay", "[I", true)
  | 15 => ("GathersAllFaultsModel", "fieldCheck", "[I", true)
  | 16 => ("GathersAllFaultsModel", "waiterOwner", "[I", true)
  | 17 => ("GathersAllFaultsModel", "waiterKind", "[I", true)
  | 18 => ("GathersAllFaultsModel", "waiterOne", "[I", true)
  | 19 => ("GathersAllFaultsModel", "waiterOther", "[I", true)
  | 20 => ("GathersAllFaultsModel", "checks", "I", false)
  | 21 => ("GathersAllFaultsModel", "fields", "I", false)
  | 22 => ("GathersAllFaultsModel", "waiters", "I", false)
  | 23 => ("GathersAllFaultsModel", "wholes", "I", false)
  | 24 => ("GathersAllFaultsModel", "faultPath", "[I", true)
  | 25 => ("GathersAllFaultsModel", "faultCode", "[I", true)
  | 26 => ("GathersAllFaultsModel", "lookCheck", "[I", true)
  | 27 => ("GathersAllFaultsModel", "lookPart", "[I", true)
  | 28 => ("GathersAllFaultsModel", "lookPhase", "[I", true)
  | 29 => ("GathersAllFaultsModel", "lookMark", "[I", true)
  | 30 => ("GathersAllFaultsModel", "lookWaits", "[I", true)
  | 31 => ("GathersAllFaultsModel", "lookEnd", "[I", true)
  | 32 => ("GathersAllFaultsModel", "lookEndWaits", "[I", true)
  | 33 => ("GathersAllFaultsModel", "found", "I", false)
  | 34 => ("GathersAllFaultsModel", "waiting", "I", false)
  | 35 => ("GathersAllFaultsModel", "deep", "I", false)
  | 36 => ("GathersAllFaultsModel", "tape", "[I", true)
  | 37 => ("GathersAllFaultsModel", "openAt", "[I", true)
  | 38 => ("GathersAllFaultsModel", "openSort", "[I", true)
  | 39 => ("GathersAllFaultsModel", "openNames", "[I", true)
  | 40 => ("GathersAllFaultsModel", "openMany", "[I", true)
  | 41 => ("GathersAllFaultsModel", "openInside", "[I", true)
  | 42 => ("GathersAllFaultsModel", "taped", "I", false)
  | 43 => ("GathersAllFaultsModel", "reading", "I", false)
  | 44 => ("GathersAllFaultsModel", "badAt", "I", false)
  | 45 => ("GathersAllFaultsModel", "open", "I", false)
  | 46 => ("GathersAllFaultsModel", "nameTold", "I", false)
  | 47 => ("GathersAllFaultsModel", "kept", "[I", true)
  | 48 => ("GathersAllFaultsModel", "hasImage", "Z", false)
  | 49 => ("GathersAllFaultsModel", "isKeeping", "Z", false)
  | 50 => ("GathersAllFaultsModel", "cursor", "I", false)
  | 51 => ("GathersAllFaultsModel", "row", "[I", true)
  | 52 => ("GathersAllFaultsModel", "rowMany", "I", false)
  | _ => ("GathersAllFaultsModel", "lots", "I", false)
def ty6_ : Nat → FieldType := fun k => match k with
  | 0 => .array .int
  | 1 => .array .int
  | 2 => .array .int
  | 3 => .array .int
  | 4 => .array .int
  | 5 => .array .int
  | 6 => .int
  | 7 => .array .int
  | 8 => .array .int
  | 9 => .array .int
  | 10 => .array .int
  | 11 => .array .int
  | 12 => .array .int
  | 13 => .array .int
  | 14 => .array .int
  | 15 => .array .int
  | 16 => .array .int
  | 17 => .array .int
  | 18 => .array .int
  | 19 => .array .int
  | 20 => .int
  | 21 => .int
  | 22 => .int
  | 23 => .int
  | 24 => .array .int
  | 25 => .array .int
  | 26 => .array .int
  | 27 => .array .int
  | 28 => .array .int
  | 29 => .array .int
  | 30 => .array .int
  | 31 => .array .int
  | 32 => .array .int
  | 33 => .int
  | 34 => .int
  | 35 => .int
  | 36 => .array .int
  | 37 => .array .int
  | 38 => .array .int
  | 39 => .array .int
  | 40 => .array .int
  | 41 => .array .int
  | 42 => .int
  | 43 => .int
  | 44 => .int
  | 45 => .int
  | 46 => .int
  | 47 => .array .int
  | 48 => .boolean
  | 49 => .boolean
  | 50 => .int
  | 51 => .array .int
  | 52 => .int
  | _ => .int
theorem nm6_ : ∀ a, a < 54 → ∀ b, b < 54 → a ≠ b → (T6_ a).2.1 ≠ (T6_ b).2.1 := by decide +kernel
theorem ty6_ok : ∀ k, k < 54 → parseFieldDescriptor (T6_ k).2.2.1 = some (ty6_ k) := by decide +kernel
abbrev classes : List vw_C := [(R0_, T0_, 11), (R1_, T1_, 5), (R2_, T2_, 15), (R3_, T3_, 7), (R4_, T4_, 6), (R5_, T5_, 14), (R6_, T6_, 54)]
def fs0_ : List (Nat × Nat × (Nat ⊕ Nat)) := [(1, 1, .inr 96), (0, 0, .inl 0), (0, 0, .inl 0), (3, 0, .inl 0), (1, 2, .inl 2), (1, 16, .inr 96), (0, 0, .inl 0), (3, 0, .inl 0), (0, 0, .inl 0), (0, 0, .inl 0), (0, 0, .inl 0)]
def fs1_ : List (Nat × Nat × (Nat ⊕ Nat)) := [(1, 1, .inl 2), (2, 0, .inl 3), (1, 22, .inr 6144), (0, 0, .inl 0), (0, 0, .inl 0)]
def fs2_ : List (Nat × Nat × (Nat ⊕ Nat)) := [(1, 1, .inr 24), (1, 2, .inr 24), (1, 3, .inr 24), (1, 4, .inr 24), (1, 5, .inr 24), (1, 6, .inr 24), (1, 7, .inr 24), (1, 8, .inr 24), (1, 9, .inr 24), (1, 10, .inr 24), (1, 11, .inr 32), (1, 12, .inr 32), (1, 13, .inr 32), (0, 0, .inl 0), (0, 0, .inl 0)]
def fs3_ : List (Nat × Nat × (Nat ⊕ Nat)) := [(1, 1, .inr 20), (1, 2, .inr 20), (1, 3, .inr 20), (1, 4, .inr 20), (1, 5, .inr 20), (1, 6, .inr 20), (0, 0, .inl 0)]
def fs4_ : List (Nat × Nat × (Nat ⊕ Nat)) := [(1, 1, .inr 96), (0, 0, .inl 0), (0, 0, .inl 0), (3, 0, .inl 0), (1, 2, .inl 3), (0, 0, .inl 0)]
def fs5_ : List (Nat × Nat × (Nat ⊕ Nat)) := [(1, 1, .inl 3), (1, 8, .inl 3), (1, 15, .inl 1), (1, 38, .inl 4), (1, 47, .inl 0), (1, 64, .inr 96), (0, 0, .inl 0), (1, 65, .inr 32), (0, 0, .inl 0), (1, 66, .inr 7), (1, 67, .inl 3), (1, 74, .inl 2), (3, 0, .inl 0), (0, 0, .inl 0)]
def fs6_ : List (Nat × Nat × (Nat ⊕ Nat)) := [(1, 1, .inr 7), (1, 2, .inr 21), (1, 3, .inr 21), (1, 4, .inr 21), (1, 5, .inr 21), (1, 6, .inr 21), (0, 0, .inl 0), (1, 7, .inr 25), (1, 8, .inr 25), (1, 9, .inr 25), (1, 10, .inr 25), (1, 11, .inr 25), (1, 12, .inr 25), (1, 13, .inr 25), (1, 14, .inr 25), (1, 15, .inr 25), (1, 16, .inr 33), (1, 17, .inr 33), (1, 18, .inr 33), (1, 19, .inr 33), (0, 0, .inl 0), (0, 0, .inl 0), (0, 0, .inl 0), (0, 0, .inl 0), (1, 20, .inr 16384), (1, 21, .inr 16384), (1, 22, .inr 400), (1, 23, .inr 400), (1, 24, .inr 400), (1, 25, .inr 400), (1, 26, .inr 400), (1, 27, .inr 400), (1, 28, .inr 400), (0, 0, .inl 0), (0, 0, .inl 0), (0, 0, .inl 0), (1, 29, .inr 96), (1, 30, .inr 100), (1, 31, .inr 100), (1, 32, .inr 100), (1, 33, .inr 100), (1, 34, .inr 100), (0, 0, .inl 0), (0, 0, .inl 0), (0, 0, .inl 0), (0, 0, .inl 0), (0, 0, .inl 0), (1, 35, .inr 1400), (3, 0, .inl 0), (3, 0, .inl 0), (0, 0, .inl 0), (1, 36, .inr 32), (0, 0, .inl 0), (0, 0, .inl 0)]
/-- of each class the sorts of its fields: 0 an int, 1 a fixed reference (how far off, what kind), 2 a reference that changes, 3 a boolean -/
def cfs : List (List (Nat × Nat × (Nat ⊕ Nat))) := [fs0_, fs1_, fs2_, fs3_, fs4_, fs5_, fs6_]
def LX : List (Nat ⊕ Nat) := [.inl 5, .inl 3, .inr 20, .inr 20, .inr 20, .inr 20, .inr 20, .inr 20, .inl 3, .inr 20, .inr 20, .inr 20, .inr 20, .inr 20, .inr 20, .inl 1, .inl 2, .inr 24, .inr 24, .inr 24, .inr 24, .inr 24, .inr 24, .inr 24, .inr 24, .inr 24, .inr 24, .inr 32, .inr 32, .inr 32, .inl 3, .inr 20, .inr 20, .inr 20, .inr 20, .inr 20, .inr 20, .inr 6144, .inl 4, .inr 96, .inl 3, .inr 20, .inr 20, .inr 20, .inr 20, .inr 20, .inr 20, .inl 0, .inr 96, .inl 2, .inr 24, .inr 24, .inr 24, .inr 24, .inr 24, .inr 24, .inr 24, .inr 24, .inr 24, .inr 24, .inr 32, .inr 32, .inr 32, .inr 96, .inr 96, .inr 32, .inr 7, .inl 3, .inr 20, .inr 20, .inr 20, .inr 20, .inr 20, .inr 20, .inl 2, .inr 24, .inr 24, .inr 24, .inr 24, .inr 24, .inr 24, .inr 24, .inr 24, .inr 24, .inr 24, .inr 32, .inr 32, .inr 32]
def LM : List (Nat ⊕ Nat) := [.inl 6, .inr 7, .inr 21, .inr 21, .inr 21, .inr 21, .inr 21, .inr 25, .inr 25, .inr 25, .inr 25, .inr 25, .inr 25, .inr 25, .inr 25, .inr 25, .inr 33, .inr 33, .inr 33, .inr 33, .inr 16384, .inr 16384, .inr 400, .inr 400, .inr 400, .inr 400, .inr 400, .inr 400, .inr 400, .inr 96, .inr 100, .inr 100, .inr 100, .inr 100, .inr 100, .inr 1400, .inr 32]
/-- the words that every method of ours has: those of the tables that stay, and which stumble a reader runs -/
def EX : List Cond := [.selects "GathersAllFaults$ValueReader" ⟨"GathersAllFaults$Reader", "stumble", "([II)I"⟩ ⟨"GathersAllFaults$Reader", "stumble", "([II)I"⟩, .selects "GathersAllFaults$CheckReader" ⟨"GathersAllFaults$Reader", "stumble", "([II)I"⟩ ⟨"GathersAllFaults$Reader", "stumble", "([II)I"⟩]
def ALL : List Cond := EX ++ lw_tbl.filter goodWord
/-- words that stay by laws of their own -/
def NW : List Cond := [.methodLinkNest "GathersAllFaults$Reader" 33 ⟨"GathersAllFaults", "at", "([II)I"⟩ "GathersAllFaults", .methodLinkNest "GathersAllFaults$Reader" 40 ⟨"GathersAllFaults", "set", "([III)V"⟩ "GathersAllFaults", .methodLinkNest "GathersAllFaults$CheckReader" 36 ⟨"GathersAllFaults", "isDigit", "(I)Z"⟩ "GathersAllFaults", .methodLinkNest "GathersAllFaults$CheckReader" 45 ⟨"GathersAllFaults", "isName", "(I)Z"⟩ "GathersAllFaults", .methodLinkNest "GathersAllFaults$ValueReader" 22 ⟨"GathersAllFaults", "isDigit", "(I)Z"⟩ "GathersAllFaults", .methodLinkNest "GathersAllFaults$ValueReader" 37 ⟨"GathersAllFaults", "isName", "(I)Z"⟩ "GathersAllFaults", .methodLinkNest "GathersAllFaults$CheckReader" 88 ⟨"GathersAllFaults", "at", "([II)I"⟩ "GathersAllFaults", .methodLinkNest "GathersAllFaults$CheckReader" 99 ⟨"GathersAllFaults", "set", "([III)V"⟩ "GathersAllFaults", .methodLinkNest "GathersAllFaults$CheckReader" 106 ⟨"GathersAllFaults", "digitOf", "(I)I"⟩ "GathersAllFaults", .methodLinkNest "GathersAllFaults$Plan" 62 ⟨"GathersAllFaults", "at", "([II)I"⟩ "GathersAllFaults", .methodLinkNest "GathersAllFaults$Plan" 66 ⟨"GathersAllFaults", "set", "([III)V"⟩ "GathersAllFaults", .methodLinkNest "GathersAllFaults$ValueReader" 63 ⟨"GathersAllFaults", "at", "([II)I"⟩ "GathersAllFaults", .methodLinkNest "GathersAllFaults$ValueReader" 81 ⟨"GathersAllFaults", "set", "([III)V"⟩ "GathersAllFaults", .methodLinkNest "GathersAllFaults$Tree" 42 ⟨"GathersAllFaults", "set", "([III)V"⟩ "GathersAllFaults", .methodLinkNest "GathersAllFaults$ValueReader" 85 ⟨"GathersAllFaults", "digitOf", "(I)I"⟩ "GathersAllFaults", .methodLinkNest "GathersAllFaults$Tree" 38 ⟨"GathersAllFaults", "at", "([II)I"⟩ "GathersAllFaults", .methodLinkNest "GathersAllFaults$Tree" 34 ⟨"GathersAllFaults", "copy", "([I[I)V"⟩ "GathersAllFaults", .methodLinkNest "GathersAllFaults$Plan" 55 ⟨"GathersAllFaults", "copy", "([I[I)V"⟩ "GathersAllFaults", .methodLinkNest "GathersAllFaults$Tree" 57 ⟨"GathersAllFaults", "close", "([IIII)V"⟩ "GathersAllFaults", .methodLinkNest "GathersAllFaults$Gatherer" 40 ⟨"GathersAllFaults", "at", "([II)I"⟩ "GathersAllFaults", .methodLinkNest "GathersAllFaults$Gatherer" 52 ⟨"GathersAllFaults", "set", "([III)V"⟩ "GathersAllFaults", .methodLinkNest "GathersAllFaults$Gatherer" 155 ⟨"GathersAllFaults", "close", "([IIII)V"⟩ "GathersAllFaults", .declares ⟨"GathersAllFaults$Reader", "goesOn", "(I)Z"⟩, .declares ⟨"GathersAllFaults$Reader", "build", "([II)I"⟩]
theorem NW_t0 : (.methodLinkNest "GathersAllFaults$Reader" 33 ⟨"GathersAllFaults", "at", "([II)I"⟩ "GathersAllFaults" : Cond) ∈ tables_1 := List.mem_of_getElem? (i := 317) (by decide +kernel)
theorem NW_t1 : (.methodLinkNest "GathersAllFaults$Reader" 40 ⟨"GathersAllFaults", "set", "([III)V"⟩ "GathersAllFaults" : Cond) ∈ tables_1 := List.mem_of_getElem? (i := 350) (by decide +kernel)
theorem NW_t2 : (.methodLinkNest "GathersAllFaults$CheckReader" 36 ⟨"GathersAllFaults", "isDigit", "(I)Z"⟩ "GathersAllFaults" : Cond) ∈ tables_1 := List.mem_of_getElem? (i := 355) (by decide +kernel)
theorem NW_t3 : (.methodLinkNest "GathersAllFaults$CheckReader" 45 ⟨"GathersAllFaults", "isName", "(I)Z"⟩ "GathersAllFaults" : Cond) ∈ tables_1 := List.mem_of_getElem? (i := 362) (by decide +kernel)
theorem NW_t4 : (.methodLinkNest "GathersAllFaults$ValueReader" 22 ⟨"GathersAllFaults", "isDigit", "(I)Z"⟩ "GathersAllFaults" : Cond) ∈ tables_1 := List.mem_of_getElem? (i := 372) (by decide +kernel)
theorem NW_t5 : (.methodLinkNest "GathersAllFaults$ValueReader" 37 ⟨"GathersAllFaults", "isName", "(I)Z"⟩ "GathersAllFaults" : Cond) ∈ tables_1 := List.mem_of_getElem? (i := 394) (by decide +kernel)
theorem NW_t6 : (.methodLinkNest "GathersAllFaults$CheckReader" 88 ⟨"GathersAllFaults", "at", "([II)I"⟩ "GathersAllFaults" : Cond) ∈ tables_1 := List.mem_of_getElem? (i := 405) (by decide +kernel)
theorem NW_t7 : (.methodLinkNest "GathersAllFaults$CheckReader" 99 ⟨"GathersAllFaults", "set", "([III)V"⟩ "GathersAllFaults" : Cond) ∈ tables_1 := List.mem_of_getElem? (i := 406) (by decide +kernel)
theorem NW_t8 : (.methodLinkNest "GathersAllFaults$CheckReader" 106 ⟨"GathersAllFaults", "digitOf", "(I)I"⟩ "GathersAllFaults" : Cond) ∈ tables_1 := List.mem_of_getElem? (i := 411) (by decide +kernel)
theorem NW_t9 : (.methodLinkNest "GathersAllFaults$Plan" 62 ⟨"GathersAllFaults", "at", "([II)I"⟩ "GathersAllFaults" : Cond) ∈ tables_1 := List.mem_of_getElem? (i := 422) (by decide +kernel)
theorem NW_t10 : (.methodLinkNest "GathersAllFaults$Plan" 66 ⟨"GathersAllFaults", "set", "([III)V"⟩ "GathersAllFaults" : Cond) ∈ tables_1 := List.mem_of_getElem? (i := 431) (by decide +kernel)
theorem NW_t11 : (.methodLinkNest "GathersAllFaults$ValueReader" 63 ⟨"GathersAllFaults", "at", "([II)I"⟩ "GathersAllFaults" : Cond) ∈ tables_1 := List.mem_of_getElem? (i := 456) (by decide +kernel)
theorem NW_t12 : (.methodLinkNest "GathersAllFaults$ValueReader" 81 ⟨"GathersAllFaults", "set", "([III)V"⟩ "GathersAllFaults" : Cond) ∈ tables_1 := List.mem_of_getElem? (i := 461) (by decide +kernel)
theorem NW_t13 : (.methodLinkNest "GathersAllFaults$Tree" 42 ⟨"GathersAllFaults", "set", "([III)V"⟩ "GathersAllFaults" : Cond) ∈ tables_1 := List.mem_of_getElem? (i := 466) (by decide +kernel)
theorem NW_t14 : (.methodLinkNest "GathersAllFaults$ValueReader" 85 ⟨"GathersAllFaults", "digitOf", "(I)I"⟩ "GathersAllFaults" : Cond) ∈ tables_1 := List.mem_of_getElem? (i := 471) (by decide +kernel)
theorem NW_t15 : (.methodLinkNest "GathersAllFaults$Tree" 38 ⟨"GathersAllFaults", "at", "([II)I"⟩ "GathersAllFaults" : Cond) ∈ tables_1 := List.mem_of_getElem? (i := 476) (by decide +kernel)
theorem NW_t16 : (.methodLinkNest "GathersAllFaults$Tree" 34 ⟨"GathersAllFaults", "copy", "([I[I)V"⟩ "GathersAllFaults" : Cond) ∈ tables_1 := List.mem_of_getElem? (i := 485) (by decide +kernel)
theorem NW_t17 : (.methodLinkNest "GathersAllFaults$Plan" 55 ⟨"GathersAllFaults", "copy", "([I[I)V"⟩ "GathersAllFaults" : Cond) ∈ tables_1 := List.mem_of_getElem? (i := 505) (by decide +kernel)
theorem NW_t18 : (.methodLinkNest "GathersAllFaults$Tree" 57 ⟨"GathersAllFaults", "close", "([IIII)V"⟩ "GathersAllFaults" : Cond) ∈ tables_1 := List.mem_of_getElem? (i := 530) (by decide +kernel)
theorem NW_t19 : (.methodLinkNest "GathersAllFaults$Gatherer" 40 ⟨"GathersAllFaults", "at", "([II)I"⟩ "GathersAllFaults" : Cond) ∈ tables_1 := List.mem_of_getElem? (i := 553) (by decide +kernel)
theorem NW_t20 : (.methodLinkNest "GathersAllFaults$Gatherer" 52 ⟨"GathersAllFaults", "set", "([III)V"⟩ "GathersAllFaults" : Cond) ∈ tables_1 := List.mem_of_getElem? (i := 558) (by decide +kernel)
theorem NW_t21 : (.methodLinkNest "GathersAllFaults$Gatherer" 155 ⟨"GathersAllFaults", "close", "([IIII)V"⟩ "GathersAllFaults" : Cond) ∈ tables_1 := List.mem_of_getElem? (i := 610) (by decide +kernel)
theorem NW_t22 : (.declares ⟨"GathersAllFaults$Reader", "goesOn", "(I)Z"⟩ : Cond) ∈ tables_1 := List.mem_of_getElem? (i := 319) (by decide +kernel)
theorem NW_t23 : (.declares ⟨"GathersAllFaults$Reader", "build", "([II)I"⟩ : Cond) ∈ tables_1 := List.mem_of_getElem? (i := 396) (by decide +kernel)
theorem NW_tbl : ∀ w ∈ NW, w ∈ tables_1 := (List.forall_mem_cons.mpr ⟨NW_t0, (List.forall_mem_cons.mpr ⟨NW_t1, (List.forall_mem_cons.mpr ⟨NW_t2, (List.forall_mem_cons.mpr ⟨NW_t3, (List.forall_mem_cons.mpr ⟨NW_t4, (List.forall_mem_cons.mpr ⟨NW_t5, (List.forall_mem_cons.mpr ⟨NW_t6, (List.forall_mem_cons.mpr ⟨NW_t7, (List.forall_mem_cons.mpr ⟨NW_t8, (List.forall_mem_cons.mpr ⟨NW_t9, (List.forall_mem_cons.mpr ⟨NW_t10, (List.forall_mem_cons.mpr ⟨NW_t11, (List.forall_mem_cons.mpr ⟨NW_t12, (List.forall_mem_cons.mpr ⟨NW_t13, (List.forall_mem_cons.mpr ⟨NW_t14, (List.forall_mem_cons.mpr ⟨NW_t15, (List.forall_mem_cons.mpr ⟨NW_t16, (List.forall_mem_cons.mpr ⟨NW_t17, (List.forall_mem_cons.mpr ⟨NW_t18, (List.forall_mem_cons.mpr ⟨NW_t19, (List.forall_mem_cons.mpr ⟨NW_t20, (List.forall_mem_cons.mpr ⟨NW_t21, (List.forall_mem_cons.mpr ⟨NW_t22, (List.forall_mem_cons.mpr ⟨NW_t23, (fun _ h => absurd h List.not_mem_nil)⟩)⟩)⟩)⟩)⟩)⟩)⟩)⟩)⟩)⟩)⟩)⟩)⟩)⟩)⟩)⟩)⟩)⟩)⟩)⟩)⟩)⟩)⟩)⟩)
theorem NW_kind : ∀ w ∈ NW, (∃ a i x h, w = .methodLinkNest a i x h) ∨ ∃ x, w = .declares x := by
  intro w hw
  simp only [NW, List.mem_cons, List.not_mem_nil, or_false] at hw
  rcases hw with rfl | rfl | rfl | rfl | rfl | rfl | rfl | rfl | rfl | rfl | rfl | rfl | rfl | rfl | rfl | rfl | rfl | rfl | rfl | rfl | rfl | rfl | rfl | rfl
  all_goals first | exact Or.inl ⟨_, _, _, _, rfl⟩ | exact Or.inr ⟨_, rfl⟩
theorem NW_warm {s U : State} (hW : s.WarmedH U.vm) : ∀ w ∈ NW, va_Nw w s → va_Nw w U := by
  intro w hw h
  rcases NW_kind w hw with ⟨a, i, x, hh, rfl⟩ | ⟨x, rfl⟩
  · exact va_Nw.warmM hW h
  · exact va_Nw.warmD hW h
theorem NW_tab : ∀ w ∈ NW, w.onTables = true := by
  intro w hw
  rcases NW_kind w hw with ⟨a, i, x, hh, rfl⟩ | ⟨x, rfl⟩ <;> rfl
theorem ALL_good : ∀ w ∈ ALL, (w.onTables && w.keeps) = true ∨ ∃ ty, w = .arrayClass ty := by
  intro w h
  rcases List.mem_append.mp h with h | h
  · simp only [EX, List.mem_cons, List.not_mem_nil, or_false] at h
    rcases h with rfl | rfl <;> exact Or.inl rfl
  · exact good_of_word (List.mem_filter.mp h).2
theorem ALL_in {w : Cond} (i : Nat) (h : tables_1[i]? = some w) (hg : goodWord w = true) : w ∈ ALL := List.mem_append_right _ (List.mem_filter.mpr ⟨List.mem_append_right _ (List.mem_of_getElem? h), hg⟩)
theorem ALL_inP {w : Cond} (i : Nat) (h : (k2_sels lw_privs)[i]? = some w) (hg : goodWord w = true) : w ∈ ALL := List.mem_append_right _ (List.mem_filter.mpr ⟨List.mem_append_left _ (List.mem_of_getElem? h), hg⟩)
def CK : List (String × Nat × Int32) := [("GathersAllFaults", 134, 99999), ("java/lang/Integer", 265, 1431655765), ("java/lang/Integer", 266, 858993459), ("java/lang/Integer", 267, 252645135), ("GathersAllFaults", 213, 1664525), ("GathersAllFaults", 214, 1013904223), ("GathersAllFaults", 215, 2147483647), ("GathersAllFaultsModel", 379, 99999), ("GathersAllFaultsModel", 428, 1664525), ("GathersAllFaultsModel", 429, 1013904223), ("GathersAllFaultsModel", 430, 2147483647)]
theorem CK_in : ∀ q ∈ CK, Cond.constant q.1 q.2.1 q.2.2 ∈ ALL := (List.forall_mem_cons.mpr ⟨ALL_in 636 (by decide +kernel) rfl, (List.forall_mem_cons.mpr ⟨ALL_in 716 (by decide +kernel) rfl, (List.forall_mem_cons.mpr ⟨ALL_in 717 (by decide +kernel) rfl, (List.forall_mem_cons.mpr ⟨ALL_in 718 (by decide +kernel) rfl, (List.forall_mem_cons.mpr ⟨ALL_in 761 (by decide +kernel) rfl, (List.forall_mem_cons.mpr ⟨ALL_in 762 (by decide +kernel) rfl, (List.forall_mem_cons.mpr ⟨ALL_in 763 (by decide +kernel) rfl, (List.forall_mem_cons.mpr ⟨ALL_in 1259 (by decide +kernel) rfl, (List.forall_mem_cons.mpr ⟨ALL_in 1387 (by decide +kernel) rfl, (List.forall_mem_cons.mpr ⟨ALL_in 1388 (by decide +kernel) rfl, (List.forall_mem_cons.mpr ⟨ALL_in 1389 (by decide +kernel) rfl, (fun _ h => absurd h List.not_mem_nil)⟩)⟩)⟩)⟩)⟩)⟩)⟩)⟩)⟩)⟩)⟩)
def CKL : List (String × Nat × Int64) := [("GathersAllFaults", 208, 4000000000000000000), ("GathersAllFaultsModel", 128, 4000000000000000000)]
theorem CKL_in : ∀ q ∈ CKL, Cond.constantLong q.1 q.2.1 q.2.2 ∈ ALL := (List.forall_mem_cons.mpr ⟨ALL_in 704 (by decide +kernel) rfl, (List.forall_mem_cons.mpr ⟨ALL_in 1336 (by decide +kernel) rfl, (fun _ h => absurd h List.not_mem_nil)⟩)⟩)
theorem ws0_in : ∀ w ∈ u_ws R0_ T0_ 11, w ∈ ALL := by
  have h : (u_ws R0_ T0_ 11).all (fun w => decide (w ∈ tables_1) && goodWord w) = true := by decide +kernel
  intro w hw
  have h1 := List.all_eq_true.mp h w hw
  simp only [Bool.and_eq_true, decide_eq_true_eq] at h1
  exact List.mem_append_right _ (List.mem_filter.mpr ⟨List.mem_append_right _ h1.1, h1.2⟩)
theorem ws1_in : ∀ w ∈ u_ws R1_ T1_ 5, w ∈ ALL := by
  have h : (u_ws R1_ T1_ 5).all (fun w => decide (w ∈ tables_1) && goodWord w) = true := by decide +kernel
  intro w hw
  have h1 := List.all_eq_true.mp h w hw
  simp only [Bool.and_eq_true, decide_eq_true_eq] at h1
  exact List.mem_append_right _ (List.mem_filter.mpr ⟨List.mem_append_right _ h1.1, h1.2⟩)
theorem ws2_in : ∀ w ∈ u_ws R2_ T2_ 15, w ∈ ALL := by
  have h : (u_ws R2_ T2_ 15).all (fun w => decide (w ∈ tables_1) && goodWord w) = true := by decide +kernel
  intro w hw
  have h1 := List.all_eq_true.mp h w hw
  simp only [Bool.and_eq_true, decide_eq_true_eq] at h1
  exact List.mem_append_right _ (List.mem_filter.mpr ⟨List.mem_append_right _ h1.1, h1.2⟩)
theorem ws3_in : ∀ w ∈ u_ws R3_ T3_ 7, w ∈ ALL := by
  have h : (u_ws R3_ T3_ 7).all (fun w => decide (w ∈ tables_1) && goodWord w) = true := by decide +kernel
  intro w hw
  have h1 := List.all_eq_true.mp h w hw
  simp only [Bool.and_eq_true, decide_eq_true_eq] at h1
  exact List.mem_append_right _ (List.mem_filter.mpr ⟨List.mem_append_right _ h1.1, h1.2⟩)
theorem ws4_in : ∀ w ∈ u_ws R4_ T4_ 6, w ∈ ALL := by
  have h : (u_ws R4_ T4_ 6).all (fun w => decide (w ∈ tables_1) && goodWord w) = true := by decide +kernel
  intro w hw
  have h1 := List.all_eq_true.mp h w hw
  simp only [Bool.and_eq_true, decide_eq_true_eq] at h1
  exact List.mem_append_right _ (List.mem_filter.mpr ⟨List.mem_append_right _ h1.1, h1.2⟩)
theorem ws5_in : ∀ w ∈ u_ws R5_ T5_ 14, w ∈ ALL := by
  have h : (u_ws R5_ T5_ 14).all (fun w => decide (w ∈ tables_1) && goodWord w) = true := by decide +kernel
  intro w hw
  have h1 := List.all_eq_true.mp h w hw
  simp only [Bool.and_eq_true, decide_eq_true_eq] at h1
  exact List.mem_append_right _ (List.mem_filter.mpr ⟨List.mem_append_right _ h1.1, h1.2⟩)
theorem ws6_in : ∀ w ∈ u_ws R6_ T6_ 54, w ∈ ALL := by
  have h : (u_ws R6_ T6_ 54).all (fun w => decide (w ∈ tables_1) && goodWord w) = true := by decide +kernel
  intro w hw
  have h1 := List.all_eq_true.mp h w hw
  simp only [Bool.and_eq_true, decide_eq_true_eq] at h1
  exact List.mem_append_right _ (List.mem_filter.mpr ⟨List.mem_append_right _ h1.1, h1.2⟩)
/-- what the class of number ci is -/
def cOK (ci : Nat) (C : String) (T : u_T) (N : Nat) : Prop := classes[ci]? = some (C, T, N) ∧ (∀ w ∈ u_ws C T N, w ∈ ALL) ∧ (∀ a, a < N → ∀ b, b < N → a ≠ b → (T a).2.1 ≠ (T b).2.1) ∧ ∃ ty0 : Nat → FieldType, ∀ k, k < N → parseFieldDescriptor (T k).2.2.1 = some (ty0 k)
theorem c0_ok : cOK 0 R0_ T0_ 11 := ⟨rfl, ws0_in, nm0_, ty0_, ty0_ok⟩
theorem c1_ok : cOK 1 R1_ T1_ 5 := ⟨rfl, ws1_in, nm1_, ty1_, ty1_ok⟩
theorem c2_ok : cOK 2 R2_ T2_ 15 := ⟨rfl, ws2_in, nm2_, ty2_, ty2_ok⟩
theorem c3_ok : cOK 3 R3_ T3_ 7 := ⟨rfl, ws3_in, nm3_, ty3_, ty3_ok⟩
theorem c4_ok : cOK 4 R4_ T4_ 6 := ⟨rfl, ws4_in, nm4_, ty4_, ty4_ok⟩
theorem c5_ok : cOK 5 R5_ T5_ 14 := ⟨rfl, ws5_in, nm5_, ty5_, ty5_ok⟩
theorem c6_ok : cOK 6 R6_ T6_ 54 := ⟨rfl, ws6_in, nm6_, ty6_, ty6_ok⟩
end
section
/-! THE SIMPLE MACHINE (sm): worlds of int cells with fixed references, methods by weakest start, all over the kit's rows. No name of the claim's own stands here but ALL, NW, classes, cfs of part 00. -/
abbrev kd : Type := Nat ⊕ Nat
abbrev sv : Type := Int32 ⊕ (Int64 ⊕ (Nat × kd))
abbrev sS : Type := Nat → Nat → Int32
abbrev sL : Type := List (Nat × sv)
abbrev sF : Type := Nat × Nat × kd
abbrev sY : Type := MethodName × ByteArray × Nat × Option FieldType
/-- pc, length, instruction, target, cases of a switch, constants -/
abbrev sT : Type := Nat × Nat × Instr × Nat × List (Int32 × Nat) × Int32 × Int64
abbrev sP : Type := List sv → sS → Option (Option sv × sS)
/-- index, kind, receiver's class, callee, how many arguments, named method, owner or host, what it does if that is known -/
abbrev sE : Type := Nat × Nat × Nat × sY × Nat × MethodName × String × sP
abbrev sI (x : Int32) : sv := .inl x
abbrev sJ (x : Int64) : sv := .inr (.inl x)
abbrev sR (b : Nat) (k : kd) : sv := .inr (.inr (b, k))
def cv (ad : Nat → Nat) (v : sv) : Value := match v with
  | .inl x => .int x
  | .inr (.inl y) => .long y
  | .inr (.inr q) => .ref (ad q.1)
def cvL (ad : Nat → Nat) (ls : sL) : List (Nat × Value) := ls.map (fun q => (q.1, cv ad q.2))
def gl (i : Nat) : sL → Option sv
  | [] => none
  | q :: r => cond (Nat.beq q.1 i) (some q.2) (gl i r)
def il (i : Nat) (v : sv) : sL → sL
  | [] => [(i, v)]
  | q :: r => cond (Nat.blt i q.1) ((i, v) :: q :: r) (q :: il i v r)
def cat2 (v : sv) : Bool := match v with
  | .inr (.inl _) => true
  | _ => false
def sl1 (i : Nat) (v : sv) (ls : sL) : sL := il i v (ls.filter (fun q => !(Nat.beq q.1 i) && !(Nat.beq (q.1 + 1) i && cat2 q.2)))
def sl2 (i : Nat) (v : sv) (ls : sL) : sL := il i v (ls.filter (fun q => !(Nat.beq q.1 i) && (!(Nat.beq q.1 (i + 1)) && !(Nat.beq (q.1 + 1) i && cat2 q.2))))
def up (σ : sS) (a k : Nat) (x : Int32) : sS := fun c => if c = a then upd (σ a) k x else σ c
def fv (ad : Nat → Nat) (σ : sS) (b k : Nat) (s : sF) : Value := match s.1 with
  | 1 => .ref (ad (b + s.2.1))
  | 2 => .ref (ad (σ b k).toNatClampNeg)
  | _ => .int (σ b k)
def fvs (ad : Nat → Nat) (σ : sS) (b : Nat) : Nat → List sF → List Value
  | _, [] => []
  | k, s :: r => fv ad σ b k s :: fvs ad σ b (k + 1) r
def ent (cA : ClassId) (ad : Nat → Nat) (σ : sS) (b : Nat) (k : kd) : va_E := match k with
  | .inl ci => .inr (ci, fvs ad σ b 0 (cfs.getD ci []))
  | .inr n => .inl (cA, n, .inl (σ b))
def wl (cA : ClassId) (ad : Nat → Nat) (σ : sS) (Y : List kd) : va_W := Y.mapIdx (fun b k => (ad b, ent cA ad σ b k))
theorem wl_get {cA : ClassId} {ad : Nat → Nat} {σ : sS} {Y : List kd} {b : Nat} {k : kd} (h : Y[b]? = some k) : (wl cA ad σ Y)[b]? = some (ad b, ent cA ad σ b k) := by
  unfold wl
  rw [List.getElem?_mapIdx, h]
  rfl
theorem fvs_get (ad : Nat → Nat) (σ : sS) (b : Nat) : ∀ (l : List sF) (k j : Nat) (s : sF), l[j]? = some s → (fvs ad σ b k l)[j]? = some (fv ad σ b (k + j) s)
  | [], k, j, s, h => by simp at h
  | x :: r, k, 0, s, h => by
    simp at h
    subst h
    rfl
  | x :: r, k, j + 1, s, h => by
    have h' : r[j]? = some s := by simpa using h
    have := fvs_get ad σ b r (k + 1) j s h'
    simp only [fvs, List.getElem?_cons_succ]
    rw [this]
    congr 2
    omega
theorem fvs_len (ad : Nat → Nat) (σ : sS) (b : Nat) : ∀ (l : List sF) (k : Nat), (fvs ad σ b k l).length = l.length
  | [], k => rfl
  | x :: r, k => by simp [fvs, fvs_len ad σ b r (k + 1)]
theorem up_same (σ : sS) (a k : Nat) (x : Int32) : up σ a k x a = upd (σ a) k x := by simp [up]
theorem up_ne (σ : sS) {a c : Nat} (k : Nat) (x : Int32) (h : c ≠ a) : up σ a k x c = σ c := by simp [up, h]
theorem ent_ne (cA : ClassId) (ad : Nat → Nat) (σ σ' : sS) {b : Nat} (k : kd) (h : σ' b = σ b) : ent cA ad σ' b k = ent cA ad σ b k := by
  cases k with
  | inl ci =>
    have e : ∀ (l : List sF) (j : Nat), fvs ad σ' b j l = fvs ad σ b j l := by
      intro l
      induction l with
      | nil => intro j; rfl
      | cons s r ih =>
        intro j
        simp only [fvs]
        rw [ih (j + 1)]
        congr 1
        unfold fv
        rw [h]
    show (Sum.inr (ci, fvs ad σ' b 0 (cfs.getD ci [])) : va_E) = Sum.inr (ci, fvs ad σ b 0 (cfs.getD ci []))
    rw [e]
  | inr n =>
    show (Sum.inl (cA, n, Sum.inl (σ' b)) : va_E) = Sum.inl (cA, n, Sum.inl (σ b))
    rw [h]
/-- a world in which one cell is another -/
theorem wl_set {cA : ClassId} {ad : Nat → Nat} {σ σ' : sS} {Y : List kd} {a : Nat} {k : kd} (h : Y[a]? = some k) (ho : ∀ c, c ≠ a → σ' c = σ c) {x : va_E} (hx : ent cA ad σ' a k = x) : (wl cA ad σ Y).set a (ad a, x) = wl cA ad σ' Y := by
  apply List.ext_getElem?
  intro i
  have hl := (List.getElem?_eq_some_iff.mp h).1
  by_cases hi : i = a
  · subst hi
    rw [List.getElem?_set_self (by unfold wl; simpa using hl), wl_get h, hx]
  · rw [List.getElem?_set_ne (Ne.symm hi)]
    unfold wl
    rw [List.getElem?_mapIdx, List.getElem?_mapIdx]
    cases hY : Y[i]? with
    | none => rfl
    | some q =>
      show some (ad i, ent cA ad σ i q) = some (ad i, ent cA ad σ' i q)
      rw [ent_ne cA ad σ σ' q (ho i hi)]
theorem fvs_set (ad : Nat → Nat) (σ : sS) (b j : Nat) (x : Int32) : ∀ (l : List sF) (k : Nat) (s : sF), k ≤ j → l[j - k]? = some s → (fvs ad σ b k l).set (j - k) (fv ad (up σ b j x) b j s) = fvs ad (up σ b j x) b k l
  | [], k, s, hk, h => by simp at h
  | q :: r, k, s, hk, h => by
    have tail : ∀ (l : List sF) (k : Nat), j < k → fvs ad σ b k l = fvs ad (up σ b j x) b k l := by
      intro l
      induction l with
      | nil => intro k _; rfl
      | cons s r ih =>
        intro k hk
        simp only [fvs]
        rw [ih (k + 1) (by omega)]
        congr 1
        unfold fv
        rw [up_same]
        have : upd (σ b) j x k = σ b k := by simp [upd]; omega
        rw [this]
    by_cases e : j = k
    · subst e
      have hq : q = s := by simpa using h
      subst hq
      simp only [Nat.sub_self, fvs, List.set_cons_zero]
      rw [tail r (j + 1) (by omega)]
    · have e2 : j - k = (j - (k + 1)) + 1 := by omega
      rw [e2] at h ⊢
      have h' : r[j - (k + 1)]? = some s := by simpa using h
      simp only [fvs, List.set_cons_succ]
      rw [fvs_set ad σ b j x r (k + 1) s (by omega) h']
      congr 1
      unfold fv
      rw [up_same]
      have : upd (σ b) j x k = σ b k := by simp [upd]; omega
      rw [this]
/-! values and locals that fit the layout -/
def wtv (Y : List kd) (v : sv) : Prop := match v with
  | .inr (.inr q) => Y[q.1]? = some q.2
  | _ => True
def wtL (Y : List kd) (ls : sL) : Prop := ∀ q ∈ ls, wtv Y q.2
def wtS (Y : List kd) (st : List sv) : Prop := ∀ v ∈ st, wtv Y v
/-- fixed references point at cells of the kind that the class says -/
def lok (Y : List kd) : Prop := Y.length < 2 ^ 31 ∧ ∀ (b ci : Nat), Y[b]? = some (.inl ci) → ∀ (k : Nat) (s : sF), (cfs.getD ci [])[k]? = some s → s.1 = 1 → Y[b + s.2.1]? = some s.2.2
theorem gl_mem : ∀ (ls : sL) (i : Nat) (v : sv), gl i ls = some v → (i, v) ∈ ls
  | [], i, v, h => by simp [gl] at h
  | q :: r, i, v, h => by
    obtain ⟨j, w⟩ := q
    simp only [gl] at h
    cases hb : Nat.beq j i with
    | true =>
      rw [hb] at h
      have e := Nat.eq_of_beq_eq_true hb
      subst e
      have hw : w = v := by simpa using h
      subst hw
      exact List.mem_cons_self
    | false =>
      rw [hb] at h
      exact List.mem_cons_of_mem _ (gl_mem r i v h)
theorem cvL_mem {ad : Nat → Nat} {ls : sL} {i : Nat} {v : sv} (h : (i, v) ∈ ls) : (i, cv ad v) ∈ cvL ad ls := List.mem_map.mpr ⟨(i, v), h, rfl⟩
theorem lv_gl {ad : Nat → Nat} {lsA : Array Slot} {nL : Nat} {ls : sL} (h : lv_has lsA nL (cvL ad ls)) {i : Nat} {v : sv} (hg : gl i ls = some v) : lsA[i]? = some (.val (cv ad v)) := h.2.2 (i, cv ad v) (cvL_mem (gl_mem ls i v hg))
theorem wt_gl {Y : List kd} {ls : sL} (h : wtL Y ls) {i : Nat} {v : sv} (hg : gl i ls = some v) : wtv Y v := h _ (gl_mem ls i v hg)
theorem il_mem : ∀ (ls : sL) (i : Nat) (v : sv) (q : Nat × sv), q ∈ il i v ls → q = (i, v) ∨ q ∈ ls
  | [], i, v, q, h => by
    simp only [il, List.mem_singleton] at h
    exact Or.inl h
  | p :: r, i, v, q, h => by
    simp only [il] at h
    cases hb : Nat.blt i p.1 with
    | true =>
      rw [hb] at h
      exact List.mem_cons.mp h
    | false =>
      rw [hb] at h
      rcases List.mem_cons.mp h with e | h
      · exact Or.inr (e ▸ List.mem_cons_self)
      · rcases il_mem r i v q h with e | h
        · exact Or.inl e
        · exact Or.inr (List.mem_cons_of_mem _ h)
theorem cv_cat (ad : Nat → Nat) (v : sv) : (cv ad v).category = if cat2 v then 2 else 1 := by
  rcases v with x | y | q <;> rfl
theorem lv_has_mono {lsA : Array Slot} {nL : Nat} {l l' : List (Nat × Value)} (h : lv_has lsA nL l) (hm : ∀ q ∈ l', q ∈ l) : lv_has lsA nL l' := ⟨h.1, h.2.1, fun q hq => h.2.2 q (hm q hq)⟩
theorem sl1_mem {ad : Nat → Nat} {ls : sL} {i : Nat} {v : sv} : ∀ q ∈ cvL ad (sl1 i v ls), q ∈ (i, cv ad v) :: (cvL ad ls).filter (fun q => !(q.1 == i) && !(q.1 + 1 == i && q.2.category == 2)) := by
  intro q hq
  obtain ⟨p, hp, rfl⟩ := List.mem_map.mp hq
  rcases il_mem _ i v p hp with rfl | h
  · exact List.mem_cons_self
  · obtain ⟨h1, h2⟩ := List.mem_filter.mp h
    refine List.mem_cons_of_mem _ (List.mem_filter.mpr ⟨cvL_mem h1, ?_⟩)
    rw [cv_cat]
    have e : ∀ a b : Nat, Nat.beq a b = (a == b) := fun a b => by rw [Bool.eq_iff_iff]; simp [Nat.beq_eq]
    simp only [e] at h2
    cases hc : cat2 p.2 <;> simp [hc] at h2 ⊢ <;> exact h2
theorem sl2_mem {ad : Nat → Nat} {ls : sL} {i : Nat} {v : sv} : ∀ q ∈ cvL ad (sl2 i v ls), q ∈ (i, cv ad v) :: (cvL ad ls).filter (fun q => !(q.1 == i) && (!(q.1 == i + 1) && !(q.1 + 1 == i && q.2.category == 2))) := by
  intro q hq
  obtain ⟨p, hp, rfl⟩ := List.mem_map.mp hq
  rcases il_mem _ i v p hp with rfl | h
  · exact List.mem_cons_self
  · obtain ⟨h1, h2⟩ := List.mem_filter.mp h
    refine List.mem_cons_of_mem _ (List.mem_filter.mpr ⟨cvL_mem h1, ?_⟩)
    rw [cv_cat]
    have e : ∀ a b : Nat, Nat.beq a b = (a == b) := fun a b => by rw [Bool.eq_iff_iff]; simp [Nat.beq_eq]
    simp only [e] at h2
    cases hc : cat2 p.2 <;> simp [hc] at h2 ⊢ <;> exact h2
theorem wt_sl1 {Y : List kd} {ls : sL} {i : Nat} {v : sv} (h : wtL Y ls) (hv : wtv Y v) : wtL Y (sl1 i v ls) := by
  intro q hq
  rcases il_mem _ i v q hq with rfl | h1
  · exact hv
  · exact h q (List.mem_filter.mp h1).1
theorem wt_sl2 {Y : List kd} {ls : sL} {i : Nat} {v : sv} (h : wtL Y ls) (hv : wtv Y v) : wtL Y (sl2 i v ls) := by
  intro q hq
  rcases il_mem _ i v q hq with rfl | h1
  · exact hv
  · exact h q (List.mem_filter.mp h1).1
theorem wtS_tail {Y : List kd} {v : sv} {st : List sv} (h : wtS Y (v :: st)) : wtS Y st := fun w hw => h w (List.mem_cons_of_mem _ hw)
theorem wtS_head {Y : List kd} {v : sv} {st : List sv} (h : wtS Y (v :: st)) : wtv Y v := h v List.mem_cons_self
theorem wtS_cons {Y : List kd} {v : sv} {st : List sv} (hv : wtv Y v) (h : wtS Y st) : wtS Y (v :: st) := fun w hw => by
  rcases List.mem_cons.mp hw with rfl | h1
  · exact hv
  · exact h w h1
end
section
/-! what a method does on worlds: Jd, and the weakest start of one instruction -/
abbrev rmD (d : Nat) : Room := { frames := d, cells := 0, slots := 0, locals := 40 * d + 40 }
def wsY (y : sY) : List Cond := .code y.1 y.2.1 y.2.2.1 y.2.2.2 :: ALL
def sCx (Y : List kd) (y : sY) (d : Nat) (D : va_G) (cA : ClassId) (p : Program) (R : Room) (s : State) (m : MethodId) (args : Array Value) (meth : Method) (c : Code) : Prop :=
  p.tables.exec = Jvm.exec ∧ c.code = y.2.1 ∧ c.maxLocals = y.2.2.1 ∧ s.vm.findClass y.1.cls = some m.cls ∧ meth.sig.returnType = y.2.2.2 ∧ meth.locks = false ∧ (∀ w ∈ ALL, w.before args s = true) ∧ (∀ w ∈ NW, va_Nw w s) ∧ va_K D classes [(cA, .int)] s ∧ d ≤ R.frames ∧ 40 * d + 40 ≤ R.locals ∧ lok Y
def sQc (Y : List kd) (D : va_G) (cA : ClassId) (ad : Nat → Nat) (A : Nat → Prop) (Q : Option sv → sS → Prop) : Array Value → State → Outcome → State → Prop := fun _ st o t =>
  (∃ (r : Option sv) (σ : sS), o = .returned (r.map (cv ad)) ∧ (∀ v ∈ r, wtv Y v) ∧ Q r σ ∧ va_P D classes (wl cA ad σ Y) t.heap) ∧ va_F A st t
/-- from here the method comes to its end, with Q of its answer and of the world -/
def Jd (Y : List kd) (d : Nat) (y : sY) (pc : Nat) (ls : sL) (st : List sv) (σ : sS) (Q : Option sv → sS → Prop) : Prop :=
  ∀ (l : Launch) (D : va_G) (cA : ClassId) (ad : Nat → Nat) (A : Nat → Prop) (p : Program) (e : Env) (R : Room) (s : State) (m : MethodId) (args : Array Value) (below : List Frame) (meth : Method) (c : Code),
    sCx Y y d D cA p R s m args meth c → (∀ q : Nat, s.heap.size ≤ q → A q) →
    ∀ (H : Heap) (locs : List Loc) (lsA : Array Slot), va_P D classes (wl cA ad σ Y) H → va_D A (wl cA ad σ Y) → va_S A s.heap H locs → lv_has lsA y.2.2.1 (cvL ad ls) → wtL Y ls → wtS Y st →
      W p l e R s m args below meth c H locs 0 0 (MQ below (sQc Y D cA ad A Q) args s 0 0 A) (F0 m pc lsA (st.map (cv ad)))
def argL : Nat → List sv → sL
  | _, [] => []
  | i, v :: r => (i, v) :: argL (cond (cat2 v) (i + 2) (i + 1)) r
/-- a call, by its arguments (the receiver first) -/
def CJ (Y : List kd) (d : Nat) (y : sY) (as : List sv) (σ : sS) (Q : Option sv → sS → Prop) : Prop := Jd Y d y 0 (argL 0 as) [] σ Q
theorem Jd.mono {Y : List kd} {d d' : Nat} {y : sY} {pc : Nat} {ls : sL} {st : List sv} {σ : sS} {Q : Option sv → sS → Prop} (h : Jd Y d y pc ls st σ Q) (hd : d ≤ d') : Jd Y d' y pc ls st σ Q := by
  intro l D cA ad A p e R s m args below meth c hC
  obtain ⟨h1, h2, h3, h4, h5, h6, h7, h8, h9, h10, h11, h12⟩ := hC
  exact h l D cA ad A p e R s m args below meth c ⟨h1, h2, h3, h4, h5, h6, h7, h8, h9, Nat.le_trans hd h10, by omega, h12⟩
theorem Jd.sub {Y : List kd} {d : Nat} {y : sY} {pc : Nat} {ls ls' : sL} {st : List sv} {σ : sS} {Q : Option sv → sS → Prop} (h : Jd Y d y pc ls' st σ Q) (hm : ∀ q ∈ ls', q ∈ ls) : Jd Y d y pc ls st σ Q := by
  intro l D cA ad A p e R s m args below meth c hC hA H locs lsA hP hD hS hl hw hws
  refine h l D cA ad A p e R s m args below meth c hC hA H locs lsA hP hD hS (lv_has_mono hl ?_) (fun q hq => hw q (hm q hq)) hws
  intro q hq
  obtain ⟨r, hr, rfl⟩ := List.mem_map.mp hq
  exact List.mem_map.mpr ⟨r, hm r hr, rfl⟩
theorem W.imp {p : Program} {l : Launch} {e : Env} {R : Room} {s : State} {m : MethodId} {args : Array Value} {below : List Frame} {meth : Method} {c : Code} {H : Heap} {locs : List Loc} {cells slots : Nat} {Q Q' : State → Prop} {g : JFrame} (h : W p l e R s m args below meth c H locs cells slots Q g) (hQ : ∀ t, Q t → Q' t) : W p l e R s m args below meth c H locs cells slots Q' g := by
  intro T hT X
  obtain ⟨t, a, b⟩ := h T hT X
  exact ⟨t, a, hQ t b⟩
theorem Jd.imp {Y : List kd} {d : Nat} {y : sY} {pc : Nat} {ls : sL} {st : List sv} {σ : sS} {Q Q' : Option sv → sS → Prop} (h : Jd Y d y pc ls st σ Q) (hQ : ∀ r σ, Q r σ → Q' r σ) : Jd Y d y pc ls st σ Q' := by
  intro l D cA ad A p e R s m args below meth c hC hA H locs lsA hP hD hS hl hw hws
  refine W.imp (h l D cA ad A p e R s m args below meth c hC hA H locs lsA hP hD hS hl hw hws) ?_
  rintro t ⟨o, h1, h2, ⟨⟨r, σ', e1, e2, e3, e4⟩, h4⟩, h5⟩
  exact ⟨o, h1, h2, ⟨⟨r, σ', e1, e2, hQ r σ' e3, e4⟩, h4⟩, h5⟩
theorem CJ.mono {Y : List kd} {d d' : Nat} {y : sY} {as : List sv} {σ : sS} {Q : Option sv → sS → Prop} (h : CJ Y d y as σ Q) (hd : d ≤ d') : CJ Y d' y as σ Q := Jd.mono h hd
theorem CJ.imp {Y : List kd} {d : Nat} {y : sY} {as : List sv} {σ : sS} {Q Q' : Option sv → sS → Prop} (h : CJ Y d y as σ Q) (hQ : ∀ r σ, Q r σ → Q' r σ) : CJ Y d y as σ Q' := Jd.imp h hQ
/-! the contract of the machine out of CJ -/
def sPc (Y : List kd) (D : va_G) (cA : ClassId) (ad : Nat → Nat) (σ : sS) (as : List sv) (sz : Nat) : Array Value → State → Prop :=
  va_Pc (as.map (cv ad)) (fun U => U.heap.size = sz ∧ va_P D classes (wl cA ad σ Y) U.heap ∧ va_K D classes [(cA, .int)] U ∧ va_D (fun _ => True) (wl cA ad σ Y) ∧ ∀ w ∈ NW, va_Nw w U)
theorem sPc_blind {Y : List kd} {D : va_G} {cA : ClassId} {ad : Nat → Nat} {σ : sS} {as : List sv} {sz : Nat} : FrameBlind (sPc Y D cA ad σ as sz) := by
  rintro a U g mk ⟨h1, h2, h3, h4, h5, h6⟩
  exact ⟨h1, h2, h3, va_K.moved (u := U) (U := U.calling g mk a) (Vm.Alike.refl U.vm) h4, h5, fun w hw => va_Nw.same (NW_tab w hw) (u := U) (U := U.calling g mk a) rfl (h6 w hw)⟩
theorem argL_cv (ad : Nat → Nat) : ∀ (as : List sv) (i : Nat), cvL ad (argL i as) = lv_args i (as.map (cv ad))
  | [], i => rfl
  | v :: r, i => by
    simp only [argL, cvL, List.map_cons, lv_args]
    have h := argL_cv ad r (cond (cat2 v) (i + 2) (i + 1))
    simp only [cvL] at h
    rw [h, cv_cat]
    cases cat2 v <;> rfl
theorem argL_mem : ∀ (as : List sv) (i : Nat) (q : Nat × sv), q ∈ argL i as → q.2 ∈ as
  | [], i, q, h => by cases h
  | v :: r, i, q, h => by
    rcases List.mem_cons.mp h with rfl | h
    · exact List.mem_cons_self
    · exact List.mem_cons_of_mem _ (argL_mem r _ q h)
theorem met_of {Y : List kd} {d : Nat} {y : sY} {as : List sv} {σ : sS} {Q : Option sv → sS → Prop} (h : CJ Y d y as σ Q) (hy : plainName y.1.cls = true) (hY : lok Y) (hwt : wtS Y as) (l : Launch) (D : va_G) (cA : ClassId) (ad : Nat → Nat) (sz : Nat) (hn : (lg_sl (as.map (cv ad))).length ≤ y.2.2.1) :
    Met l y.1 (wsY y) (rmD d) (sPc Y D cA ad σ as sz) (sQc Y D cA ad (va_A (wl cA ad σ Y) sz) Q) 0 0 (va_A (wl cA ad σ Y) sz) := by
  refine Met.ofW (cc := y.2.1) (maxL := y.2.2.1) (ret := y.2.2.2) (ws' := ALL) hy rfl ?_
  intro p e s m args below meth c s₁ B hml hv
  obtain ⟨rfl, hsz, hP, hK, hD0, hN⟩ := hv
  have hts := atoms_spec (ws := wsY y) B.pre
  have hown : s.vm.findClass y.1.cls = some m.cls := findClass_of_methodNamed B.named
  subst hsz
  have hl := lv_entry (as.map (cv ad)) (n := y.2.2.1) hn
  rw [lg_entry_eq]
  rw [← argL_cv] at hl
  exact h l D cA ad _ p e _ s m _ below meth c ⟨B.exec, B.bytes, hml, hown, B.returns, B.notSynchronized, fun w hw => hts w (List.mem_cons_of_mem _ hw), hN, hK, Nat.le_refl _, Nat.le_refl _, hY⟩ (fun q hq => Or.inr hq) s.heap [] _ hP hD0.self va_S.rf hl (fun q hq => hwt _ (argL_mem as 0 q hq)) (fun v hv => by cases hv)
end
section
/-! the weakest start of one instruction, and that it is one -/
def w1I (st : List sv) (f : Int32 → List sv → Prop) : Prop := match st with
  | .inl x :: r => f x r
  | _ => False
def w2I (st : List sv) (f : Int32 → Int32 → List sv → Prop) : Prop := match st with
  | .inl y :: .inl x :: r => f x y r
  | _ => False
def w1J (st : List sv) (f : Int64 → List sv → Prop) : Prop := match st with
  | .inr (.inl x) :: r => f x r
  | _ => False
def w2J (st : List sv) (f : Int64 → Int64 → List sv → Prop) : Prop := match st with
  | .inr (.inl y) :: .inr (.inl x) :: r => f x y r
  | _ => False
def w1R (st : List sv) (f : Nat → kd → List sv → Prop) : Prop := match st with
  | .inr (.inr q) :: r => f q.1 q.2 r
  | _ => False
def w1O (st : List sv) (f : Nat → Nat → List sv → Prop) : Prop := match st with
  | .inr (.inr (b, .inl ci)) :: r => f b ci r
  | _ => False
def wXO (st : List sv) (f : sv → Nat → Nat → List sv → Prop) : Prop := match st with
  | v :: .inr (.inr (b, .inl ci)) :: r => f v b ci r
  | _ => False
def wA (st : List sv) (f : Nat → Nat → List sv → Prop) : Prop := match st with
  | .inr (.inr (b, .inr n)) :: r => f b n r
  | _ => False
def wIA (st : List sv) (f : Int32 → Nat → Nat → List sv → Prop) : Prop := match st with
  | .inl i :: .inr (.inr (b, .inr n)) :: r => f i b n r
  | _ => False
def wIIA (st : List sv) (f : Int32 → Int32 → Nat → Nat → List sv → Prop) : Prop := match st with
  | .inl x :: .inl i :: .inr (.inr (b, .inr n)) :: r => f x i b n r
  | _ => False
def wCp (st : List sv) (f : Int32 → Int32 → Nat → Nat → Int32 → Nat → Nat → List sv → Prop) : Prop := match st with
  | .inl n :: .inl dp :: .inr (.inr (a, .inr n1)) :: .inl sp :: .inr (.inr (a0, .inr n0)) :: r => f n dp a n1 sp a0 n0 r
  | _ => False
def wgI (i : Nat) (ls : sL) (f : Int32 → Prop) : Prop := match gl i ls with
  | some (.inl x) => f x
  | _ => False
def wgJ (i : Nat) (ls : sL) (f : Int64 → Prop) : Prop := match gl i ls with
  | some (.inr (.inl x)) => f x
  | _ => False
def wgR (i : Nat) (ls : sL) (f : Nat → kd → Prop) : Prop := match gl i ls with
  | some (.inr (.inr q)) => f q.1 q.2
  | _ => False
def kbeq (a b : kd) : Bool := match a, b with
  | .inl x, .inl y => Nat.beq x y
  | .inr x, .inr y => Nat.beq x y
  | _, _ => false
def wsum : List sv → Nat
  | [] => 0
  | v :: r => cond (cat2 v) 2 1 + wsum r
def ffind (idx ci : Nat) : List (Nat × Nat × Nat × sF) → Option (Nat × sF)
  | [] => none
  | e :: r => cond (Nat.beq e.1 idx && Nat.beq e.2.1 ci) (some e.2.2) (ffind idx ci r)
def cfind (idx : Nat) : List sE → Option sE
  | [] => none
  | e :: r => cond (Nat.beq e.1 idx) (some e) (cfind idx r)
def cfindR (idx ci : Nat) : List sE → Option sE
  | [] => none
  | e :: r => cond (Nat.beq e.1 idx && Nat.beq e.2.2.1 ci) (some e) (cfindR idx ci r)
def rI (k : Int32 → sS → Prop) : Option sv → sS → Prop := fun r σ => match r with
  | some (.inl x) => k x σ
  | _ => False
def rJ (k : Int64 → sS → Prop) : Option sv → sS → Prop := fun r σ => match r with
  | some (.inr (.inl x)) => k x σ
  | _ => False
def rN (k : sS → Prop) : Option sv → sS → Prop := fun r σ => match r with
  | none => k σ
  | _ => False
def rV (ret : Option FieldType) (rest : List sv) (k : List sv → sS → Prop) : Option sv → sS → Prop := match ret with
  | none => rN (fun σ => k rest σ)
  | some .long => rJ (fun x σ => k (.inr (.inl x) :: rest) σ)
  | some _ => rI (fun x σ => k (.inl x :: rest) σ)
def upA (σ : sS) (a : Nat) (f : Nat → Int32) : sS := fun c => if c = a then f else σ c
/-- the call of entry e, t cells of the stack -/
def wcall (Y : List kd) (d : Nat) (e : sE) (t : Nat) (st : List sv) (σ : sS) (K : List sv → sS → Prop) : Prop :=
  cond (Nat.ble t st.length && (Nat.ble (wsum (st.drop t)) 8 && Nat.ble (wsum (st.take t).reverse) e.2.2.2.1.2.2.1)) (match e.2.2.2.2.2.2.2 (st.take t).reverse σ with
    | some (r, σ') => K (r.toList ++ st.drop t) σ'
    | none => CJ Y d e.2.2.2.1 (st.take t).reverse σ (rV e.2.2.2.1.2.2.2 (st.drop t) K)) False
def wbr (a b : Prop) (A B : Prop) : Prop := (a → A) ∧ (b → B)
def wsw (x : Int32) (d : Prop) (f : Nat → Prop) : List (Int32 × Nat) → Prop
  | [] => d
  | q :: r => (x = q.1 → f q.2) ∧ (¬ x = q.1 → wsw x d f r)
def wstatE (Y : List kd) (d : Nat) (ce : sE) (st : List sv) (σ : sS) (K : List sv → sS → Prop) : Prop := match ce.2.1 with
  | 5 => w2I st (fun x y r => cond (Nat.ble (wsum r) 8) (K (.inl (if y < x then y else x) :: r) σ) False)
  | 6 => w2I st (fun x y r => cond (Nat.ble (wsum r) 8) (K (.inl (if x < y then y else x) :: r) σ) False)
  | 7 => wCp st (fun n dp a n1 sp a0 n0 r => cond (Nat.ble (wsum r) 8) ((¬ sp < 0 ∧ ¬ dp < 0 ∧ ¬ n < 0 ∧ sp.toNatClampNeg + n.toNatClampNeg ≤ n0 ∧ dp.toNatClampNeg + n.toNatClampNeg ≤ n1) ∧ K r (upA σ a (va_cpy (σ a0) (σ a) sp.toNatClampNeg dp.toNatClampNeg n.toNatClampNeg))) False)
  | 1 => wcall Y d ce ce.2.2.2.2.1 st σ K
  | 2 => wcall Y d ce ce.2.2.2.2.1 st σ K
  | _ => False
def wstat (Y : List kd) (d : Nat) (ct : List sE) (idx : Nat) (st : List sv) (σ : sS) (K : List sv → sS → Prop) : Prop := match d with
  | 0 => False
  | d + 1 => match cfind idx ct with
    | some ce => wstatE Y d ce st σ K
    | none => False
def wvirtE (Y : List kd) (d : Nat) (ce : sE) (na : Nat) (st : List sv) (σ : sS) (K : List sv → sS → Prop) : Prop := match ce.2.1 with
  | 0 => cond (Nat.beq ce.2.2.2.2.1 na) (wcall Y d ce (ce.2.2.2.2.1 + 1) st σ K) False
  | 3 => cond (Nat.beq ce.2.2.2.2.1 na) (wcall Y d ce (ce.2.2.2.2.1 + 1) st σ K) False
  | 4 => cond (Nat.beq ce.2.2.2.2.1 na) (wcall Y d ce (ce.2.2.2.2.1 + 1) st σ K) False
  | _ => False
def wvirt (Y : List kd) (d : Nat) (ct : List sE) (idx : Nat) (st : List sv) (σ : sS) (K : List sv → sS → Prop) : Prop := match d with
  | 0 => False
  | d + 1 => match cfind idx ct with
    | some c0 => w1O (st.drop c0.2.2.2.2.1) (fun _ ci _ => match cfindR idx ci ct with
      | some ce => wvirtE Y d ce c0.2.2.2.2.1 st σ K
      | none => False)
    | none => False
def wp1 (Y : List kd) (d : Nat) (mL : Nat) (ret : Option FieldType) (ft : List (Nat × Nat × Nat × sF)) (ct : List sE) (e : sT) (ls : sL) (st : List sv) (σ : sS) (K : Nat → sL → List sv → sS → Prop) (Q : Option sv → sS → Prop) : Prop :=
  match e.2.2.1 with
  | .iconst _ | .bipush _ | .sipush _ | .ldc _ | .ldc_w _ => K (e.1 + e.2.1) ls (.inl e.2.2.2.2.2.1 :: st) σ
  | .lconst _ | .ldc2_w _ => K (e.1 + e.2.1) ls (.inr (.inl e.2.2.2.2.2.2) :: st) σ
  | .iload_n k => wgI k.val ls (fun x => K (e.1 + e.2.1) ls (.inl x :: st) σ)
  | .iload i => wgI i ls (fun x => K (e.1 + e.2.1) ls (.inl x :: st) σ)
  | .lload_n k => wgJ k.val ls (fun x => K (e.1 + e.2.1) ls (.inr (.inl x) :: st) σ)
  | .lload i => wgJ i ls (fun x => K (e.1 + e.2.1) ls (.inr (.inl x) :: st) σ)
  | .aload_n k => wgR k.val ls (fun b k => K (e.1 + e.2.1) ls (.inr (.inr (b, k)) :: st) σ)
  | .aload i => wgR i ls (fun b k => K (e.1 + e.2.1) ls (.inr (.inr (b, k)) :: st) σ)
  | .istore_n k => w1I st (fun x r => cond (Nat.ble (k.val + 1) mL) (K (e.1 + e.2.1) (sl1 k.val (.inl x) ls) r σ) False)
  | .istore i => w1I st (fun x r => cond (Nat.ble (i + 1) mL) (K (e.1 + e.2.1) (sl1 i (.inl x) ls) r σ) False)
  | .lstore_n k => w1J st (fun x r => cond (Nat.ble (k.val + 2) mL) (K (e.1 + e.2.1) (sl2 k.val (.inr (.inl x)) ls) r σ) False)
  | .lstore i => w1J st (fun x r => cond (Nat.ble (i + 2) mL) (K (e.1 + e.2.1) (sl2 i (.inr (.inl x)) ls) r σ) False)
  | .iinc i _ => wgI i ls (fun x => cond (Nat.ble (i + 1) mL) (K (e.1 + e.2.1) (sl1 i (.inl (x + e.2.2.2.2.2.1)) ls) st σ) False)
  | .iadd => w2I st (fun x y r => K (e.1 + e.2.1) ls (.inl (x + y) :: r) σ)
  | .isub => w2I st (fun x y r => K (e.1 + e.2.1) ls (.inl (x - y) :: r) σ)
  | .imul => w2I st (fun x y r => K (e.1 + e.2.1) ls (.inl (x * y) :: r) σ)
  | .idiv => w2I st (fun x y r => ¬ y = 0 ∧ K (e.1 + e.2.1) ls (.inl (x / y) :: r) σ)
  | .irem => w2I st (fun x y r => ¬ y = 0 ∧ K (e.1 + e.2.1) ls (.inl (x - x / y * y) :: r) σ)
  | .iand => w2I st (fun x y r => K (e.1 + e.2.1) ls (.inl (x &&& y) :: r) σ)
  | .ior => w2I st (fun x y r => K (e.1 + e.2.1) ls (.inl (x ||| y) :: r) σ)
  | .ishl => w2I st (fun x y r => K (e.1 + e.2.1) ls (.inl (x <<< (y &&& 31)) :: r) σ)
  | .ishr => w2I st (fun x y r => K (e.1 + e.2.1) ls (.inl (x >>> (y &&& 31)) :: r) σ)
  | .iushr => w2I st (fun x y r => K (e.1 + e.2.1) ls (.inl (x.toUInt32 >>> (y.toUInt32 &&& Int32.toUInt32 31)).toInt32 :: r) σ)
  | .ineg => w1I st (fun x r => K (e.1 + e.2.1) ls (.inl (-x) :: r) σ)
  | .i2l => w1I st (fun x r => K (e.1 + e.2.1) ls (.inr (.inl x.toInt64) :: r) σ)
  | .ladd => w2J st (fun x y r => K (e.1 + e.2.1) ls (.inr (.inl (x + y)) :: r) σ)
  | .lsub => w2J st (fun x y r => K (e.1 + e.2.1) ls (.inr (.inl (x - y)) :: r) σ)
  | .lmul => w2J st (fun x y r => K (e.1 + e.2.1) ls (.inr (.inl (x * y)) :: r) σ)
  | .ldiv => w2J st (fun x y r => ¬ y = 0 ∧ K (e.1 + e.2.1) ls (.inr (.inl (x / y)) :: r) σ)
  | .lrem => w2J st (fun x y r => ¬ y = 0 ∧ K (e.1 + e.2.1) ls (.inr (.inl (x - x / y * y)) :: r) σ)
  | .lcmp => w2J st (fun x y r => K (e.1 + e.2.1) ls (.inl (lg_cmp x y) :: r) σ)
  | .dup => match st with
    | v :: r => cond (cat2 v) False (K (e.1 + e.2.1) ls (v :: v :: r) σ)
    | _ => False
  | .dup2 => match st with
    | v :: w :: r => cond (cat2 v || cat2 w) False (K (e.1 + e.2.1) ls (v :: w :: v :: w :: r) σ)
    | _ => False
  | .pop => match st with
    | v :: r => cond (cat2 v) False (K (e.1 + e.2.1) ls r σ)
    | _ => False
  | .goto _ => K e.2.2.2.1 ls st σ
  | .ifnull _ => w1R st (fun _ _ r => K (e.1 + e.2.1) ls r σ)
  | .ifnonnull _ => w1R st (fun _ _ r => K e.2.2.2.1 ls r σ)
  | .if_icmp .eq _ => w2I st (fun x y r => (x = y → K e.2.2.2.1 ls r σ) ∧ (¬ x = y → K (e.1 + e.2.1) ls r σ))
  | .if_icmp .ne _ => w2I st (fun x y r => (¬ x = y → K e.2.2.2.1 ls r σ) ∧ (x = y → K (e.1 + e.2.1) ls r σ))
  | .if_icmp .lt _ => w2I st (fun x y r => (x < y → K e.2.2.2.1 ls r σ) ∧ (¬ x < y → K (e.1 + e.2.1) ls r σ))
  | .if_icmp .ge _ => w2I st (fun x y r => (¬ x < y → K e.2.2.2.1 ls r σ) ∧ (x < y → K (e.1 + e.2.1) ls r σ))
  | .if_icmp .gt _ => w2I st (fun x y r => (y < x → K e.2.2.2.1 ls r σ) ∧ (¬ y < x → K (e.1 + e.2.1) ls r σ))
  | .if_icmp .le _ => w2I st (fun x y r => (¬ y < x → K e.2.2.2.1 ls r σ) ∧ (y < x → K (e.1 + e.2.1) ls r σ))
  | .ifCond .eq _ => w1I st (fun x r => (x = 0 → K e.2.2.2.1 ls r σ) ∧ (¬ x = 0 → K (e.1 + e.2.1) ls r σ))
  | .ifCond .ne _ => w1I st (fun x r => (¬ x = 0 → K e.2.2.2.1 ls r σ) ∧ (x = 0 → K (e.1 + e.2.1) ls r σ))
  | .ifCond .lt _ => w1I st (fun x r => (x < 0 → K e.2.2.2.1 ls r σ) ∧ (¬ x < 0 → K (e.1 + e.2.1) ls r σ))
  | .ifCond .ge _ => w1I st (fun x r => (¬ x < 0 → K e.2.2.2.1 ls r σ) ∧ (x < 0 → K (e.1 + e.2.1) ls r σ))
  | .ifCond .gt _ => w1I st (fun x r => (0 < x → K e.2.2.2.1 ls r σ) ∧ (¬ 0 < x → K (e.1 + e.2.1) ls r σ))
  | .ifCond .le _ => w1I st (fun x r => (¬ 0 < x → K e.2.2.2.1 ls r σ) ∧ (0 < x → K (e.1 + e.2.1) ls r σ))
  | .tableswitch _ _ _ _ => w1I st (fun x r => wsw x (K e.2.2.2.1 ls r σ) (fun t => K t ls r σ) e.2.2.2.2.1)
  | .lookupswitch _ _ => w1I st (fun x r => wsw x (K e.2.2.2.1 ls r σ) (fun t => K t ls r σ) e.2.2.2.2.1)
  | .arraylength => wA st (fun _ n r => K (e.1 + e.2.1) ls (.inl (nI n) :: r) σ)
  | .iaload => wIA st (fun i b n r => vp_in i n ∧ K (e.1 + e.2.1) ls (.inl (σ b i.toNatClampNeg) :: r) σ)
  | .iastore => wIIA st (fun x i b n r => vp_in i n ∧ K (e.1 + e.2.1) ls r (up σ b i.toNatClampNeg x))
  | .getfield idx => w1O st (fun b ci r => match ffind idx ci ft with
    | some (k, 0, _, _) => K (e.1 + e.2.1) ls (.inl (σ b k) :: r) σ
    | some (k, 3, _, _) => K (e.1 + e.2.1) ls (.inl (σ b k) :: r) σ
    | some (_, 1, off, kk) => K (e.1 + e.2.1) ls (.inr (.inr (b + off, kk)) :: r) σ
    | some (k, 2, _, kk) => Y[(σ b k).toNatClampNeg]? = some kk ∧ K (e.1 + e.2.1) ls (.inr (.inr ((σ b k).toNatClampNeg, kk)) :: r) σ
    | _ => False)
  | .putfield idx => wXO st (fun v b ci r => match ffind idx ci ft, v with
    | some (k, 0, _, _), .inl x => K (e.1 + e.2.1) ls r (up σ b k x)
    | some (k, 3, _, _), .inl x => (x = 0 ∨ x = 1) ∧ K (e.1 + e.2.1) ls r (up σ b k x)
    | some (k, 2, _, kk), .inr (.inr (b', kk')) => cond (kbeq kk' kk) (K (e.1 + e.2.1) ls r (up σ b k (nI b'))) False
    | _, _ => False)
  | .invokestatic idx => wstat Y d ct idx st σ (K (e.1 + e.2.1) ls)
  | .invokevirtual idx => wvirt Y d ct idx st σ (K (e.1 + e.2.1) ls)
  | .ireturn => match st with
    | [.inl x] => match ret with
      | some .int => Q (some (.inl x)) σ
      | some .boolean => (x = 0 ∨ x = 1) ∧ Q (some (.inl x)) σ
      | _ => False
    | _ => False
  | .lreturn => match st, ret with
    | [.inr (.inl x)], some .long => Q (some (.inr (.inl x))) σ
    | _, _ => False
  | .return_ => match st, ret with
    | [], none => Q none σ
    | _, _ => False
  | _ => False
end
section
/-! the tables of a method that the weakest start rests on -/
def csT (pc : Nat) : Int → List Int → List (Int32 × Nat) → Bool
  | _, [], [] => true
  | a, o :: r, q :: r' => decide (q.1.toInt = a) && (decide ((pc : Int) + o = (q.2 : Int)) && csT pc (a + 1) r r')
  | _, _, _ => false
def csL (pc : Nat) : List (Int × Int) → List (Int32 × Nat) → Bool
  | [], [] => true
  | o :: r, q :: r' => decide (q.1.toInt = o.1) && (decide ((pc : Int) + o.2 = (q.2 : Int)) && csL pc r r')
  | _, _ => false
def sSide (own : String) (e : sT) : Bool := match e.2.2.1 with
  | .iconst n => decide (Int32.ofInt n = e.2.2.2.2.2.1) && Nat.beq e.2.1 1
  | .bipush n => decide ((Int8.ofInt n).toInt32 = e.2.2.2.2.2.1) && Nat.beq e.2.1 2
  | .sipush n => decide ((Int16.ofInt n).toInt32 = e.2.2.2.2.2.1) && Nat.beq e.2.1 3
  | .ldc i => decide ((own, i, e.2.2.2.2.2.1) ∈ CK) && Nat.beq e.2.1 2
  | .ldc_w i => decide ((own, i, e.2.2.2.2.2.1) ∈ CK) && Nat.beq e.2.1 3
  | .lconst n => decide (Int64.ofNat n.val = e.2.2.2.2.2.2) && Nat.beq e.2.1 1
  | .ldc2_w i => decide ((own, i, e.2.2.2.2.2.2) ∈ CKL) && Nat.beq e.2.1 3
  | .iload _ | .lload _ | .aload _ | .istore _ | .lstore _ => Nat.beq e.2.1 2
  | .iinc _ n => decide (Int32.ofInt n = e.2.2.2.2.2.1) && Nat.beq e.2.1 3
  | .goto o | .ifnull o | .ifnonnull o | .if_icmp _ o | .ifCond _ o => decide ((e.1 : Int) + o = (e.2.2.2.1 : Int)) && Nat.beq e.2.1 3
  | .tableswitch d lo hi offs => decide ((e.1 : Int) + d = (e.2.2.2.1 : Int)) && (decide (hi = lo + offs.size - 1) && csT e.1 lo offs.toList e.2.2.2.2.1)
  | .lookupswitch d ps => decide ((e.1 : Int) + d = (e.2.2.2.1 : Int)) && ((ps.toList.zip (ps.toList.drop 1)).all (fun (a, next) => a.1 < next.1) && csL e.1 ps.toList e.2.2.2.2.1)
  | .getfield _ | .putfield _ | .invokestatic _ | .invokevirtual _ => Nat.beq e.2.1 3
  | _ => Nat.beq e.2.1 1
def sTok (own : String) (bytes : ByteArray) (e : sT) : Prop := decode bytes e.1 = .ok (e.2.2.1, e.2.1) ∧ sSide own e = true
/-- an entry of the fields: index, class, place, sort -/
def fOK (own : String) (e : Nat × Nat × Nat × sF) : Prop := ∃ (C : String) (T : u_T) (N : Nat) (ref : String), cOK e.2.1 C T N ∧ e.2.2.1 < N ∧ Cond.fieldLink own e.1 ref (T e.2.2.1).2.1 (T e.2.2.1).2.2.1 ∈ ALL ∧ (ref = (T e.2.2.1).1 ∨ Cond.sameField ref (T e.2.2.1).1 (T e.2.2.1).2.1 (T e.2.2.1).2.2.1 ∈ ALL) ∧ (cfs.getD e.2.1 [])[e.2.2.1]? = some e.2.2.2 ∧
  (e.2.2.2.1 = 0 → parseFieldDescriptor (T e.2.2.1).2.2.1 = some .int ∧ (T e.2.2.1).2.2.2 = false) ∧ (e.2.2.2.1 = 3 → parseFieldDescriptor (T e.2.2.1).2.2.1 = some .boolean ∧ (T e.2.2.1).2.2.2 = false) ∧ (e.2.2.2.1 = 2 → ∃ o, parseFieldDescriptor (T e.2.2.1).2.2.1 = some (.object o) ∧ (T e.2.2.1).2.2.2 = false)
/-- what an entry of the calls rests on -/
def notMH (c : String) : Prop := c ≠ "java/lang/invoke/MethodHandle" ∧ c ≠ "java/lang/invoke/VarHandle"
def yOK (Y : List kd) (e : sE) : Prop := plainName e.2.2.2.1.1.cls = true ∧ Cond.code e.2.2.2.1.1 e.2.2.2.1.2.1 e.2.2.2.1.2.2.1 e.2.2.2.1.2.2.2 ∈ ALL ∧ e.2.2.2.1.2.2.1 ≤ 21 ∧ notMH e.2.2.2.1.1.cls ∧ (parseMethodDescriptor e.2.2.2.1.1.desc).map (fun d => d.parameters.length) = some e.2.2.2.2.1 ∧
  ∀ (as : List sv) (σ : sS) (r : Option sv) (σ' : sS), e.2.2.2.2.2.2.2 as σ = some (r, σ') → wtS Y as → ∀ (d : Nat) (Q : Option sv → sS → Prop), Q r σ' → CJ Y d e.2.2.2.1 as σ Q
def eOK (Y : List kd) (own : String) (e : sE) : Prop := match e.2.1 with
  | 0 => yOK Y e ∧ ∃ C T N, classes[e.2.2.1]? = some (C, T, N) ∧ e.2.2.2.1.1.cls = C ∧ Cond.methodLink own e.1 e.2.2.2.1.1 ∈ ALL ∧ Cond.instanceMethod e.2.2.2.1.1 ∈ ALL ∧ Cond.selects C e.2.2.2.1.1 e.2.2.2.1.1 ∈ ALL ∧ Cond.initialized C ∈ ALL
  | 1 => yOK Y e ∧ Cond.methodLinkNest own e.1 e.2.2.2.1.1 e.2.2.2.2.2.2.1 ∈ NW ∧ Cond.static e.2.2.2.1.1 ∈ ALL ∧ Cond.initialized e.2.2.2.1.1.cls ∈ ALL
  | 2 => yOK Y e ∧ Cond.methodLink own e.1 e.2.2.2.1.1 ∈ ALL ∧ Cond.static e.2.2.2.1.1 ∈ ALL ∧ Cond.initialized e.2.2.2.1.1.cls ∈ ALL
  | 3 => yOK Y e ∧ ∃ C T N, classes[e.2.2.1]? = some (C, T, N) ∧ e.2.2.2.1.1 = ⟨e.2.2.2.2.2.2.1, e.2.2.2.2.2.1.name, e.2.2.2.2.2.1.desc⟩ ∧ Cond.methodLink own e.1 e.2.2.2.2.2.1 ∈ ALL ∧ Cond.sameMethod e.2.2.2.2.2.1.cls e.2.2.2.2.2.2.1 e.2.2.2.2.2.1.name e.2.2.2.2.2.1.desc ∈ ALL ∧ Cond.selects C e.2.2.2.2.2.1 e.2.2.2.1.1 ∈ ALL ∧ Cond.instanceMethod e.2.2.2.1.1 ∈ ALL ∧ Cond.initialized e.2.2.2.1.1.cls ∈ ALL ∧ notMH e.2.2.2.2.2.2.1
  | 4 => yOK Y e ∧ ∃ C T N, classes[e.2.2.1]? = some (C, T, N) ∧ Cond.methodLink own e.1 e.2.2.2.2.2.1 ∈ ALL ∧ Cond.sameMethod e.2.2.2.2.2.1.cls e.2.2.2.2.2.2.1 e.2.2.2.2.2.1.name e.2.2.2.2.2.1.desc ∈ ALL ∧ Cond.selects C e.2.2.2.2.2.1 e.2.2.2.1.1 ∈ ALL ∧ Cond.instanceMethod e.2.2.2.1.1 ∈ ALL ∧ Cond.initialized e.2.2.2.1.1.cls ∈ ALL ∧ notMH e.2.2.2.2.2.2.1 ∧ Cond.declares ⟨e.2.2.2.2.2.2.1, e.2.2.2.2.2.1.name, e.2.2.2.2.2.1.desc⟩ ∈ NW ∧ (parseMethodDescriptor e.2.2.2.2.2.1.desc).map (fun d => d.parameters.length) = some e.2.2.2.2.1
  | 5 => Cond.methodLink own e.1 Lib.Math.min.name ∈ ALL ∧ Cond.static Lib.Math.min.name ∈ ALL ∧ Cond.initialized "java/lang/Math" ∈ ALL ∧ Cond.code Lib.Math.min.name Lib.Math.min.code 2 (some .int) ∈ ALL
  | 6 => Cond.methodLink own e.1 Lib.Math.max.name ∈ ALL ∧ Cond.static Lib.Math.max.name ∈ ALL ∧ Cond.initialized "java/lang/Math" ∈ ALL ∧ Cond.code Lib.Math.max.name Lib.Math.max.code 2 (some .int) ∈ ALL
  | 7 => Cond.methodLink own e.1 arraycopyName ∈ ALL ∧ Cond.native arraycopyName ∈ ALL ∧ Cond.static arraycopyName ∈ ALL ∧ Cond.initialized "java/lang/System" ∈ ALL
  | _ => False
theorem w1I_inv {st : List sv} {f : Int32 → List sv → Prop} (h : w1I st f) : ∃ x r, st = .inl x :: r ∧ f x r := by
  unfold w1I at h
  split at h
  · exact ⟨_, _, rfl, h⟩
  · exact h.elim
theorem w2I_inv {st : List sv} {f : Int32 → Int32 → List sv → Prop} (h : w2I st f) : ∃ x y r, st = .inl y :: .inl x :: r ∧ f x y r := by
  unfold w2I at h
  split at h
  · exact ⟨_, _, _, rfl, h⟩
  · exact h.elim
theorem w1J_inv {st : List sv} {f : Int64 → List sv → Prop} (h : w1J st f) : ∃ x r, st = .inr (.inl x) :: r ∧ f x r := by
  unfold w1J at h
  split at h
  · exact ⟨_, _, rfl, h⟩
  · exact h.elim
theorem w2J_inv {st : List sv} {f : Int64 → Int64 → List sv → Prop} (h : w2J st f) : ∃ x y r, st = .inr (.inl y) :: .inr (.inl x) :: r ∧ f x y r := by
  unfold w2J at h
  split at h
  · exact ⟨_, _, _, rfl, h⟩
  · exact h.elim
theorem w1R_inv {st : List sv} {f : Nat → kd → List sv → Prop} (h : w1R st f) : ∃ b k r, st = .inr (.inr (b, k)) :: r ∧ f b k r := by
  unfold w1R at h
  split at h
  · rename_i q r
    exact ⟨q.1, q.2, r, rfl, h⟩
  · exact h.elim
theorem w1O_inv {st : List sv} {f : Nat → Nat → List sv → Prop} (h : w1O st f) : ∃ b k r, st = .inr (.inr (b, .inl k)) :: r ∧ f b k r := by
  unfold w1O at h
  split at h
  · exact ⟨_, _, _, rfl, h⟩
  · exact h.elim
theorem wXO_inv {st : List sv} {f : sv → Nat → Nat → List sv → Prop} (h : wXO st f) : ∃ v b k r, st = v :: .inr (.inr (b, .inl k)) :: r ∧ f v b k r := by
  unfold wXO at h
  split at h
  · exact ⟨_, _, _, _, rfl, h⟩
  · exact h.elim
theorem wA_inv {st : List sv} {f : Nat → Nat → List sv → Prop} (h : wA st f) : ∃ b k r, st = .inr (.inr (b, .inr k)) :: r ∧ f b k r := by
  unfold wA at h
  split at h
  · exact ⟨_, _, _, rfl, h⟩
  · exact h.elim
theorem wIA_inv {st : List sv} {f : Int32 → Nat → Nat → List sv → Prop} (h : wIA st f) : ∃ i b k r, st = .inl i :: .inr (.inr (b, .inr k)) :: r ∧ f i b k r := by
  unfold wIA at h
  split at h
  · exact ⟨_, _, _, _, rfl, h⟩
  · exact h.elim
theorem wIIA_inv {st : List sv} {f : Int32 → Int32 → Nat → Nat → List sv → Prop} (h : wIIA st f) : ∃ x i b k r, st = .inl x :: .inl i :: .inr (.inr (b, .inr k)) :: r ∧ f x i b k r := by
  unfold wIIA at h
  split at h
  · exact ⟨_, _, _, _, _, rfl, h⟩
  · exact h.elim
theorem wCp_inv {st : List sv} {f : Int32 → Int32 → Nat → Nat → Int32 → Nat → Nat → List sv → Prop} (h : wCp st f) : ∃ n dp a n1 sp a0 n0 r, st = .inl n :: .inl dp :: .inr (.inr (a, .inr n1)) :: .inl sp :: .inr (.inr (a0, .inr n0)) :: r ∧ f n dp a n1 sp a0 n0 r := by
  unfold wCp at h
  split at h
  · exact ⟨_, _, _, _, _, _, _, _, rfl, h⟩
  · exact h.elim
theorem wgI_inv {i : Nat} {ls : sL} {f : Int32 → Prop} (h : wgI i ls f) : ∃ x, gl i ls = some (.inl x) ∧ f x := by
  unfold wgI at h
  split at h
  · rename_i x hx
    exact ⟨x, hx, h⟩
  · exact h.elim
theorem wgJ_inv {i : Nat} {ls : sL} {f : Int64 → Prop} (h : wgJ i ls f) : ∃ x, gl i ls = some (.inr (.inl x)) ∧ f x := by
  unfold wgJ at h
  split at h
  · rename_i x hx
    exact ⟨x, hx, h⟩
  · exact h.elim
theorem wgR_inv {i : Nat} {ls : sL} {f : Nat → kd → Prop} (h : wgR i ls f) : ∃ b k, gl i ls = some (.inr (.inr (b, k))) ∧ f b k := by
  unfold wgR at h
  split at h
  · rename_i q hx
    exact ⟨q.1, q.2, hx, h⟩
  · exact h.elim
theorem ffind_mem {idx ci : Nat} : ∀ {ft : List (Nat × Nat × Nat × sF)} {q : Nat × sF}, ffind idx ci ft = some q → (idx, ci, q) ∈ ft
  | [], q, h => by cases h
  | e :: r, q, h => by
    obtain ⟨a, b, c⟩ := e
    simp only [ffind] at h
    cases hb : (Nat.beq a idx && Nat.beq b ci) with
    | true =>
      rw [hb] at h
      simp only [Bool.and_eq_true] at hb
      have e1 := Nat.eq_of_beq_eq_true hb.1
      have e2 := Nat.eq_of_beq_eq_true hb.2
      subst e1; subst e2
      have : c = q := by simpa using h
      subst this
      exact List.mem_cons_self
    | false =>
      rw [hb] at h
      exact List.mem_cons_of_mem _ (ffind_mem h)
theorem cfind_mem {idx : Nat} : ∀ {ct : List sE} {e : sE}, cfind idx ct = some e → e ∈ ct ∧ e.1 = idx
  | [], e, h => by cases h
  | q :: r, e, h => by
    simp only [cfind] at h
    cases hb : Nat.beq q.1 idx with
    | true =>
      rw [hb] at h
      have : q = e := by simpa using h
      subst this
      exact ⟨List.mem_cons_self, Nat.eq_of_beq_eq_true hb⟩
    | false =>
      rw [hb] at h
      exact ⟨List.mem_cons_of_mem _ (cfind_mem h).1, (cfind_mem h).2⟩
theorem cfindR_mem {idx ci : Nat} : ∀ {ct : List sE} {e : sE}, cfindR idx ci ct = some e → e ∈ ct ∧ e.1 = idx ∧ e.2.2.1 = ci
  | [], e, h => by cases h
  | q :: r, e, h => by
    simp only [cfindR] at h
    cases hb : (Nat.beq q.1 idx && Nat.beq q.2.2.1 ci) with
    | true =>
      rw [hb] at h
      have : q = e := by simpa using h
      subst this
      simp only [Bool.and_eq_true] at hb
      exact ⟨List.mem_cons_self, Nat.eq_of_beq_eq_true hb.1, Nat.eq_of_beq_eq_true hb.2⟩
    | false =>
      rw [hb] at h
      exact ⟨List.mem_cons_of_mem _ (cfindR_mem h).1, (cfindR_mem h).2⟩
theorem wsum_cat (ad : Nat → Nat) : ∀ st : List sv, ((st.map (cv ad)).map fun v => v.category).sum = wsum st
  | [] => rfl
  | v :: r => by
    simp only [List.map_cons, List.sum_cons, wsum]
    rw [cv_cat]
    have := wsum_cat ad r
    simp only [List.map_map] at this ⊢
    rw [this]
    cases cat2 v <;> rfl
theorem wsum_sl (ad : Nat → Nat) : ∀ st : List sv, (lg_sl (st.map (cv ad))).length = wsum st
  | [] => rfl
  | v :: r => by
    have := wsum_sl ad r
    simp only [lg_sl] at this ⊢
    simp only [List.map_cons, List.flatMap_cons, List.length_append, wsum]
    rw [this, cv_cat]
    cases cat2 v <;> rfl
/-- the addresses of a world are the same whatever it holds -/
theorem wl_D {A : Nat → Prop} {cA : ClassId} {ad : Nat → Nat} {σ : sS} {Y : List kd} (σ' : sS) (h : va_D A (wl cA ad σ Y)) : va_D A (wl cA ad σ' Y) := by
  have key : ∀ (σ1 : sS) (k : Nat) (q : Nat × va_E), (wl cA ad σ1 Y)[k]? = some q → q.1 = ad k ∧ ∃ e, Y[k]? = some e := by
    intro σ1 k q hk
    unfold wl at hk
    rw [List.getElem?_mapIdx] at hk
    cases hY : Y[k]? with
    | none => rw [hY] at hk; cases hk
    | some e =>
      rw [hY] at hk
      have : (ad k, ent cA ad σ1 k e) = q := by simpa using hk
      subst this
      exact ⟨rfl, e, rfl⟩
  refine ⟨fun i j p q hi hj hpq => ?_, fun k q hk => ?_⟩
  · obtain ⟨e1, k1, f1⟩ := key σ' i p hi
    obtain ⟨e2, k2, f2⟩ := key σ' j q hj
    exact h.1 i j _ _ (wl_get f1) (wl_get f2) (by rw [← e1, ← e2]; exact hpq)
  · obtain ⟨e1, k1, f1⟩ := key σ' k q hk
    rw [e1]
    exact h.2 k _ (wl_get f1)
end
section
/-! one step: from the weakest start of an instruction to Jd -/
section STEP
variable {p : Program} {l : Launch} {e : Env} {R : Room} {s : State} {m : MethodId} {args : Array Value} {below : List Frame} {meth : Method} {c : Code} {H : Heap} {locs : List Loc} {Qf : State → Prop}
variable {Y : List kd} {D : va_G} {cA : ClassId} {ad : Nat → Nat} {A : Nat → Prop} {σ : sS} {lsA : Array Slot} {pc : Nat} {st0 rest : List Value} {Q' : Option sv → sS → Prop} {as' : Array Value}
theorem call_go (hr : va_Run p l e R s m args below meth c H locs 0 0 0 0 (F0 m pc lsA st0) rest (sQc Y D cA ad (va_A (wl cA ad σ Y) H.size) Q' as') (va_A (wl cA ad σ Y) H.size)) (hS : va_S A s.heap H locs) (hD : va_D A (wl cA ad σ Y)) (hA : ∀ q : Nat, s.heap.size ≤ q → A q)
    (kk : ∀ (r : Option sv) (σ' : sS) (H1 : Heap) (locs1 : List Loc), (∀ v ∈ r, wtv Y v) → Q' r σ' → va_P D classes (wl cA ad σ' Y) H1 → va_S A s.heap H1 locs1 → W p l e R s m args below meth c H1 locs1 0 0 Qf (F0 m (pc + 3) lsA ((r.map (cv ad)).toList ++ rest))) : W p l e R s m args below meth c H locs 0 0 Qf (F0 m pc lsA st0) := by
  have hsub : ∀ q, va_A (wl cA ad σ Y) H.size q → A q := by
    intro q hq
    rcases hq with ⟨k, en, hk⟩ | hq
    · exact hD.2 k _ hk
    · exact hA q (Nat.le_trans hS.1 hq)
  intro T hT X
  obtain ⟨v, st₀, t, T', L, h0, X', hL, e1, e2, ⟨⟨r, σ', hv, hw, hq, hp⟩, hz, hk⟩, stp⟩ := hr T hT X
  cases hv
  rw [h0] at hz hk
  obtain ⟨t2, a1, b1⟩ := kk r σ' T'.heap (locs ++ L) hw hq (by rw [e1]; exact hp)
    ⟨Nat.le_trans hS.1 (by rw [e1]; exact hz), fun q h1 h2 => by rw [e1, hk q (Nat.lt_of_lt_of_le h1 hS.1) (fun z => h2 (hsub q z))]; exact hS.2.1 q h1 h2, fun q hq => by
      rcases List.mem_append.mp hq with h | h
      · exact hS.2.2 q h
      · exact hsub _ (hL q h)⟩ T' rfl X'
  exact ⟨t2, stp t2 a1, b1⟩
end STEP
theorem csT_ok {x : Int32} {d : Prop} {f : Nat → Prop} {pc : Nat} : ∀ (offs : List Int) (cs : List (Int32 × Nat)) (a : Int), csT pc a offs cs = true → wsw x d f cs → (∃ (j : Nat) (off : Int) (t : Nat), offs[j]? = some off ∧ x.toInt = a + j ∧ (pc : Int) + off = (t : Int) ∧ f t) ∨ ((∀ j : Nat, j < offs.length → x.toInt ≠ a + j) ∧ d)
  | [], [], a, _, h => Or.inr ⟨fun j hj => absurd hj (Nat.not_lt_zero j), h⟩
  | [], q :: r', a, h, _ => by simp [csT] at h
  | o :: r, [], a, h, _ => by simp [csT] at h
  | o :: r, q :: r', a, h, hw => by
    simp only [csT, Bool.and_eq_true, decide_eq_true_eq] at h
    obtain ⟨h1, h2, h3⟩ := h
    by_cases hx : x = q.1
    · exact Or.inl ⟨0, o, q.2, rfl, by rw [hx, h1]; simp, h2, hw.1 hx⟩
    · rcases csT_ok r r' (a + 1) h3 (hw.2 hx) with ⟨j, off, t, e1, e2, e3, e4⟩ | ⟨e1, e2⟩
      · exact Or.inl ⟨j + 1, off, t, by simpa using e1, by rw [e2]; push_cast; omega, e3, e4⟩
      · refine Or.inr ⟨fun j hj => ?_, e2⟩
        cases j with
        | zero =>
          intro hq
          exact hx (Int32.toInt_inj.mp (by rw [h1, hq]; simp))
        | succ j =>
          have := e1 j (by simpa using hj)
          intro hq
          apply this
          rw [hq]; push_cast; omega
theorem csL_ok {x : Int32} {d : Prop} {f : Nat → Prop} {pc : Nat} {dflt : Int} : ∀ (ps : List (Int × Int)) (cs : List (Int32 × Nat)), csL pc ps cs = true → wsw x d f cs → (∃ (off : Int) (t : Nat), Op.lookupswitch.offset ps dflt x.toInt = off ∧ (pc : Int) + off = (t : Int) ∧ f t) ∨ (Op.lookupswitch.offset ps dflt x.toInt = dflt ∧ d)
  | [], [], _, h => Or.inr ⟨rfl, h⟩
  | [], q :: r', h, _ => by simp [csL] at h
  | o :: r, [], h, _ => by simp [csL] at h
  | (oa, ob) :: r, q :: r', h, hw => by
    simp only [csL, Bool.and_eq_true, decide_eq_true_eq] at h
    obtain ⟨h1, h2, h3⟩ := h
    by_cases hx : x = q.1
    · refine Or.inl ⟨ob, q.2, ?_, h2, hw.1 hx⟩
      rw [Op.lookupswitch.offset_cons, if_pos (by rw [hx, h1])]
    · rw [lv_osw hx h1]
      exact csL_ok r r' h3 (hw.2 hx)
theorem i32_ge {x y : Int32} (h : y ≤ x) : ¬ x < y := by
  rw [Int32.le_iff_toInt_le] at h
  rw [Int32.lt_iff_toInt_lt]
  omega
theorem i32_nge {x y : Int32} (h : ¬ y ≤ x) : x < y := by
  rw [Int32.le_iff_toInt_le] at h
  rw [Int32.lt_iff_toInt_lt]
  omega
theorem wt_I {Y : List kd} {x : Int32} : wtv Y (.inl x) := trivial
theorem wt_J {Y : List kd} {x : Int64} : wtv Y (.inr (.inl x)) := trivial
theorem cat2_1 {ad : Nat → Nat} {v : sv} (h : cat2 v = false) : (cv ad v).category = 1 := by rw [cv_cat, h]; rfl
theorem take_rev (ad : Nat → Nat) (t : Nat) (st : List sv) : st.map (cv ad) = ((st.take t).reverse.map (cv ad)).reverse ++ (st.drop t).map (cv ad) := by
  rw [← List.map_reverse, List.reverse_reverse, ← List.map_append, List.take_append_drop]

theorem condT {b : Bool} {P : Prop} (h : cond b P False) : b = true ∧ P := by
  cases b with
  | false => exact h.elim
  | true => exact ⟨rfl, h⟩
theorem goodALL {ws : List Cond} (h : ∀ w ∈ ws, w ∈ ALL) : GoodIn ALL ws := fun w hw => ⟨h w hw, ALL_good w (h w hw)⟩
theorem drop_take {st : List sv} {n : Nat} {v : sv} {r : List sv} (h : st.drop n = v :: r) : (st.take (n + 1)).reverse = v :: (st.take n).reverse ∧ st.drop (n + 1) = r := by
  have h0 : st[n]? = some v := by
    have : (st.drop n)[0]? = some v := by rw [h]; rfl
    rw [List.getElem?_drop] at this
    simpa using this
  refine ⟨?_, ?_⟩
  · rw [List.take_add_one, h0]
    simp
  · have : st.drop (n + 1) = (st.drop n).drop 1 := by rw [List.drop_drop]
    rw [this, h]
    rfl
theorem take_revV (ad : Nat → Nat) {st : List sv} {n b ci : Nat} {r : List sv} (h : st.drop n = .inr (.inr (b, .inl ci)) :: r) : st.map (cv ad) = ((st.take n).reverse.map (cv ad)).reverse ++ .ref (ad b) :: (st.drop (n + 1)).map (cv ad) := by
  rw [(drop_take h).2]
  have := take_rev ad n st
  rw [h] at this
  exact this
theorem rV_out {ret : Option FieldType} {rest : List sv} {K : List sv → sS → Prop} {r : Option sv} {σ : sS} (h : rV ret rest K r σ) : K (r.toList ++ rest) σ := by
  unfold rV at h
  split at h
  · unfold rN at h
    split at h
    · exact h
    · exact h.elim
  · unfold rJ at h
    split at h
    · exact h
    · exact h.elim
  · unfold rI at h
    split at h
    · exact h
    · exact h.elim
section WCALL
variable {p : Program} {l : Launch} {en : Env} {R : Room} {s : State} {m : MethodId} {args : Array Value} {below : List Frame} {meth : Method} {c : Code} {H : Heap} {locs : List Loc} {Qf : State → Prop}
variable {Y : List kd} {D : va_G} {cA : ClassId} {ad : Nat → Nat} {A : Nat → Prop} {σ : sS} {lsA : Array Slot} {pc d t : Nat} {st : List sv} {e : sE} {K3 : List sv → sS → Prop}
theorem wcall_go (hy : yOK Y e) (h : wcall Y d e t st σ K3) (hY : lok Y) (hws : wtS Y st) (hD : va_D A (wl cA ad σ Y)) (hS : va_S A s.heap H locs) (hA : ∀ q : Nat, s.heap.size ≤ q → A q)
    (run : ∀ (Q' : Option sv → sS → Prop), Met l e.2.2.2.1.1 (wsY e.2.2.2.1) (rmD d) (sPc Y D cA ad σ (st.take t).reverse H.size) (sQc Y D cA ad (va_A (wl cA ad σ Y) H.size) Q') 0 0 (va_A (wl cA ad σ Y) H.size) →
      (2 * (F0 m pc lsA (st.map (cv ad))).monitorRoom + (((st.drop t).map (cv ad)).map fun v => v.category).sum ≤ 8 ∧ ((st.take t).reverse.map (cv ad)).length = t ∧ t ≤ st.length) →
      va_Run p l en R s m args below meth c H locs 0 0 0 0 (F0 m pc lsA (st.map (cv ad))) ((st.drop t).map (cv ad)) (sQc Y D cA ad (va_A (wl cA ad σ Y) H.size) Q' ((st.take t).reverse.map (cv ad)).toArray) (va_A (wl cA ad σ Y) H.size))
    (go3 : ∀ (st' : List sv) (σ' : sS), K3 st' σ' → ∀ (H1 : Heap) (locs1 : List Loc), va_P D classes (wl cA ad σ' Y) H1 → va_S A s.heap H1 locs1 → wtS Y st' → W p l en R s m args below meth c H1 locs1 0 0 Qf (F0 m (pc + 3) lsA (st'.map (cv ad)))) :
    W p l en R s m args below meth c H locs 0 0 Qf (F0 m pc lsA (st.map (cv ad))) := by
  unfold wcall at h
  cases hc : (Nat.ble t st.length && (Nat.ble (wsum (st.drop t)) 8 && Nat.ble (wsum (st.take t).reverse) e.2.2.2.1.2.2.1)) with
  | false => rw [hc] at h; exact h.elim
  | true =>
  rw [hc] at h
  simp only [Bool.and_eq_true] at hc
  have c1 := Nat.le_of_ble_eq_true hc.1
  have c2 := Nat.le_of_ble_eq_true hc.2.1
  have c3 := Nat.le_of_ble_eq_true hc.2.2
  have hwa : wtS Y (st.take t).reverse := fun v hv => hws v (List.mem_of_mem_take (List.mem_reverse.mp hv))
  obtain ⟨y1, y2, y3, y4, y5, hpr⟩ := hy
  have hcall : ∃ Q' : Option sv → sS → Prop, CJ Y d e.2.2.2.1 (st.take t).reverse σ Q' ∧ ∀ r σ', Q' r σ' → K3 (r.toList ++ st.drop t) σ' := by
    cases hp : e.2.2.2.2.2.2.2 (st.take t).reverse σ with
    | none =>
      rw [hp] at h
      exact ⟨_, h, fun r σ' hr => rV_out hr⟩
    | some q =>
      obtain ⟨r, σ'⟩ := q
      rw [hp] at h
      exact ⟨fun r0 σ0 => r0 = r ∧ σ0 = σ', hpr _ _ _ _ hp hwa d _ ⟨rfl, rfl⟩, fun r0 σ0 hr => by obtain ⟨rfl, rfl⟩ := hr; exact h⟩
  obtain ⟨Q', hcj, hK⟩ := hcall
  have hM := met_of hcj y1 hY hwa l D cA ad H.size (by rw [wsum_sl]; exact c3)
  have hr := run Q' hM ⟨lv_room (by rw [wsum_cat]; exact c2), by simp [c1], c1⟩
  refine call_go hr hS hD hA (fun r σ' H1 locs1 hwr hq hP1 hS1 => ?_)
  have hcv : (r.map (cv ad)).toList ++ (st.drop t).map (cv ad) = (r.toList ++ st.drop t).map (cv ad) := by
    cases r <;> simp
  rw [hcv]
  exact go3 _ _ (hK r σ' hq) H1 locs1 hP1 hS1 (fun v hv => by
    rcases List.mem_append.mp hv with h1 | h1
    · exact hwr v (by simpa using h1)
    · exact hws v (List.mem_of_mem_drop h1))
end WCALL
set_option maxHeartbeats 4000000 in
set_option maxRecDepth 100000 in
theorem wp1_ok {Y : List kd} {d : Nat} {y : sY} {ft : List (Nat × Nat × Nat × sF)} {ct : List sE} (hF : ∀ q ∈ ft, fOK y.1.cls q) (hC : ∀ q ∈ ct, eOK Y y.1.cls q) {e : sT} (hT : sTok y.1.cls y.2.1 e) {ls : sL} {st : List sv} {σ : sS} {K : Nat → sL → List sv → sS → Prop} {Q : Option sv → sS → Prop}
    (h : wp1 Y d y.2.2.1 y.2.2.2 ft ct e ls st σ K Q) (hK : ∀ pc ls st σ, K pc ls st σ → Jd Y d y pc ls st σ Q) : Jd Y d y e.1 ls st σ Q := by
  intro l D cA ad A p en R s m args below meth c hCx hA H locs lsA hP hD hS hl hw hws
  obtain ⟨hx, hb, hml, hown, hr, hlk, hts, hN, hKK, hfr, hlo, hY⟩ := id hCx
  have go : ∀ (pc : Nat) (ls : sL) (st : List sv) (σ : sS), K pc ls st σ → ∀ (H : Heap) (locs : List Loc) (lsA : Array Slot), va_P D classes (wl cA ad σ Y) H → va_D A (wl cA ad σ Y) → va_S A s.heap H locs → lv_has lsA y.2.2.1 (cvL ad ls) → wtL Y ls → wtS Y st → W p l en R s m args below meth c H locs 0 0 (MQ below (sQc Y D cA ad A Q) args s 0 0 A) (F0 m pc lsA (st.map (cv ad))) := fun pc ls st σ hk => hK pc ls st σ hk l D cA ad A p en R s m args below meth c hCx hA
  obtain ⟨pc, len, i, tgt, cs, k1, k2⟩ := e
  obtain ⟨hdg, hside⟩ := hT
  have hlen1 : ∀ n : Nat, Nat.beq len n = true → len = n := fun n h => Nat.eq_of_beq_eq_true h
  cases i with
  | iconst n =>
    obtain ⟨hk1, hln⟩ := Bool.and_eq_true_iff.mp hside
    have hln := hlen1 1 hln
    subst hln
    have hk1 := of_decide_eq_true hk1
    exact lv_iconst hx hb hdg hk1 (go _ _ _ _ h H locs lsA hP hD hS hl hw (wtS_cons wt_I hws))
  | bipush n =>
    obtain ⟨hk1, hln⟩ := Bool.and_eq_true_iff.mp hside
    have hln := hlen1 2 hln
    subst hln
    have hk1 := of_decide_eq_true hk1
    exact lv_bipush hx hb hdg hk1 (go _ _ _ _ h H locs lsA hP hD hS hl hw (wtS_cons wt_I hws))
  | sipush n =>
    obtain ⟨hk1, hln⟩ := Bool.and_eq_true_iff.mp hside
    have hln := hlen1 3 hln
    subst hln
    have hk1 := of_decide_eq_true hk1
    exact lv_sipush hx hb hdg hk1 (go _ _ _ _ h H locs lsA hP hD hS hl hw (wtS_cons wt_I hws))
  | ldc i =>
    obtain ⟨hk1, hln⟩ := Bool.and_eq_true_iff.mp hside
    have hln := hlen1 2 hln
    subst hln
    have hk1 := of_decide_eq_true hk1
    exact lv_ldc hx hb hown (hts _ (CK_in _ hk1)) hdg (go _ _ _ _ h H locs lsA hP hD hS hl hw (wtS_cons wt_I hws))
  | ldc_w i =>
    obtain ⟨hk1, hln⟩ := Bool.and_eq_true_iff.mp hside
    have hln := hlen1 3 hln
    subst hln
    have hk1 := of_decide_eq_true hk1
    exact lv_ldcw hx hb hown (hts _ (CK_in _ hk1)) hdg (go _ _ _ _ h H locs lsA hP hD hS hl hw (wtS_cons wt_I hws))
  | lconst n =>
    obtain ⟨hk1, hln⟩ := Bool.and_eq_true_iff.mp hside
    have hln := hlen1 1 hln
    subst hln
    have hk1 := of_decide_eq_true hk1
    exact lv_lconst hx hb hdg hk1 (go _ _ _ _ h H locs lsA hP hD hS hl hw (wtS_cons wt_J hws))
  | ldc2_w i =>
    obtain ⟨hk1, hln⟩ := Bool.and_eq_true_iff.mp hside
    have hln := hlen1 3 hln
    subst hln
    have hk1 := of_decide_eq_true hk1
    exact lv_ldc2 hx hb hown (hts _ (CKL_in _ hk1)) hdg (go _ _ _ _ h H locs lsA hP hD hS hl hw (wtS_cons wt_J hws))
  | iload_n k =>
    have hln := hlen1 1 hside
    subst hln
    obtain ⟨x, hg, hk⟩ := wgI_inv h
    exact lv_iload_n hx hb hdg rfl (lv_gl hl hg) (go _ _ _ _ hk H locs lsA hP hD hS hl hw (wtS_cons wt_I hws))
  | iload k =>
    have hln := hlen1 2 hside
    subst hln
    obtain ⟨x, hg, hk⟩ := wgI_inv h
    exact lv_iload hx hb hdg (lv_gl hl hg) (go _ _ _ _ hk H locs lsA hP hD hS hl hw (wtS_cons wt_I hws))
  | lload_n k =>
    have hln := hlen1 1 hside
    subst hln
    obtain ⟨x, hg, hk⟩ := wgJ_inv h
    exact lv_lload_n hx hb hdg rfl (lv_gl hl hg) (go _ _ _ _ hk H locs lsA hP hD hS hl hw (wtS_cons wt_J hws))
  | lload k =>
    have hln := hlen1 2 hside
    subst hln
    obtain ⟨x, hg, hk⟩ := wgJ_inv h
    exact lv_lload hx hb hdg (lv_gl hl hg) (go _ _ _ _ hk H locs lsA hP hD hS hl hw (wtS_cons wt_J hws))
  | aload_n k =>
    have hln := hlen1 1 hside
    subst hln
    have h2 : wgR k.val ls (fun b kk => K (pc + 1) ls (.inr (.inr (b, kk)) :: st) σ) := h
    obtain ⟨b, kk, hg, hk⟩ := wgR_inv h2
    exact lv_aload_n hx hb hdg rfl (lv_gl hl hg) (go _ _ _ _ hk H locs lsA hP hD hS hl hw (wtS_cons (wt_gl hw hg) hws))
  | aload k =>
    have hln := hlen1 2 hside
    subst hln
    have h2 : wgR k ls (fun b kk => K (pc + 2) ls (.inr (.inr (b, kk)) :: st) σ) := h
    obtain ⟨b, kk, hg, hk⟩ := wgR_inv h2
    exact lv_aload hx hb hdg (lv_gl hl hg) (go _ _ _ _ hk H locs lsA hP hD hS hl hw (wtS_cons (wt_gl hw hg) hws))
  | istore_n k =>
    have hln := hlen1 1 hside
    subst hln
    obtain ⟨x, r, rfl, hk⟩ := w1I_inv h
    replace hk := condT hk
    have hn : k.val < y.2.2.1 := Nat.le_of_ble_eq_true hk.1
    exact lv_istore_n hx hb hdg rfl hl hn rfl (fun ls2 hl2 => go _ _ _ _ hk.2 H locs ls2 hP hD hS (lv_has_mono hl2 sl1_mem) (wt_sl1 hw wt_I) (wtS_tail hws))
  | istore k =>
    have hln := hlen1 2 hside
    subst hln
    obtain ⟨x, r, rfl, hk⟩ := w1I_inv h
    replace hk := condT hk
    have hn : k < y.2.2.1 := Nat.le_of_ble_eq_true hk.1
    exact lv_istore hx hb hdg hl hn rfl (fun ls2 hl2 => go _ _ _ _ hk.2 H locs ls2 hP hD hS (lv_has_mono hl2 sl1_mem) (wt_sl1 hw wt_I) (wtS_tail hws))
  | lstore_n k =>
    have hln := hlen1 1 hside
    subst hln
    obtain ⟨x, r, rfl, hk⟩ := w1J_inv h
    replace hk := condT hk
    have hn : k.val + 1 < y.2.2.1 := Nat.le_of_ble_eq_true hk.1
    exact lv_lstore_n hx hb hdg rfl hl hn rfl (fun ls2 hl2 => go _ _ _ _ hk.2 H locs ls2 hP hD hS (lv_has_mono hl2 sl2_mem) (wt_sl2 hw wt_J) (wtS_tail hws))
  | lstore k =>
    have hln := hlen1 2 hside
    subst hln
    obtain ⟨x, r, rfl, hk⟩ := w1J_inv h
    replace hk := condT hk
    have hn : k + 1 < y.2.2.1 := Nat.le_of_ble_eq_true hk.1
    exact lv_lstore hx hb hdg hl hn rfl (fun ls2 hl2 => go _ _ _ _ hk.2 H locs ls2 hP hD hS (lv_has_mono hl2 sl2_mem) (wt_sl2 hw wt_J) (wtS_tail hws))
  | iinc i n =>
    obtain ⟨hk1, hln⟩ := Bool.and_eq_true_iff.mp hside
    have hln := hlen1 3 hln
    subst hln
    have hk1 := of_decide_eq_true hk1
    obtain ⟨x, hg, hk⟩ := wgI_inv h
    replace hk := condT hk
    have hn : i < y.2.2.1 := Nat.le_of_ble_eq_true hk.1
    obtain ⟨j, hj, hj2⟩ := List.mem_iff_getElem?.mp (cvL_mem (ad := ad) (gl_mem ls i _ hg)) |> fun ⟨j, hj⟩ => (⟨j, hj, trivial⟩ : ∃ j, (cvL ad ls)[j]? = some (i, cv ad (.inl x)) ∧ True)
    exact lv_iinc (k := j) (x := x) (v := x + k1) hx hb hdg hl hj (by rw [hk1]) hn rfl (fun ls2 hl2 => go _ _ _ _ hk.2 H locs ls2 hP hD hS (lv_has_mono hl2 (sl1_mem (v := .inl (x + k1)))) (wt_sl1 hw wt_I) hws)
  | iadd =>
    have hln := hlen1 1 hside
    subst hln
    obtain ⟨x, z, r, rfl, hk⟩ := w2I_inv h
    exact lv_iadd hx hb hdg (go _ _ _ _ hk H locs lsA hP hD hS hl hw (wtS_cons wt_I (wtS_tail (wtS_tail hws))))
  | isub =>
    have hln := hlen1 1 hside
    subst hln
    obtain ⟨x, z, r, rfl, hk⟩ := w2I_inv h
    exact lv_isub hx hb hdg (go _ _ _ _ hk H locs lsA hP hD hS hl hw (wtS_cons wt_I (wtS_tail (wtS_tail hws))))
  | imul =>
    have hln := hlen1 1 hside
    subst hln
    obtain ⟨x, z, r, rfl, hk⟩ := w2I_inv h
    exact lv_imul hx hb hdg (go _ _ _ _ hk H locs lsA hP hD hS hl hw (wtS_cons wt_I (wtS_tail (wtS_tail hws))))
  | iand =>
    have hln := hlen1 1 hside
    subst hln
    obtain ⟨x, z, r, rfl, hk⟩ := w2I_inv h
    exact lv_iand hx hb hdg (go _ _ _ _ hk H locs lsA hP hD hS hl hw (wtS_cons wt_I (wtS_tail (wtS_tail hws))))
  | ior =>
    have hln := hlen1 1 hside
    subst hln
    obtain ⟨x, z, r, rfl, hk⟩ := w2I_inv h
    exact lv_ior hx hb hdg (go _ _ _ _ hk H locs lsA hP hD hS hl hw (wtS_cons wt_I (wtS_tail (wtS_tail hws))))
  | ishl =>
    have hln := hlen1 1 hside
    subst hln
    obtain ⟨x, z, r, rfl, hk⟩ := w2I_inv h
    exact lv_ishl hx hb hdg (go _ _ _ _ hk H locs lsA hP hD hS hl hw (wtS_cons wt_I (wtS_tail (wtS_tail hws))))
  | ishr =>
    have hln := hlen1 1 hside
    subst hln
    obtain ⟨x, z, r, rfl, hk⟩ := w2I_inv h
    exact lv_ishr hx hb hdg (go _ _ _ _ hk H locs lsA hP hD hS hl hw (wtS_cons wt_I (wtS_tail (wtS_tail hws))))
  | iushr =>
    have hln := hlen1 1 hside
    subst hln
    obtain ⟨x, z, r, rfl, hk⟩ := w2I_inv h
    exact lv_iushr hx hb hdg rfl (go _ _ _ _ hk H locs lsA hP hD hS hl hw (wtS_cons wt_I (wtS_tail (wtS_tail hws))))
  | idiv =>
    have hln := hlen1 1 hside
    subst hln
    obtain ⟨x, z, r, rfl, hk⟩ := w2I_inv h
    exact lv_idiv hx hb hdg hk.1 (go _ _ _ _ hk.2 H locs lsA hP hD hS hl hw (wtS_cons wt_I (wtS_tail (wtS_tail hws))))
  | irem =>
    have hln := hlen1 1 hside
    subst hln
    obtain ⟨x, z, r, rfl, hk⟩ := w2I_inv h
    exact lv_irem hx hb hdg hk.1 (go _ _ _ _ hk.2 H locs lsA hP hD hS hl hw (wtS_cons wt_I (wtS_tail (wtS_tail hws))))
  | ineg =>
    have hln := hlen1 1 hside
    subst hln
    obtain ⟨x, r, rfl, hk⟩ := w1I_inv h
    exact lv_ineg hx hb hdg (go _ _ _ _ hk H locs lsA hP hD hS hl hw (wtS_cons wt_I (wtS_tail hws)))
  | i2l =>
    have hln := hlen1 1 hside
    subst hln
    obtain ⟨x, r, rfl, hk⟩ := w1I_inv h
    exact lv_i2l hx hb hdg rfl (go _ _ _ _ hk H locs lsA hP hD hS hl hw (wtS_cons wt_J (wtS_tail hws)))
  | ladd =>
    have hln := hlen1 1 hside
    subst hln
    obtain ⟨x, z, r, rfl, hk⟩ := w2J_inv h
    exact lv_ladd hx hb hdg (go _ _ _ _ hk H locs lsA hP hD hS hl hw (wtS_cons wt_J (wtS_tail (wtS_tail hws))))
  | lsub =>
    have hln := hlen1 1 hside
    subst hln
    obtain ⟨x, z, r, rfl, hk⟩ := w2J_inv h
    exact lv_lsub hx hb hdg (go _ _ _ _ hk H locs lsA hP hD hS hl hw (wtS_cons wt_J (wtS_tail (wtS_tail hws))))
  | lmul =>
    have hln := hlen1 1 hside
    subst hln
    obtain ⟨x, z, r, rfl, hk⟩ := w2J_inv h
    exact lv_lmul hx hb hdg (go _ _ _ _ hk H locs lsA hP hD hS hl hw (wtS_cons wt_J (wtS_tail (wtS_tail hws))))
  | ldiv =>
    have hln := hlen1 1 hside
    subst hln
    obtain ⟨x, z, r, rfl, hk⟩ := w2J_inv h
    exact lv_ldiv hx hb hdg hk.1 (go _ _ _ _ hk.2 H locs lsA hP hD hS hl hw (wtS_cons wt_J (wtS_tail (wtS_tail hws))))
  | lrem =>
    have hln := hlen1 1 hside
    subst hln
    obtain ⟨x, z, r, rfl, hk⟩ := w2J_inv h
    exact lv_lrem hx hb hdg hk.1 (go _ _ _ _ hk.2 H locs lsA hP hD hS hl hw (wtS_cons wt_J (wtS_tail (wtS_tail hws))))
  | lcmp =>
    have hln := hlen1 1 hside
    subst hln
    obtain ⟨x, z, r, rfl, hk⟩ := w2J_inv h
    exact W.lcmp hx hb hdg (go _ _ _ _ hk H locs lsA hP hD hS hl hw (wtS_cons wt_I (wtS_tail (wtS_tail hws))))
  | dup =>
    have hln := hlen1 1 hside
    subst hln
    match st, hws, h with
    | v :: r, hws, h =>
      cases hv : cat2 v with
      | true => simp only [wp1, hv] at h; exact h.elim
      | false =>
        simp only [wp1, hv] at h
        exact lv_dup hx hb hdg (cat2_1 hv) (go _ _ _ _ h H locs lsA hP hD hS hl hw (wtS_cons (wtS_head hws) hws))
    | [], hws, h => exact False.elim h
  | pop =>
    have hln := hlen1 1 hside
    subst hln
    match st, hws, h with
    | v :: r, hws, h =>
      cases hv : cat2 v with
      | true => simp only [wp1, hv] at h; exact h.elim
      | false =>
        simp only [wp1, hv] at h
        exact lv_pop hx hb hdg (cat2_1 hv) (go _ _ _ _ h H locs lsA hP hD hS hl hw (wtS_tail hws))
    | [], hws, h => exact False.elim h
  | dup2 =>
    have hln := hlen1 1 hside
    subst hln
    match st, hws, h with
    | v :: w :: r, hws, h =>
      cases hv : cat2 v with
      | true => simp only [wp1, hv, Bool.true_or] at h; exact h.elim
      | false =>
        cases hw2 : cat2 w with
        | true => simp only [wp1, hv, hw2, Bool.false_or] at h; exact h.elim
        | false =>
          simp only [wp1, hv, hw2, Bool.false_or] at h
          exact lv_dup2_11 hx hb hdg (cat2_1 hv) (cat2_1 hw2) (go _ _ _ _ h H locs lsA hP hD hS hl hw (wtS_cons (wtS_head hws) (wtS_cons (wtS_head (wtS_tail hws)) hws)))
    | [_], hws, h => exact False.elim h
    | [], hws, h => exact False.elim h
  | goto o =>
    obtain ⟨hk1, hln⟩ := Bool.and_eq_true_iff.mp hside
    have hln := hlen1 3 hln
    subst hln
    have hk1 := of_decide_eq_true hk1
    exact lv_goto hx hb hdg hk1 (go _ _ _ _ h H locs lsA hP hD hS hl hw hws)
  | ifnull o =>
    obtain ⟨hk1, hln⟩ := Bool.and_eq_true_iff.mp hside
    have hln := hlen1 3 hln
    subst hln
    have hk1 := of_decide_eq_true hk1
    have h2 : w1R st (fun _ _ r => K (pc + 3) ls r σ) := h
    obtain ⟨b, k, r, rfl, hk⟩ := w1R_inv h2
    exact lv_ifnull hx hb hdg (go _ _ _ _ hk H locs lsA hP hD hS hl hw (wtS_tail hws))
  | ifnonnull o =>
    obtain ⟨hk1, hln⟩ := Bool.and_eq_true_iff.mp hside
    have hln := hlen1 3 hln
    subst hln
    have hk1 := of_decide_eq_true hk1
    have h2 : w1R st (fun _ _ r => K tgt ls r σ) := h
    obtain ⟨b, k, r, rfl, hk⟩ := w1R_inv h2
    exact lv_ifnonnull hx hb hdg hk1 (go _ _ _ _ hk H locs lsA hP hD hS hl hw (wtS_tail hws))
  | if_icmp cnd o =>
    obtain ⟨hk1, hln⟩ := Bool.and_eq_true_iff.mp hside
    have hln := hlen1 3 hln
    subst hln
    have hk1 := of_decide_eq_true hk1
    cases cnd with
    | eq =>
      obtain ⟨x, z, r, rfl, hk⟩ := w2I_inv h
      exact lv_icmp_eq hx hb hdg hk1 (fun z => (go _ _ _ _ (hk.1 z) H locs lsA hP hD hS hl hw (wtS_tail (wtS_tail hws)))) (fun z => (go _ _ _ _ (hk.2 z) H locs lsA hP hD hS hl hw (wtS_tail (wtS_tail hws))))
    | ne =>
      obtain ⟨x, z, r, rfl, hk⟩ := w2I_inv h
      exact lv_icmp_ne hx hb hdg hk1 (fun z => (go _ _ _ _ (hk.1 z) H locs lsA hP hD hS hl hw (wtS_tail (wtS_tail hws)))) (fun z => (go _ _ _ _ (hk.2 z) H locs lsA hP hD hS hl hw (wtS_tail (wtS_tail hws))))
    | lt =>
      obtain ⟨x, z, r, rfl, hk⟩ := w2I_inv h
      exact lv_icmp_lt hx hb hdg hk1 (fun z => (go _ _ _ _ (hk.1 z) H locs lsA hP hD hS hl hw (wtS_tail (wtS_tail hws)))) (fun z => (go _ _ _ _ (hk.2 z) H locs lsA hP hD hS hl hw (wtS_tail (wtS_tail hws))))
    | ge =>
      obtain ⟨x, z, r, rfl, hk⟩ := w2I_inv h
      exact lv_icmp_ge hx hb hdg hk1 (fun z => (go _ _ _ _ (hk.1 (i32_ge z)) H locs lsA hP hD hS hl hw (wtS_tail (wtS_tail hws)))) (fun z => (go _ _ _ _ (hk.2 (i32_nge z)) H locs lsA hP hD hS hl hw (wtS_tail (wtS_tail hws))))
    | gt =>
      obtain ⟨x, z, r, rfl, hk⟩ := w2I_inv h
      exact lv_icmp_gt hx hb hdg hk1 (fun z => (go _ _ _ _ (hk.1 z) H locs lsA hP hD hS hl hw (wtS_tail (wtS_tail hws)))) (fun z => (go _ _ _ _ (hk.2 z) H locs lsA hP hD hS hl hw (wtS_tail (wtS_tail hws))))
    | le =>
      obtain ⟨x, z, r, rfl, hk⟩ := w2I_inv h
      exact lv_icmp_le hx hb hdg hk1 (fun z => (go _ _ _ _ (hk.1 (i32_ge z)) H locs lsA hP hD hS hl hw (wtS_tail (wtS_tail hws)))) (fun z => (go _ _ _ _ (hk.2 (i32_nge z)) H locs lsA hP hD hS hl hw (wtS_tail (wtS_tail hws))))
  | ifCond cnd o =>
    obtain ⟨hk1, hln⟩ := Bool.and_eq_true_iff.mp hside
    have hln := hlen1 3 hln
    subst hln
    have hk1 := of_decide_eq_true hk1
    cases cnd with
    | eq =>
      obtain ⟨x, r, rfl, hk⟩ := w1I_inv h
      exact lv_if_eq hx hb hdg hk1 (fun z => (go _ _ _ _ (hk.1 z) H locs lsA hP hD hS hl hw (wtS_tail hws))) (fun z => (go _ _ _ _ (hk.2 z) H locs lsA hP hD hS hl hw (wtS_tail hws)))
    | ne =>
      obtain ⟨x, r, rfl, hk⟩ := w1I_inv h
      exact lv_if_ne hx hb hdg hk1 (fun z => (go _ _ _ _ (hk.1 z) H locs lsA hP hD hS hl hw (wtS_tail hws))) (fun z => (go _ _ _ _ (hk.2 z) H locs lsA hP hD hS hl hw (wtS_tail hws)))
    | lt =>
      obtain ⟨x, r, rfl, hk⟩ := w1I_inv h
      exact lv_if_lt hx hb hdg hk1 (fun z => (go _ _ _ _ (hk.1 z) H locs lsA hP hD hS hl hw (wtS_tail hws))) (fun z => (go _ _ _ _ (hk.2 z) H locs lsA hP hD hS hl hw (wtS_tail hws)))
    | ge =>
      obtain ⟨x, r, rfl, hk⟩ := w1I_inv h
      exact lv_if_ge hx hb hdg hk1 (fun z => (go _ _ _ _ (hk.1 (i32_ge z)) H locs lsA hP hD hS hl hw (wtS_tail hws))) (fun z => (go _ _ _ _ (hk.2 (i32_nge z)) H locs lsA hP hD hS hl hw (wtS_tail hws)))
    | gt =>
      obtain ⟨x, r, rfl, hk⟩ := w1I_inv h
      exact lv_if_gt hx hb hdg hk1 (fun z => (go _ _ _ _ (hk.1 z) H locs lsA hP hD hS hl hw (wtS_tail hws))) (fun z => (go _ _ _ _ (hk.2 z) H locs lsA hP hD hS hl hw (wtS_tail hws)))
    | le =>
      obtain ⟨x, r, rfl, hk⟩ := w1I_inv h
      exact lv_if_le hx hb hdg hk1 (fun z => (go _ _ _ _ (hk.1 (i32_ge z)) H locs lsA hP hD hS hl hw (wtS_tail hws))) (fun z => (go _ _ _ _ (hk.2 (i32_nge z)) H locs lsA hP hD hS hl hw (wtS_tail hws)))
  | tableswitch dd lo hi offs =>
    obtain ⟨x, r, rfl, hk⟩ := w1I_inv h
    obtain ⟨h1, h23⟩ := Bool.and_eq_true_iff.mp hside
    obtain ⟨h2, h3⟩ := Bool.and_eq_true_iff.mp h23
    have h1 := of_decide_eq_true h1
    have h2 := of_decide_eq_true h2
    rcases csT_ok offs.toList cs lo h3 hk with ⟨j, off, t, e1, e2, e3, e4⟩ | ⟨e1, e2⟩
    · have hj : j < offs.size := by
        have := (List.getElem?_eq_some_iff.mp e1).1
        simpa using this
      have e5 : offs[(x.toInt - lo).toNat]? = some off := by
        have : (x.toInt - lo).toNat = j := by omega
        rw [this, ← Array.getElem?_toList]
        exact e1
      exact lv_tableIn hx hb hdg (by omega) (by omega) e5 e3 (go _ _ _ _ e4 H locs lsA hP hD hS hl hw (wtS_tail hws))
    · have hout : x.toInt < lo ∨ hi < x.toInt := by
        by_cases q1 : x.toInt < lo
        · exact Or.inl q1
        · by_cases q2 : hi < x.toInt
          · exact Or.inr q2
          · exfalso
            refine e1 (x.toInt - lo).toNat ?_ ?_
            · simp only [Array.length_toList]; omega
            · omega
      exact lv_tableOut hx hb hdg hout h1 (go _ _ _ _ e2 H locs lsA hP hD hS hl hw (wtS_tail hws))
  | lookupswitch dd ps =>
    obtain ⟨x, r, rfl, hk⟩ := w1I_inv h
    obtain ⟨h1, h23⟩ := Bool.and_eq_true_iff.mp hside
    obtain ⟨h2, h3⟩ := Bool.and_eq_true_iff.mp h23
    have h1 := of_decide_eq_true h1
    rcases csL_ok (dflt := dd) ps.toList cs h3 hk with ⟨off, t, e1, e2, e3⟩ | ⟨e1, e2⟩
    · exact lv_lookup hx hb hdg h2 e1 e2 (go _ _ _ _ e3 H locs lsA hP hD hS hl hw (wtS_tail hws))
    · exact lv_lookup hx hb hdg h2 e1 h1 (go _ _ _ _ e2 H locs lsA hP hD hS hl hw (wtS_tail hws))
  | arraylength =>
    have hln := hlen1 1 hside
    subst hln
    obtain ⟨b, n, r, rfl, hk⟩ := wA_inv h
    have hb1 : Y[b]? = some (.inr n) := wtS_head hws
    exact va_alen hx hb hKK hP b 0 (wl_get hb1) rfl rfl hdg (go _ _ _ _ hk H locs lsA hP hD hS hl hw (wtS_cons wt_I (wtS_tail hws)))
  | iaload =>
    have hln := hlen1 1 hside
    subst hln
    obtain ⟨i, b, n, r, rfl, hin, hk⟩ := wIA_inv h
    have hb1 : Y[b]? = some (.inr n) := wtS_head (wtS_tail hws)
    exact va_iald hx hb hKK hP b 0 (wl_get hb1) rfl hin hdg (go _ _ _ _ hk H locs lsA hP hD hS hl hw (wtS_cons wt_I (wtS_tail (wtS_tail hws))))
  | iastore =>
    have hln := hlen1 1 hside
    subst hln
    obtain ⟨x, i, b, n, r, rfl, hin, hk⟩ := wIIA_inv h
    have hb1 : Y[b]? = some (.inr n) := wtS_head (wtS_tail (wtS_tail hws))
    have hset := wl_set (cA := cA) (ad := ad) (σ := σ) (σ' := up σ b i.toNatClampNeg x) hb1 (fun c hc => up_ne σ _ _ hc) (x := .inl (cA, n, .inl (upd (σ b) i.toNatClampNeg x))) (by simp only [ent, up_same])
    refine va_iast hx hb hKK hP hD hS b 0 (wl_get hb1) rfl hin hdg ?_
    intro H1 locs1 hP1 hD1 hS1
    rw [hset] at hP1 hD1
    exact go _ _ _ _ hk H1 locs1 lsA hP1 hD1 hS1 hl hw (wtS_tail (wtS_tail (wtS_tail hws)))
  | ireturn =>
    have hln := hlen1 1 hside
    subst hln
    match st, hws, h with
    | [.inl x], hws, h =>
      have hend : ∀ t : State, t.heap = H → s.WarmedH t.vm → Q (some (.inl x)) σ → sQc Y D cA ad A Q args s (.returned (some (.int x))) t := fun t ht hW hq => ⟨⟨some (.inl x), σ, rfl, (fun v hv => by cases hv; trivial), hq, by rw [ht]; exact hP⟩, hS.F ht⟩
      have h : (match y.2.2.2 with
        | some .int => Q (some (.inl x)) σ
        | some .boolean => (x = 0 ∨ x = 1) ∧ Q (some (.inl x)) σ
        | _ => False) := h
      split at h
      · rename_i hret
        exact W.iret hx hb (hr.trans hret) (fun t ht hW => hend t ht hW h) hS.2.2 hdg hlk
      · rename_i hret
        exact W.zret hx hb (hr.trans hret) (by rcases h.1 with rfl | rfl <;> rfl) (fun t ht hW => hend t ht hW h.2) hS.2.2 hdg hlk
      · exact h.elim
  | lreturn =>
    have hln := hlen1 1 hside
    subst hln
    match st, hws, h with
    | [.inr (.inl x)], hws, h =>
      have hend : ∀ t : State, t.heap = H → s.WarmedH t.vm → Q (some (.inr (.inl x))) σ → sQc Y D cA ad A Q args s (.returned (some (.long x))) t := fun t ht hW hq => ⟨⟨some (.inr (.inl x)), σ, rfl, (fun v hv => by cases hv; trivial), hq, by rw [ht]; exact hP⟩, hS.F ht⟩
      have h : (match [(.inr (.inl x) : sv)], y.2.2.2 with
        | [.inr (.inl x)], some .long => Q (some (.inr (.inl x))) σ
        | _, _ => False) := h
      split at h
      · rename_i z hz hret
        cases hz
        exact W.lret hx hb (hr.trans hret) (fun t ht hW => hend t ht hW h) hS.2.2 hdg hlk
      · exact h.elim
  | return_ =>
    have hln := hlen1 1 hside
    subst hln
    match st, hws, h with
    | [], hws, h =>
      have hend : ∀ t : State, t.heap = H → s.WarmedH t.vm → Q none σ → sQc Y D cA ad A Q args s (.returned none) t := fun t ht hW hq => ⟨⟨none, σ, rfl, (fun v hv => by cases hv), hq, by rw [ht]; exact hP⟩, hS.F ht⟩
      have h : (match ([] : List sv), y.2.2.2 with
        | [], none => Q none σ
        | _, _ => False) := h
      split at h
      · rename_i hret
        exact W.vret hx hb (hr.trans hret) (fun t ht hW => hend t ht hW h) hS.2.2 hdg hlk
      · exact h.elim
  | getfield idx =>
    have hln := hlen1 3 hside
    subst hln
    obtain ⟨b, ci, r, rfl, hk⟩ := w1O_inv h
    have hb1 : Y[b]? = some (.inl ci) := wtS_head hws
    have hfd : ∀ (k : Nat) (sf : sF), ffind idx ci ft = some (k, sf) → (∀ (v : sv), wtv Y v → cv ad v = fv ad σ b k sf → K (pc + 3) ls (v :: r) σ → W p l en R s m args below meth c H locs 0 0 (MQ below (sQc Y D cA ad A Q) args s 0 0 A) (F0 m pc lsA ((.inr (.inr (b, .inl ci)) :: r : List sv).map (cv ad)))) := by
      intro k sf hfi v hv hcv hkk
      obtain ⟨C, T, N, ref, ⟨q1, q2, q3, ty0, q4⟩, q5, q6, q7, q8, -⟩ := hF _ (ffind_mem hfi)
      have hval : (fvs ad σ b 0 (cfs.getD ci []))[k]? = some (cv ad v) := by
        rw [hcv, fvs_get ad σ b _ 0 k sf q8, Nat.zero_add]
      refine va_get (D := D) hx hb hts q2 hown hKK hP b (wl_get hb1) q1 k q5 (hts _ q6) ?_ hval hdg (go _ _ _ _ hkk H locs lsA hP hD hS hl hw (wtS_cons hv (wtS_tail hws)))
      intro x9 h9
      rcases q7 with e | e
      · rw [e]; exact h9
      · exact u_same (hts _ e) x9 h9
    split at hk
    · rename_i k a1 a2 hfi
      exact hfd k _ hfi _ wt_I rfl hk
    · rename_i k a1 a2 hfi
      exact hfd k _ hfi _ wt_I rfl hk
    · rename_i k off kk hfi
      have hwt : Y[b + off]? = some kk := by
        obtain ⟨C, T, N, ref, -, -, -, -, q8, -⟩ := hF _ (ffind_mem hfi)
        exact hY.2 b ci hb1 k _ q8 rfl
      exact hfd k _ hfi (.inr (.inr (b + off, kk))) hwt rfl hk
    · rename_i k a1 kk hfi
      exact hfd k _ hfi (.inr (.inr ((σ b k).toNatClampNeg, kk))) hk.1 rfl hk.2
    · exact hk.elim
  | putfield idx =>
    have hln := hlen1 3 hside
    subst hln
    obtain ⟨v, b, ci, r, rfl, hk⟩ := wXO_inv h
    have hb1 : Y[b]? = some (.inl ci) := wtS_head (wtS_tail hws)
    have hfd : ∀ (k : Nat) (sf : sF) (x : Int32) (ty : FieldType), ffind idx ci ft = some (k, sf) → cv ad v = fv ad (up σ b k x) b k sf → (∀ (T : u_T) , (sf.1 = 0 → parseFieldDescriptor (T k).2.2.1 = some .int ∧ (T k).2.2.2 = false) → (sf.1 = 3 → parseFieldDescriptor (T k).2.2.1 = some .boolean ∧ (T k).2.2.2 = false) → (sf.1 = 2 → ∃ o, parseFieldDescriptor (T k).2.2.1 = some (.object o) ∧ (T k).2.2.2 = false) → ∃ ty, parseFieldDescriptor (T k).2.2.1 = some ty ∧ (T k).2.2.2 = false ∧ narrow ty (cv ad v) = cv ad v ∧ fits ty (cv ad v) = true) → K (pc + 3) ls r (up σ b k x) → W p l en R s m args below meth c H locs 0 0 (MQ below (sQc Y D cA ad A Q) args s 0 0 A) (F0 m pc lsA ((v :: .inr (.inr (b, .inl ci)) :: r : List sv).map (cv ad))) := by
      intro k sf x ty hfi hcv hty hkk
      obtain ⟨C, T, N, ref, ⟨q1, q2, q3, ty0, q4⟩, q5, q6, q7, q8, z0, z3, z2⟩ := hF _ (ffind_mem hfi)
      obtain ⟨ty, t1, t2, t3, t4⟩ := hty T z0 z3 z2
      have hset := wl_set (cA := cA) (ad := ad) (σ := σ) (σ' := up σ b k x) hb1 (fun c hc => up_ne σ _ _ hc) (x := .inr (ci, (fvs ad σ b 0 (cfs.getD ci [])).set k (cv ad v))) (by
        have := fvs_set ad σ b k x (cfs.getD ci []) 0 sf (Nat.zero_le _) (by simpa using q8)
        simp only [Nat.sub_zero] at this
        simp only [ent]
        rw [hcv, this])
      refine va_put (D := D) hx hb hts q2 ty0 q4 q3 hown hKK hP hD hS b (wl_get hb1) q1 k q5 (hts _ q6) ?_ t2 t1 t3 t4 ?_ hdg ?_
      · intro x9 h9
        rcases q7 with e | e
        · rw [e]; exact h9
        · exact u_same (hts _ e) x9 h9
      · rw [fvs_len]
        exact (List.getElem?_eq_some_iff.mp q8).1
      · intro H1 locs1 hP1 hD1 hS1
        rw [hset] at hP1 hD1
        exact go _ _ _ _ hkk H1 locs1 lsA hP1 hD1 hS1 hl hw (wtS_tail (wtS_tail hws))
    split at hk
    · rename_i k a1 a2 x hfi
      refine hfd k _ x .int hfi (by simp [cv, fv, up_same, upd]) (fun T z0 _ _ => ⟨.int, (z0 rfl).1, (z0 rfl).2, rfl, rfl⟩) hk
    · rename_i k a1 a2 x hfi
      refine hfd k _ x .boolean hfi (by simp [cv, fv, up_same, upd]) (fun T _ z3 _ => ⟨.boolean, (z3 rfl).1, (z3 rfl).2, ?_, ?_⟩) hk.2
      · rcases hk.1 with rfl | rfl <;> rfl
      · rcases hk.1 with rfl | rfl <;> rfl
    · rename_i k a1 kk b' kk' hfi
      cases hkb : kbeq kk' kk with
      | false => rw [hkb] at hk; exact hk.elim
      | true =>
        rw [hkb] at hk
        have hb' : Y[b']? = some kk' := wtS_head hws
        have hlt : b' < 2 ^ 31 := Nat.lt_trans (List.getElem?_eq_some_iff.mp hb').1 hY.1
        refine hfd k _ (nI b') .int hfi (by simp [cv, fv, up_same, upd, nI_clamp hlt]) (fun T _ _ z2 => ?_) hk
        obtain ⟨o, z4, z5⟩ := z2 rfl
        exact ⟨.object o, z4, z5, rfl, rfl⟩
    · exact hk.elim
  | invokestatic idx =>
    have hln := hlen1 3 hside
    subst hln
    replace h : wstat Y d ct idx st σ (K (pc + 3) ls) := h
    cases d with
    | zero => exact h.elim
    | succ d =>
    unfold wstat at h
    cases hcf : cfind idx ct with
    | none => simp only [hcf] at h
    | some ce =>
    simp only [hcf] at h
    obtain ⟨hmem, hidx⟩ := cfind_mem hcf
    have hE := hC ce hmem
    subst hidx
    have hfix : CallFix p m c y.2.1 y.2.2.1 s args ALL y.1.cls := ⟨hx, hb, hml, hown, hts⟩
    have go3 : ∀ (st' : List sv) (σ' : sS), K (pc + 3) ls st' σ' → ∀ (H1 : Heap) (locs1 : List Loc), va_P D classes (wl cA ad σ' Y) H1 → va_S A s.heap H1 locs1 → wtS Y st' → W p l en R s m args below meth c H1 locs1 0 0 (MQ below (sQc Y D cA ad A Q) args s 0 0 A) (F0 m (pc + 3) lsA (st'.map (cv ad))) := fun st' σ' hk H1 locs1 hP1 hS1 hw1 => go _ _ _ _ hk H1 locs1 lsA hP1 (wl_D σ' hD) hS1 hl hw hw1
    have w8 : ∀ (r : List sv) (P : Prop), cond (Nat.ble (wsum r) 8) P False → wsum r ≤ 8 ∧ P := by
      intro r P hh
      cases hbl : Nat.ble (wsum r) 8 with
      | false => rw [hbl] at hh; exact hh.elim
      | true => rw [hbl] at hh; exact ⟨Nat.le_of_ble_eq_true hbl, hh⟩
    unfold eOK at hE
    unfold wstatE at h
    split at h
    · rename_i h5
      rw [h5] at hE
      obtain ⟨x, z, r, rfl, hk⟩ := w2I_inv h
      obtain ⟨h8, hk⟩ := w8 _ _ hk
      refine va_mmin hx hb (by rw [hml, hl.1]) hown (hts _ hE.1) (hts _ hE.2.1) (hts _ hE.2.2.1) (hts _ hE.2.2.2) (by omega) ?_ (Nat.zero_le _) (Nat.zero_le _) hdg (go3 _ _ hk H locs hP hS (wtS_cons wt_I (wtS_tail (wtS_tail hws))))
      have := wsum_cat ad r
      show ((r.map (cv ad)).map fun v => v.category).sum + 13 ≤ R.locals
      omega
    · rename_i h5
      rw [h5] at hE
      obtain ⟨x, z, r, rfl, hk⟩ := w2I_inv h
      obtain ⟨h8, hk⟩ := w8 _ _ hk
      refine va_mmax hx hb (by rw [hml, hl.1]) hown (hts _ hE.1) (hts _ hE.2.1) (hts _ hE.2.2.1) (hts _ hE.2.2.2) (by omega) ?_ (Nat.zero_le _) (Nat.zero_le _) hdg (go3 _ _ hk H locs hP hS (wtS_cons wt_I (wtS_tail (wtS_tail hws))))
      have := wsum_cat ad r
      show ((r.map (cv ad)).map fun v => v.category).sum + 13 ≤ R.locals
      omega
    · rename_i h5
      rw [h5] at hE
      obtain ⟨n, dp, a, n1, sp, a0, n0, r, rfl, hk⟩ := wCp_inv h
      obtain ⟨h8, ⟨g1, g2, g3, g4, g5⟩, hk⟩ := w8 _ _ hk
      have ha1 : Y[a]? = some (.inr n1) := wtS_head (wtS_tail (wtS_tail hws))
      have ha0 : Y[a0]? = some (.inr n0) := wtS_head (wtS_tail (wtS_tail (wtS_tail (wtS_tail hws))))
      have hset := wl_set (cA := cA) (ad := ad) (σ := σ) (σ' := upA σ a (va_cpy (σ a0) (σ a) sp.toNatClampNeg dp.toNatClampNeg n.toNatClampNeg)) ha1 (fun c hc => by simp [upA, hc]) (x := .inl (cA, n1, .inl (va_cpy (σ a0) (σ a) sp.toNatClampNeg dp.toNatClampNeg n.toNatClampNeg))) (by simp [ent, upA])
      refine va_copyi hx hb (by rw [hml, hl.1]) hown (hts _ hE.1) (hts _ hE.2.1) (hts _ hE.2.2.1) (hts _ hE.2.2.2) hKK hP hD hS a0 a 0 0 (wl_get ha0) (wl_get ha1) rfl rfl rfl g1 g2 g3 g4 g5 (fun i hi => rfl) (by omega) ?_ hdg ?_
      · have := wsum_cat ad r
        have e9 : nativeFrameWords "java/lang/System" "arraycopy" 5 ≤ 40 := Nat.le_of_ble_eq_true rfl
        show ((r.map (cv ad)).map fun v => v.category).sum + (nativeFrameWords "java/lang/System" "arraycopy" 5 + 11) ≤ R.locals
        omega
      · intro H1 locs1 hP1 hD1 hS1
        rw [hset] at hP1
        exact go3 _ _ hk H1 locs1 hP1 hS1 (wtS_tail (wtS_tail (wtS_tail (wtS_tail (wtS_tail hws)))))
    · rename_i h5
      rw [h5] at hE
      obtain ⟨hy, e1, e2, e3⟩ := hE
      refine wcall_go hy h hY hws hD hS hA (fun Q' hM h8 => ?_) go3
      obtain ⟨y1, y2, y3, y4, y5, -⟩ := hy
      exact va_runSN hfix hM ⟨va_cnB _ hts (goodALL fun w hw => (List.mem_cons.mp hw).elim (fun e => e ▸ y2) id) rfl rfl rfl (hN _ e1) (hts _ e3) ⟨y4.1, y4.2, y5⟩ ⟨by show d + 1 ≤ R.frames; omega, by show 8 + (_ + 11) + (40 * d + 40) ≤ R.locals; omega⟩, hts _ e2, trivial⟩ ⟨sPc_blind, fun U hU hW => ⟨rfl, by rw [hU], by rw [hU]; exact hP, va_K.moved hW.alike hKK, hD.weaken (fun _ _ _ _ => trivial), fun w hw => NW_warm hW w hw (hN w hw)⟩⟩ rfl h8.2.1 hl.1 (take_rev ad _ st) h8.1 hdg ⟨Nat.zero_le _, Nat.zero_le _⟩
    · rename_i h5
      rw [h5] at hE
      obtain ⟨hy, e1, e2, e3⟩ := hE
      refine wcall_go hy h hY hws hD hS hA (fun Q' hM h8 => ?_) go3
      obtain ⟨y1, y2, y3, y4, y5, -⟩ := hy
      exact va_runS hfix hM (va_cwS _ hts (goodALL fun w hw => by
        rcases List.mem_append.mp hw with hw | hw
        · simp only [List.mem_cons, List.not_mem_nil, or_false] at hw
          rcases hw with rfl | rfl | rfl
          · exact e1
          · exact e2
          · exact e3
        · exact (List.mem_cons.mp hw).elim (fun e => e ▸ y2) id) rfl rfl rfl ⟨y4.1, y4.2, y5⟩ ⟨by show d + 1 ≤ R.frames; omega, by show 8 + (_ + 11) + (40 * d + 40) ≤ R.locals; omega⟩) ⟨sPc_blind, fun U hU hW => ⟨rfl, by rw [hU], by rw [hU]; exact hP, va_K.moved hW.alike hKK, hD.weaken (fun _ _ _ _ => trivial), fun w hw => NW_warm hW w hw (hN w hw)⟩⟩ rfl h8.2.1 hl.1 (take_rev ad _ st) h8.1 hdg ⟨Nat.zero_le _, Nat.zero_le _⟩
    · exact h.elim
  | invokevirtual idx =>
    have hln := hlen1 3 hside
    subst hln
    replace h : wvirt Y d ct idx st σ (K (pc + 3) ls) := h
    cases d with
    | zero => exact h.elim
    | succ d =>
    unfold wvirt at h
    cases hcf : cfind idx ct with
    | none => simp only [hcf] at h
    | some c0 =>
    simp only [hcf] at h
    obtain ⟨b, ci, r9, hdrop, hh⟩ := w1O_inv h
    clear h
    cases hcr : cfindR idx ci ct with
    | none => simp only [hcr] at hh
    | some ce =>
    simp only [hcr] at hh
    obtain ⟨hmem, hidx, hci⟩ := cfindR_mem hcr
    have hE := hC ce hmem
    subst hidx; subst hci
    have hfix : CallFix p m c y.2.1 y.2.2.1 s args ALL y.1.cls := ⟨hx, hb, hml, hown, hts⟩
    have go3 : ∀ (st' : List sv) (σ' : sS), K (pc + 3) ls st' σ' → ∀ (H1 : Heap) (locs1 : List Loc), va_P D classes (wl cA ad σ' Y) H1 → va_S A s.heap H1 locs1 → wtS Y st' → W p l en R s m args below meth c H1 locs1 0 0 (MQ below (sQc Y D cA ad A Q) args s 0 0 A) (F0 m (pc + 3) lsA (st'.map (cv ad))) := fun st' σ' hk H1 locs1 hP1 hS1 hw1 => go _ _ _ _ hk H1 locs1 lsA hP1 (wl_D σ' hD) hS1 hl hw hw1
    have wb : ∀ (a b : Nat) (P : Prop), cond (Nat.beq a b) P False → a = b ∧ P := by
      intro a b P hh
      cases hbl : Nat.beq a b with
      | false => rw [hbl] at hh; exact hh.elim
      | true => rw [hbl] at hh; exact ⟨Nat.eq_of_beq_eq_true hbl, hh⟩
    have hbY : Y[b]? = some (.inl ce.2.2.1) := hws (.inr (.inr (b, .inl ce.2.2.1))) (by
      have : (.inr (.inr (b, .inl ce.2.2.1)) : sv) ∈ st.drop c0.2.2.2.2.1 := by rw [hdrop]; exact List.mem_cons_self
      exact List.mem_of_mem_drop this)
    have h := hh
    clear hh
    unfold eOK at hE
    unfold wvirtE at h
    split at h
    · rename_i h5
      rw [h5] at hE
      obtain ⟨hna, h⟩ := wb _ _ _ h
      rw [← hna] at hdrop
      obtain ⟨htk, hdp⟩ := drop_take hdrop
      obtain ⟨hy, C, T, N, e0, e1, e2, e3, e4, e5⟩ := hE
      refine wcall_go hy h hY hws hD hS hA (fun Q' hM h8 => ?_) go3
      obtain ⟨y1, y2, y3, y4, y5, -⟩ := hy
      rw [htk] at hM ⊢
      have h9 : ((st.take ce.2.2.2.2.1).reverse).length = ce.2.2.2.2.1 := by
        have := h8.2.1
        rw [htk] at this
        simp only [List.map_cons, List.length_cons, List.length_map] at this
        omega
      exact va_runV hfix hM (cwV _ hts (goodALL fun w hw => by
        rcases List.mem_append.mp hw with hw | hw
        · simp only [List.mem_cons, List.not_mem_nil, or_false] at hw
          rcases hw with rfl | rfl | rfl | rfl
          · exact e2
          · exact e3
          · exact e4
          · exact e5
        · exact (List.mem_cons.mp hw).elim (fun e => e ▸ y2) id) rfl rfl rfl ⟨e1, y4.1, y4.2, y5⟩ ⟨by show d + 1 ≤ R.frames; omega, by show 8 + (_ + 11) + (40 * d + 40) ≤ R.locals; omega⟩) ⟨sPc_blind, va_recv hKK hP e0 (wl_get hbY), fun U hU hW => ⟨rfl, by rw [hU], by rw [hU]; exact hP, va_K.moved hW.alike hKK, hD.weaken (fun _ _ _ _ => trivial), fun w hw => NW_warm hW w hw (hN w hw)⟩⟩ rfl (by rw [List.length_map]; exact h9) hl.1 (take_revV ad hdrop) h8.1 hdg ⟨Nat.zero_le _, Nat.zero_le _⟩
    · rename_i h5
      rw [h5] at hE
      obtain ⟨hna, h⟩ := wb _ _ _ h
      rw [← hna] at hdrop
      obtain ⟨htk, hdp⟩ := drop_take hdrop
      obtain ⟨hy, C, T, N, e0, e1, e2, e3, e4, e5, e6, e7⟩ := hE
      refine wcall_go hy h hY hws hD hS hA (fun Q' hM h8 => ?_) go3
      obtain ⟨y1, y2, y3, y4, y5, -⟩ := hy
      rw [htk] at hM ⊢
      have h9 : ((st.take ce.2.2.2.2.1).reverse).length = ce.2.2.2.2.1 := by
        have := h8.2.1
        rw [htk] at this
        simp only [List.map_cons, List.length_cons, List.length_map] at this
        omega
      have y5' : (parseMethodDescriptor ce.2.2.2.2.2.1.desc).map (fun d => d.parameters.length) = some ce.2.2.2.2.1 := by
        rw [e1] at y5
        exact y5
      exact va_runU hfix hM (va_cwU _ hts (goodALL fun w hw => by
        rcases List.mem_append.mp hw with hw | hw
        · simp only [List.mem_cons, List.not_mem_nil, or_false] at hw
          rcases hw with rfl | rfl | rfl | rfl | rfl
          · exact e2
          · exact e3
          · exact e4
          · exact e5
          · exact e6
        · exact (List.mem_cons.mp hw).elim (fun e => e ▸ y2) id) rfl rfl rfl e1 ⟨e7.1, e7.2, y5'⟩ ⟨by show d + 1 ≤ R.frames; omega, by show 8 + (_ + 11) + (40 * d + 40) ≤ R.locals; omega⟩) ⟨sPc_blind, va_recv hKK hP e0 (wl_get hbY), fun U hU hW => ⟨rfl, by rw [hU], by rw [hU]; exact hP, va_K.moved hW.alike hKK, hD.weaken (fun _ _ _ _ => trivial), fun w hw => NW_warm hW w hw (hN w hw)⟩⟩ rfl (by rw [List.length_map]; exact h9) hl.1 (take_revV ad hdrop) h8.1 hdg ⟨Nat.zero_le _, Nat.zero_le _⟩
    · rename_i h5
      rw [h5] at hE
      obtain ⟨hna, h⟩ := wb _ _ _ h
      rw [← hna] at hdrop
      obtain ⟨htk, hdp⟩ := drop_take hdrop
      obtain ⟨hy, C, T, N, e0, e2, e3, e4, e5, e6, e7, e8, y5'⟩ := hE
      refine wcall_go hy h hY hws hD hS hA (fun Q' hM h8 => ?_) go3
      obtain ⟨y1, y2, y3, y4, y5, -⟩ := hy
      rw [htk] at hM ⊢
      have h9 : ((st.take ce.2.2.2.2.1).reverse).length = ce.2.2.2.2.1 := by
        have := h8.2.1
        rw [htk] at this
        simp only [List.map_cons, List.length_cons, List.length_map] at this
        omega
      exact va_runU hfix hM (va_cwA _ hts (goodALL fun w hw => by
        rcases List.mem_append.mp hw with hw | hw
        · simp only [List.mem_cons, List.not_mem_nil, or_false] at hw
          rcases hw with rfl | rfl | rfl | rfl | rfl
          · exact e2
          · exact e3
          · exact e4
          · exact e5
          · exact e6
        · exact (List.mem_cons.mp hw).elim (fun e => e ▸ y2) id) rfl rfl rfl (hN _ e8) ⟨e7.1, e7.2, y5'⟩ ⟨by show d + 1 ≤ R.frames; omega, by show 8 + (_ + 11) + (40 * d + 40) ≤ R.locals; omega⟩) ⟨sPc_blind, va_recv hKK hP e0 (wl_get hbY), fun U hU hW => ⟨rfl, by rw [hU], by rw [hU]; exact hP, va_K.moved hW.alike hKK, hD.weaken (fun _ _ _ _ => trivial), fun w hw => NW_warm hW w hw (hN w hw)⟩⟩ rfl (by rw [List.length_map]; exact h9) hl.1 (take_revV ad hdrop) h8.1 hdg ⟨Nat.zero_le _, Nat.zero_le _⟩
    · exact h.elim
  | _ => exact False.elim h
end
section
/-! a stretch of a method: up to the stops -/
def fnd (pc : Nat) : List sT → Option sT
  | [] => none
  | e :: r => cond (Nat.beq e.1 pc) (some e) (fnd pc r)
def lkS (pc : Nat) : List (Nat × List Nat) → Option (List Nat)
  | [] => none
  | e :: r => cond (Nat.beq e.1 pc) (some e.2) (lkS pc r)
def hasK (k : Nat) : List Nat → Bool
  | [] => false
  | j :: r => cond (Nat.beq j k) true (hasK k r)
def keepL (ks : List Nat) : sL → sL
  | [] => []
  | q :: r => cond (hasK q.1 ks) (q :: keepL ks r) (keepL ks r)
def blk (Y : List kd) (d : Nat) (y : sY) (ft : List (Nat × Nat × Nat × sF)) (ct : List sE) (tab : List sT) (stops : List (Nat × List Nat)) (Q : Option sv → sS → Prop) : Nat → Nat → sL → List sv → sS → Prop
  | 0, pc, ls, st, σ => Jd Y d y pc ls st σ Q
  | n + 1, pc, ls, st, σ => match fnd pc tab with
    | none => False
    | some e => wp1 Y d y.2.2.1 y.2.2.2 ft ct e ls st σ (fun pc' ls' st' σ' => match lkS pc' stops with
      | some ks => Jd Y d y pc' (keepL ks ls') st' σ' Q
      | none => blk Y d y ft ct tab stops Q n pc' ls' st' σ') Q
theorem fnd_mem {pc : Nat} : ∀ {tab : List sT} {e : sT}, fnd pc tab = some e → e ∈ tab ∧ e.1 = pc
  | [], e, h => by cases h
  | q :: r, e, h => by
    simp only [fnd] at h
    cases hb : Nat.beq q.1 pc with
    | true =>
      rw [hb] at h
      have : q = e := by simpa using h
      subst this
      exact ⟨List.mem_cons_self, Nat.eq_of_beq_eq_true hb⟩
    | false =>
      rw [hb] at h
      exact ⟨List.mem_cons_of_mem _ (fnd_mem h).1, (fnd_mem h).2⟩
theorem keepL_mem {ks : List Nat} : ∀ {ls : sL} (q : Nat × sv), q ∈ keepL ks ls → q ∈ ls
  | [], q, h => by cases h
  | p :: r, q, h => by
    simp only [keepL] at h
    cases hb : hasK p.1 ks with
    | true =>
      rw [hb] at h
      rcases List.mem_cons.mp h with rfl | h
      · exact List.mem_cons_self
      · exact List.mem_cons_of_mem _ (keepL_mem q h)
    | false =>
      rw [hb] at h
      exact List.mem_cons_of_mem _ (keepL_mem q h)
/-- what a method's tables must be -/
def mOK (Y : List kd) (y : sY) (ft : List (Nat × Nat × Nat × sF)) (ct : List sE) (tab : List sT) : Prop := (∀ e ∈ tab, sTok y.1.cls y.2.1 e) ∧ (∀ q ∈ ft, fOK y.1.cls q) ∧ ∀ q ∈ ct, eOK Y y.1.cls q
theorem blk_ok {Y : List kd} {d : Nat} {y : sY} {ft : List (Nat × Nat × Nat × sF)} {ct : List sE} {tab : List sT} (hM : mOK Y y ft ct tab) (stops : List (Nat × List Nat)) {Q : Option sv → sS → Prop} : ∀ (n pc : Nat) (ls : sL) (st : List sv) (σ : sS), blk Y d y ft ct tab stops Q n pc ls st σ → Jd Y d y pc ls st σ Q
  | 0, pc, ls, st, σ, h => h
  | n + 1, pc, ls, st, σ, h => by
    simp only [blk] at h
    cases hf : fnd pc tab with
    | none => simp only [hf] at h
    | some e =>
      simp only [hf] at h
      obtain ⟨hm, hpc⟩ := fnd_mem hf
      rw [← hpc]
      refine wp1_ok hM.2.1 hM.2.2 (hM.1 e hm) h ?_
      intro pc' ls' st' σ' hk
      cases hl : lkS pc' stops with
      | none =>
        simp only [hl] at hk
        exact blk_ok hM stops n pc' ls' st' σ' hk
      | some ks =>
        simp only [hl] at hk
        exact Jd.sub hk (fun q hq => keepL_mem q hq)
theorem tab_of {own : String} {bytes : ByteArray} {tab : List sT} (h : tab.all (fun e => decide (decode bytes e.1 = .ok (e.2.2.1, e.2.1)) && sSide own e) = true) : ∀ e ∈ tab, sTok own bytes e := by
  intro e he
  have := List.all_eq_true.mp h e he
  simp only [Bool.and_eq_true, decide_eq_true_eq] at this
  exact this
end
section
/-! the methods: name, bytes, locals, what they answer -/
def y_GF_letter : sY := (⟨"GathersAllFaults", "letter", "(I)I"⟩, prog_1_method_2_code, 2, (some .int))
def y_GF_refuse : sY := (⟨"GathersAllFaults", "refuse", "(I)I"⟩, prog_1_method_33_code, 2, (some .int))
def y_GF_at : sY := (⟨"GathersAllFaults", "at", "([II)I"⟩, prog_1_method_48_code, 2, (some .int))
def y_GF_set : sY := (⟨"GathersAllFaults", "set", "([III)V"⟩, prog_1_method_49_code, 3, none)
def y_GF_value : sY := (⟨"GathersAllFaults", "value", "()I"⟩, prog_1_method_3_code, 2, (some .int))
def y_RD_read : sY := (⟨"GathersAllFaults$Reader", "read", "([II)I"⟩, prog_5_method_2_code, 4, (some .int))
def y_RD_stumble : sY := (⟨"GathersAllFaults$Reader", "stumble", "([II)I"⟩, prog_5_method_3_code, 4, (some .int))
def y_CR_goesOn : sY := (⟨"GathersAllFaults$CheckReader", "goesOn", "(I)Z"⟩, prog_2_method_2_code, 2, (some .boolean))
def y_CR_begins : sY := (⟨"GathersAllFaults$CheckReader", "begins", "(I)Z"⟩, prog_2_method_3_code, 2, (some .boolean))
def y_CR_ends : sY := (⟨"GathersAllFaults$CheckReader", "ends", "()V"⟩, prog_2_method_7_code, 1, none)
def y_RD_top : sY := (⟨"GathersAllFaults$Reader", "top", "()I"⟩, prog_5_method_6_code, 1, (some .int))
def y_RD_pop : sY := (⟨"GathersAllFaults$Reader", "pop", "()V"⟩, prog_5_method_5_code, 1, none)
def y_RD_push : sY := (⟨"GathersAllFaults$Reader", "push", "(I)V"⟩, prog_5_method_4_code, 2, none)
def y_CR_goBehindDigits : sY := (⟨"GathersAllFaults$CheckReader", "goBehindDigits", "()V"⟩, prog_2_method_4_code, 1, none)
def y_GF_isDigit : sY := (⟨"GathersAllFaults", "isDigit", "(I)Z"⟩, prog_1_method_45_code, 1, (some .boolean))
def y_CR_field : sY := (⟨"GathersAllFaults$CheckReader", "field", "(I)Z"⟩, prog_2_method_5_code, 2, (some .boolean))
def y_GF_isName : sY := (⟨"GathersAllFaults", "isName", "(I)Z"⟩, prog_1_method_46_code, 1, (some .boolean))
def y_CR_last : sY := (⟨"GathersAllFaults$CheckReader", "last", "(I)Z"⟩, prog_2_method_6_code, 2, (some .boolean))
def y_VR_goesOn : sY := (⟨"GathersAllFaults$ValueReader", "goesOn", "(I)Z"⟩, prog_7_method_2_code, 3, (some .boolean))
def y_VR_begins : sY := (⟨"GathersAllFaults$ValueReader", "begins", "(I)Z"⟩, prog_7_method_3_code, 2, (some .boolean))
def y_VR_ends : sY := (⟨"GathersAllFaults$ValueReader", "ends", "()V"⟩, prog_7_method_5_code, 1, none)
def y_VR_closes : sY := (⟨"GathersAllFaults$ValueReader", "closes", "()Z"⟩, prog_7_method_4_code, 1, (some .boolean))
def y_CR_build : sY := (⟨"GathersAllFaults$CheckReader", "build", "([II)I"⟩, prog_2_method_8_code, 4, (some .int))
def y_CR_takes : sY := (⟨"GathersAllFaults$CheckReader", "takes", "([II)Z"⟩, prog_2_method_10_code, 4, (some .boolean))
def y_CR_settle : sY := (⟨"GathersAllFaults$CheckReader", "settle", "()V"⟩, prog_2_method_17_code, 3, none)
def y_GF_digitOf : sY := (⟨"GathersAllFaults", "digitOf", "(I)I"⟩, prog_1_method_47_code, 1, (some .int))
def y_CR_addsField : sY := (⟨"GathersAllFaults$CheckReader", "addsField", "(II)Z"⟩, prog_2_method_12_code, 4, (some .boolean))
def y_PL_knows : sY := (⟨"GathersAllFaults$Plan", "knows", "(II)Z"⟩, prog_4_method_3_code, 3, (some .boolean))
def y_CR_addsDependent : sY := (⟨"GathersAllFaults$CheckReader", "addsDependent", "(III)Z"⟩, prog_2_method_13_code, 5, (some .boolean))
def y_PL_depend : sY := (⟨"GathersAllFaults$Plan", "depend", "(IIII)V"⟩, prog_4_method_5_code, 5, none)
def y_CR_two : sY := (⟨"GathersAllFaults$CheckReader", "two", "([II)I"⟩, prog_2_method_11_code, 2, (some .int))
def y_CR_adds : sY := (⟨"GathersAllFaults$CheckReader", "adds", "(III)Z"⟩, prog_2_method_14_code, 5, (some .boolean))
def y_CR_canReturn : sY := (⟨"GathersAllFaults$CheckReader", "canReturn", "()Z"⟩, prog_2_method_16_code, 3, (some .boolean))
def y_PL_add : sY := (⟨"GathersAllFaults$Plan", "add", "(III)Z"⟩, prog_4_method_4_code, 4, (some .boolean))
def y_CR_wants : sY := (⟨"GathersAllFaults$CheckReader", "wants", "(I)I"⟩, prog_2_method_15_code, 1, (some .int))
def y_CR_tail : sY := (⟨"GathersAllFaults$CheckReader", "tail", "(I)I"⟩, prog_2_method_9_code, 1, (some .int))
def y_VR_build : sY := (⟨"GathersAllFaults$ValueReader", "build", "([II)I"⟩, prog_7_method_6_code, 9, (some .int))
def y_VR_adds : sY := (⟨"GathersAllFaults$ValueReader", "adds", "(II)Z"⟩, prog_7_method_8_code, 5, (some .boolean))
def y_TR_add : sY := (⟨"GathersAllFaults$Tree", "add", "(III)Z"⟩, prog_6_method_5_code, 4, (some .boolean))
def y_VR_takes : sY := (⟨"GathersAllFaults$ValueReader", "takes", "(I)Z"⟩, prog_7_method_7_code, 2, (some .boolean))
def y_TR_child : sY := (⟨"GathersAllFaults$Tree", "child", "(II)I"⟩, prog_6_method_4_code, 6, (some .int))
def y_TR_link : sY := (⟨"GathersAllFaults$Tree", "link", "()V"⟩, prog_6_method_6_code, 5, none)
def y_TR_take : sY := (⟨"GathersAllFaults$Tree", "take", "(LGathersAllFaults$Tree;)V"⟩, prog_6_method_2_code, 2, none)
def y_GF_copy : sY := (⟨"GathersAllFaults", "copy", "([I[I)V"⟩, prog_1_method_50_code, 2, none)
def y_GF_check : sY := (⟨"GathersAllFaults", "check", "()I"⟩, prog_1_method_4_code, 2, (some .int))
def y_PL_take : sY := (⟨"GathersAllFaults$Plan", "take", "(LGathersAllFaults$Plan;)V"⟩, prog_4_method_2_code, 2, none)
def y_GF_part : sY := (⟨"GathersAllFaults", "part", "(II)I"⟩, prog_1_method_5_code, 4, (some .int))
def y_TR_find : sY := (⟨"GathersAllFaults$Tree", "find", "(I)I"⟩, prog_6_method_3_code, 3, (some .int))
def y_GF_path : sY := (⟨"GathersAllFaults", "path", "(I)I"⟩, prog_1_method_6_code, 2, (some .int))
def y_GF_puts : sY := (⟨"GathersAllFaults", "puts", "(II)I"⟩, prog_1_method_7_code, 5, (some .int))
def y_TR_fill : sY := (⟨"GathersAllFaults$Tree", "fill", "(III)V"⟩, prog_6_method_7_code, 4, none)
def y_TR_takeOut : sY := (⟨"GathersAllFaults$Tree", "takeOut", "(II)V"⟩, prog_6_method_10_code, 4, none)
def y_GF_close : sY := (⟨"GathersAllFaults", "close", "([IIII)V"⟩, prog_1_method_51_code, 4, none)
def y_GF_drops : sY := (⟨"GathersAllFaults", "drops", "(I)I"⟩, prog_1_method_8_code, 4, (some .int))
def y_GF_faults : sY := (⟨"GathersAllFaults", "faults", "()I"⟩, prog_1_method_9_code, 1, (some .int))
def y_GA_gather : sY := (⟨"GathersAllFaults$Gatherer", "gather", "(LGathersAllFaults$Tree;)I"⟩, prog_3_method_2_code, 2, (some .int))
def y_GA_look : sY := (⟨"GathersAllFaults$Gatherer", "look", "(III)V"⟩, prog_3_method_9_code, 9, none)
def y_GA_deciderOf : sY := (⟨"GathersAllFaults$Gatherer", "deciderOf", "(II)I"⟩, prog_3_method_10_code, 6, (some .int))
def y_GA_add : sY := (⟨"GathersAllFaults$Gatherer", "add", "(II)V"⟩, prog_3_method_8_code, 3, none)
def y_GA_lookAtNumber : sY := (⟨"GathersAllFaults$Gatherer", "lookAtNumber", "(II)V"⟩, prog_3_method_11_code, 5, none)
def y_GA_lookAtRecord : sY := (⟨"GathersAllFaults$Gatherer", "lookAtRecord", "(III)V"⟩, prog_3_method_13_code, 8, none)
def y_GA_lookAtFields : sY := (⟨"GathersAllFaults$Gatherer", "lookAtFields", "(III)V"⟩, prog_3_method_14_code, 9, none)
def y_GA_lookForStrangers : sY := (⟨"GathersAllFaults$Gatherer", "lookForStrangers", "(II)V"⟩, prog_3_method_15_code, 6, none)
def y_GA_lookAtDependent : sY := (⟨"GathersAllFaults$Gatherer", "lookAtDependent", "(III)V"⟩, prog_3_method_16_code, 6, none)
def y_GA_countBelow : sY := (⟨"GathersAllFaults$Gatherer", "countBelow", "(II)I"⟩, prog_3_method_6_code, 5, (some .int))
def y_GA_goesOnFrom : sY := (⟨"GathersAllFaults$Gatherer", "goesOnFrom", "(II)Z"⟩, prog_3_method_7_code, 4, (some .boolean))
def y_TR_less : sY := (⟨"GathersAllFaults$Tree", "less", "(II)Z"⟩, prog_6_method_12_code, 3, (some .boolean))
def y_TR_alike : sY := (⟨"GathersAllFaults$Tree", "alike", "(III)Z"⟩, prog_6_method_11_code, 8, (some .boolean))
def y_GA_lookAtList : sY := (⟨"GathersAllFaults$Gatherer", "lookAtList", "(III)V"⟩, prog_3_method_12_code, 8, none)
def y_GA_lookForTwins : sY := (⟨"GathersAllFaults$Gatherer", "lookForTwins", "(II)V"⟩, prog_3_method_17_code, 8, none)
def y_GA_keepFewer : sY := (⟨"GathersAllFaults$Gatherer", "keepFewer", "(IIII)V"⟩, prog_3_method_18_code, 6, none)
def y_GF_fault : sY := (⟨"GathersAllFaults", "fault", "(II)I"⟩, prog_1_method_10_code, 4, (some .int))
def y_GA_pathAt : sY := (⟨"GathersAllFaults$Gatherer", "pathAt", "(I)I"⟩, prog_3_method_3_code, 2, (some .int))
def y_GA_codeAt : sY := (⟨"GathersAllFaults$Gatherer", "codeAt", "(I)I"⟩, prog_3_method_4_code, 2, (some .int))
def y_GF_coded : sY := (⟨"GathersAllFaults", "coded", "(I)I"⟩, prog_1_method_11_code, 2, (some .int))
def y_GA_countCode : sY := (⟨"GathersAllFaults$Gatherer", "countCode", "(I)I"⟩, prog_3_method_5_code, 4, (some .int))
def y_GF_below : sY := (⟨"GathersAllFaults", "below", "(I)I"⟩, prog_1_method_12_code, 2, (some .int))
def y_GF_waits : sY := (⟨"GathersAllFaults", "waits", "()I"⟩, prog_1_method_13_code, 1, (some .int))
def y_GF_first : sY := (⟨"GathersAllFaults", "first", "()I"⟩, prog_1_method_14_code, 1, (some .int))
def y_GF_limited : sY := (⟨"GathersAllFaults", "limited", "(II)I"⟩, prog_1_method_15_code, 4, (some .int))
def y_GF_total : sY := (⟨"GathersAllFaults", "total", "()I"⟩, prog_1_method_16_code, 3, (some .int))
def y_GF_same : sY := (⟨"GathersAllFaults", "same", "(II)I"⟩, prog_1_method_17_code, 5, (some .int))
def y_GF_different : sY := (⟨"GathersAllFaults", "different", "()I"⟩, prog_1_method_18_code, 3, (some .int))
def y_GF_firstAlike : sY := (⟨"GathersAllFaults", "firstAlike", "(I)I"⟩, prog_1_method_39_code, 3, (some .int))
def y_GF_often : sY := (⟨"GathersAllFaults", "often", "(I)I"⟩, prog_1_method_19_code, 6, (some .int))
def y_GF_countAlike : sY := (⟨"GathersAllFaults", "countAlike", "(I)I"⟩, prog_1_method_40_code, 4, (some .int))
def y_GF_without : sY := (⟨"GathersAllFaults", "without", "(I)I"⟩, prog_1_method_20_code, 3, (some .int))
def y_TR_leaveOut : sY := (⟨"GathersAllFaults$Tree", "leaveOut", "(I)V"⟩, prog_6_method_8_code, 3, none)
def y_TR_parentOf : sY := (⟨"GathersAllFaults$Tree", "parentOf", "(I)I"⟩, prog_6_method_9_code, 4, (some .int))
def y_GF_mend : sY := (⟨"GathersAllFaults", "mend", "(I)I"⟩, prog_1_method_21_code, 7, (some .int))
def y_GF_range : sY := (⟨"GathersAllFaults", "range", "(II)I"⟩, prog_1_method_22_code, 6, (some .int))
def y_GF_loss : sY := (⟨"GathersAllFaults", "loss", "(II)J"⟩, prog_1_method_23_code, 7, (some .long))
def y_GF_refuseLong : sY := (⟨"GathersAllFaults", "refuseLong", "(I)J"⟩, prog_1_method_34_code, 2, (some .long))
def y_GF_numbers : sY := (⟨"GathersAllFaults", "numbers", "()I"⟩, prog_1_method_41_code, 3, (some .int))
def y_GF_tryLosing : sY := (⟨"GathersAllFaults", "tryLosing", "(II)V"⟩, prog_1_method_35_code, 5, none)
def y_JI_bitCount : sY := (⟨"java/lang/Integer", "bitCount", "(I)I"⟩, prog_10_method_49_code, 1, (some .int))
def y_GF_power : sY := (⟨"GathersAllFaults", "power", "(II)J"⟩, prog_1_method_44_code, 5, (some .long))
def y_GF_fraction : sY := (⟨"GathersAllFaults", "fraction", "(JJI)J"⟩, prog_1_method_43_code, 12, (some .long))
def y_GF_mean : sY := (⟨"GathersAllFaults", "mean", "(I)J"⟩, prog_1_method_24_code, 2, (some .long))
def y_GF_which : sY := (⟨"GathersAllFaults", "which", "(I)I"⟩, prog_1_method_25_code, 5, (some .int))
def y_GF_firstMistold : sY := (⟨"GathersAllFaults", "firstMistold", "()I"⟩, prog_1_method_38_code, 2, (some .int))
def y_GF_row : sY := (⟨"GathersAllFaults", "row", "(I)I"⟩, prog_1_method_26_code, 2, (some .int))
def y_GF_judge : sY := (⟨"GathersAllFaults", "judge", "()I"⟩, prog_1_method_27_code, 4, (some .int))
def y_GF_clear : sY := (⟨"GathersAllFaults", "clear", "()I"⟩, prog_1_method_28_code, 2, (some .int))
def y_GF_lots : sY := (⟨"GathersAllFaults", "lots", "(III)I"⟩, prog_1_method_29_code, 8, (some .int))
def y_GF_tryLots : sY := (⟨"GathersAllFaults", "tryLots", "()V"⟩, prog_1_method_36_code, 3, none)
def y_GF_draw : sY := (⟨"GathersAllFaults", "draw", "(I)I"⟩, prog_1_method_37_code, 3, (some .int))
def y_GF_image : sY := (⟨"GathersAllFaults", "image", "()I"⟩, prog_1_method_30_code, 1, (some .int))
def y_GF_on : sY := (⟨"GathersAllFaults", "on", "()I"⟩, prog_1_method_31_code, 1, (some .int))
def y_GF_count : sY := (⟨"GathersAllFaults", "count", "(I)I"⟩, prog_1_method_32_code, 2, (some .int))
def y_GF_greatestPath : sY := (⟨"GathersAllFaults", "greatestPath", "()I"⟩, prog_1_method_42_code, 3, (some .int))
def y_MO_measures : sY := (⟨"GathersAllFaultsModel", "measures", "()V"⟩, prog_9_method_9_code, 4, none)
def y_MO_many : sY := (⟨"GathersAllFaultsModel", "many", "(I)I"⟩, prog_9_method_8_code, 2, (some .int))
def y_MO_isHolding : sY := (⟨"GathersAllFaultsModel", "isHolding", "(I)Z"⟩, prog_9_method_7_code, 2, (some .boolean))
def y_MO_letter : sY := (⟨"GathersAllFaultsModel", "letter", "(I)I"⟩, prog_9_method_41_code, 3, (some .int))
def y_MO_bound : sY := (⟨"GathersAllFaultsModel", "bound", "(III)I"⟩, prog_9_method_5_code, 3, (some .int))
def y_MO_no : sY := (⟨"GathersAllFaultsModel", "no", "(I)I"⟩, prog_9_method_2_code, 2, (some .int))
def y_MO_value : sY := (⟨"GathersAllFaultsModel", "value", "()I"⟩, prog_9_method_55_code, 2, (some .int))
def y_MO_passesValue : sY := (⟨"GathersAllFaultsModel", "passesValue", "(IZ)V"⟩, prog_9_method_69_code, 3, none)
def y_MO_passes : sY := (⟨"GathersAllFaultsModel", "passes", "([I)V"⟩, prog_9_method_67_code, 3, none)
def y_MO_passOne : sY := (⟨"GathersAllFaultsModel", "passOne", "(I)I"⟩, prog_9_method_68_code, 3, (some .int))
def y_MO_readsValue : sY := (⟨"GathersAllFaultsModel", "readsValue", "()Z"⟩, prog_9_method_54_code, 2, (some .boolean))
def y_MO_readsPart : sY := (⟨"GathersAllFaultsModel", "readsPart", "()Z"⟩, prog_9_method_50_code, 3, (some .boolean))
def y_MO_sign : sY := (⟨"GathersAllFaultsModel", "sign", "()I"⟩, prog_9_method_42_code, 1, (some .int))
def y_MO_isIn : sY := (⟨"GathersAllFaultsModel", "isIn", "(III)Z"⟩, prog_9_method_4_code, 3, (some .boolean))
def y_MO_readsNumber : sY := (⟨"GathersAllFaultsModel", "readsNumber", "()Z"⟩, prog_9_method_49_code, 3, (some .boolean))
def y_MO_beginsPart : sY := (⟨"GathersAllFaultsModel", "beginsPart", "(II)I"⟩, prog_9_method_48_code, 5, (some .int))
def y_MO_isBad : sY := (⟨"GathersAllFaultsModel", "isBad", "(I)V"⟩, prog_9_method_44_code, 2, none)
def y_MO_digit : sY := (⟨"GathersAllFaultsModel", "digit", "()I"⟩, prog_9_method_45_code, 1, (some .int))
def y_MO_opens : sY := (⟨"GathersAllFaultsModel", "opens", "(IIZ)V"⟩, prog_9_method_47_code, 4, none)
def y_MO_readsInside : sY := (⟨"GathersAllFaultsModel", "readsInside", "()Z"⟩, prog_9_method_53_code, 1, (some .boolean))
def y_MO_closes : sY := (⟨"GathersAllFaultsModel", "closes", "(I)Z"⟩, prog_9_method_51_code, 2, (some .boolean))
def y_MO_reads : sY := (⟨"GathersAllFaultsModel", "reads", "(I)Z"⟩, prog_9_method_43_code, 2, (some .boolean))
def y_MO_readsField : sY := (⟨"GathersAllFaultsModel", "readsField", "()Z"⟩, prog_9_method_52_code, 2, (some .boolean))
def y_MO_nameNow : sY := (⟨"GathersAllFaultsModel", "nameNow", "()I"⟩, prog_9_method_46_code, 1, (some .int))
def y_MO_has : sY := (⟨"GathersAllFaultsModel", "has", "(II)Z"⟩, prog_9_method_6_code, 2, (some .boolean))
def y_MO_check : sY := (⟨"GathersAllFaultsModel", "check", "()I"⟩, prog_9_method_66_code, 2, (some .int))
def y_MO_passesCheck : sY := (⟨"GathersAllFaultsModel", "passesCheck", "(IZ)V"⟩, prog_9_method_70_code, 3, none)
def y_MO_readsAllCheck : sY := (⟨"GathersAllFaultsModel", "readsAllCheck", "()Z"⟩, prog_9_method_65_code, 2, (some .boolean))
def y_MO_readsCheck : sY := (⟨"GathersAllFaultsModel", "readsCheck", "()Z"⟩, prog_9_method_60_code, 4, (some .boolean))
def y_MO_isInside : sY := (⟨"GathersAllFaultsModel", "isInside", "()Z"⟩, prog_9_method_56_code, 1, (some .boolean))
def y_MO_beginsCheck : sY := (⟨"GathersAllFaultsModel", "beginsCheck", "(I)I"⟩, prog_9_method_57_code, 3, (some .int))
def y_MO_readsBounds : sY := (⟨"GathersAllFaultsModel", "readsBounds", "(II)Z"⟩, prog_9_method_58_code, 7, (some .boolean))
def y_MO_endsCheck : sY := (⟨"GathersAllFaultsModel", "endsCheck", "(I)V"⟩, prog_9_method_59_code, 6, none)
def y_MO_readsInCheck : sY := (⟨"GathersAllFaultsModel", "readsInCheck", "()Z"⟩, prog_9_method_64_code, 1, (some .boolean))
def y_MO_readsWaiter : sY := (⟨"GathersAllFaultsModel", "readsWaiter", "()Z"⟩, prog_9_method_62_code, 6, (some .boolean))
def y_MO_closesRecord : sY := (⟨"GathersAllFaultsModel", "closesRecord", "()Z"⟩, prog_9_method_63_code, 1, (some .boolean))
def y_MO_readsCheckField : sY := (⟨"GathersAllFaultsModel", "readsCheckField", "()Z"⟩, prog_9_method_61_code, 6, (some .boolean))
def y_MO_image : sY := (⟨"GathersAllFaultsModel", "image", "()I"⟩, prog_9_method_73_code, 1, (some .int))
def y_MO_on : sY := (⟨"GathersAllFaultsModel", "on", "()I"⟩, prog_9_method_74_code, 1, (some .int))
def y_MO_part : sY := (⟨"GathersAllFaultsModel", "part", "(II)I"⟩, prog_9_method_75_code, 4, (some .int))
def y_MO_partAt : sY := (⟨"GathersAllFaultsModel", "partAt", "(I)I"⟩, prog_9_method_10_code, 3, (some .int))
def y_MO_path : sY := (⟨"GathersAllFaultsModel", "path", "(I)I"⟩, prog_9_method_76_code, 2, (some .int))
def y_MO_puts : sY := (⟨"GathersAllFaultsModel", "puts", "(II)I"⟩, prog_9_method_77_code, 6, (some .int))
def y_MO_putsAt : sY := (⟨"GathersAllFaultsModel", "putsAt", "(III)V"⟩, prog_9_method_14_code, 4, none)
def y_MO_takesOut : sY := (⟨"GathersAllFaultsModel", "takesOut", "(II)V"⟩, prog_9_method_13_code, 4, none)
def y_MO_drops : sY := (⟨"GathersAllFaultsModel", "drops", "(I)I"⟩, prog_9_method_78_code, 4, (some .int))
def y_MO_faults : sY := (⟨"GathersAllFaultsModel", "faults", "()I"⟩, prog_9_method_80_code, 1, (some .int))
def y_MO_manyNow : sY := (⟨"GathersAllFaultsModel", "manyNow", "()I"⟩, prog_9_method_79_code, 1, (some .int))
def y_MO_findFaults : sY := (⟨"GathersAllFaultsModel", "findFaults", "()V"⟩, prog_9_method_40_code, 1, none)
def y_MO_looks : sY := (⟨"GathersAllFaultsModel", "looks", "(II)V"⟩, prog_9_method_20_code, 3, none)
def y_MO_goesOn : sY := (⟨"GathersAllFaultsModel", "goesOn", "(II)V"⟩, prog_9_method_39_code, 3, none)
def y_MO_findsNumber : sY := (⟨"GathersAllFaultsModel", "findsNumber", "(II)V"⟩, prog_9_method_23_code, 3, none)
def y_MO_finds : sY := (⟨"GathersAllFaultsModel", "finds", "(II)V"⟩, prog_9_method_21_code, 3, none)
def y_MO_findsThere : sY := (⟨"GathersAllFaultsModel", "findsThere", "(II)V"⟩, prog_9_method_24_code, 3, none)
def y_MO_looksAs : sY := (⟨"GathersAllFaultsModel", "looksAs", "(I)V"⟩, prog_9_method_22_code, 2, none)
def y_MO_findsRecord : sY := (⟨"GathersAllFaultsModel", "findsRecord", "(II)V"⟩, prog_9_method_32_code, 6, none)
def y_MO_fieldAt : sY := (⟨"GathersAllFaultsModel", "fieldAt", "(II)I"⟩, prog_9_method_25_code, 5, (some .int))
def y_MO_endsRecord : sY := (⟨"GathersAllFaultsModel", "endsRecord", "(II)V"⟩, prog_9_method_31_code, 5, none)
def y_MO_findsMore : sY := (⟨"GathersAllFaultsModel", "findsMore", "(II)V"⟩, prog_9_method_27_code, 5, none)
def y_MO_childOf : sY := (⟨"GathersAllFaultsModel", "childOf", "(II)I"⟩, prog_9_method_11_code, 5, (some .int))
def y_MO_isToldField : sY := (⟨"GathersAllFaultsModel", "isToldField", "(II)Z"⟩, prog_9_method_26_code, 4, (some .boolean))
def y_MO_findsWaiter : sY := (⟨"GathersAllFaultsModel", "findsWaiter", "(III)V"⟩, prog_9_method_30_code, 6, none)
def y_MO_fieldOf : sY := (⟨"GathersAllFaultsModel", "fieldOf", "(II)I"⟩, prog_9_method_12_code, 4, (some .int))
def y_MO_isAnyBelow : sY := (⟨"GathersAllFaultsModel", "isAnyBelow", "(II)Z"⟩, prog_9_method_28_code, 4, (some .boolean))
def y_MO_isBelow : sY := (⟨"GathersAllFaultsModel", "isBelow", "(II)Z"⟩, prog_9_method_19_code, 3, (some .boolean))
def y_MO_isLess : sY := (⟨"GathersAllFaultsModel", "isLess", "(II)Z"⟩, prog_9_method_29_code, 3, (some .boolean))
def y_MO_areSame : sY := (⟨"GathersAllFaultsModel", "areSame", "(II)Z"⟩, prog_9_method_18_code, 4, (some .boolean))
def y_MO_hasAlike : sY := (⟨"GathersAllFaultsModel", "hasAlike", "(III)Z"⟩, prog_9_method_17_code, 6, (some .boolean))
def y_MO_unitFor : sY := (⟨"GathersAllFaultsModel", "unitFor", "(II)I"⟩, prog_9_method_16_code, 4, (some .int))
def y_MO_findsList : sY := (⟨"GathersAllFaultsModel", "findsList", "(II)V"⟩, prog_9_method_33_code, 4, none)
def y_MO_findsAgain : sY := (⟨"GathersAllFaultsModel", "findsAgain", "(II)V"⟩, prog_9_method_35_code, 4, none)
def y_MO_isAgain : sY := (⟨"GathersAllFaultsModel", "isAgain", "(II)Z"⟩, prog_9_method_34_code, 4, (some .boolean))
def y_MO_findsEither : sY := (⟨"GathersAllFaultsModel", "findsEither", "(II)V"⟩, prog_9_method_38_code, 4, none)
def y_MO_endsEither : sY := (⟨"GathersAllFaultsModel", "endsEither", "()V"⟩, prog_9_method_37_code, 3, none)
def y_MO_takesSecond : sY := (⟨"GathersAllFaultsModel", "takesSecond", "(II)V"⟩, prog_9_method_36_code, 5, none)
def y_MO_fault : sY := (⟨"GathersAllFaultsModel", "fault", "(II)I"⟩, prog_9_method_81_code, 3, (some .int))
def y_MO_coded : sY := (⟨"GathersAllFaultsModel", "coded", "(I)I"⟩, prog_9_method_82_code, 4, (some .int))
def y_MO_below : sY := (⟨"GathersAllFaultsModel", "below", "(I)I"⟩, prog_9_method_83_code, 5, (some .int))
def y_MO_waits : sY := (⟨"GathersAllFaultsModel", "waits", "()I"⟩, prog_9_method_84_code, 1, (some .int))
def y_MO_first : sY := (⟨"GathersAllFaultsModel", "first", "()I"⟩, prog_9_method_86_code, 1, (some .int))
def y_MO_toldAt : sY := (⟨"GathersAllFaultsModel", "toldAt", "(I)I"⟩, prog_9_method_85_code, 2, (some .int))
def y_MO_limited : sY := (⟨"GathersAllFaultsModel", "limited", "(II)I"⟩, prog_9_method_87_code, 5, (some .int))
def y_MO_total : sY := (⟨"GathersAllFaultsModel", "total", "()I"⟩, prog_9_method_89_code, 1, (some .int))
def y_MO_allNumbers : sY := (⟨"GathersAllFaultsModel", "allNumbers", "()I"⟩, prog_9_method_88_code, 3, (some .int))
def y_MO_same : sY := (⟨"GathersAllFaultsModel", "same", "(II)I"⟩, prog_9_method_90_code, 3, (some .int))
def y_MO_different : sY := (⟨"GathersAllFaultsModel", "different", "()I"⟩, prog_9_method_92_code, 3, (some .int))
def y_MO_alike : sY := (⟨"GathersAllFaultsModel", "alike", "(II)I"⟩, prog_9_method_91_code, 5, (some .int))
def y_MO_often : sY := (⟨"GathersAllFaultsModel", "often", "(I)I"⟩, prog_9_method_93_code, 4, (some .int))
def y_MO_without : sY := (⟨"GathersAllFaultsModel", "without", "(I)I"⟩, prog_9_method_94_code, 5, (some .int))
def y_MO_minds : sY := (⟨"GathersAllFaultsModel", "minds", "()V"⟩, prog_9_method_71_code, 1, none)
def y_MO_leavesOut : sY := (⟨"GathersAllFaultsModel", "leavesOut", "(I)V"⟩, prog_9_method_15_code, 2, none)
def y_MO_forgets : sY := (⟨"GathersAllFaultsModel", "forgets", "()V"⟩, prog_9_method_72_code, 1, none)
def y_MO_mend : sY := (⟨"GathersAllFaultsModel", "mend", "(I)I"⟩, prog_9_method_96_code, 7, (some .int))
def y_MO_faultsWith : sY := (⟨"GathersAllFaultsModel", "faultsWith", "(II)I"⟩, prog_9_method_95_code, 4, (some .int))
def y_MO_range : sY := (⟨"GathersAllFaultsModel", "range", "(II)I"⟩, prog_9_method_97_code, 8, (some .int))
def y_MO_loss : sY := (⟨"GathersAllFaultsModel", "loss", "(II)J"⟩, prog_9_method_102_code, 13, (some .long))
def y_MO_lowestOf : sY := (⟨"GathersAllFaultsModel", "lowestOf", "(I)J"⟩, prog_9_method_3_code, 2, (some .long))
def y_MO_numbersUpTo : sY := (⟨"GathersAllFaultsModel", "numbersUpTo", "(I)I"⟩, prog_9_method_100_code, 4, (some .int))
def y_MO_losesSome : sY := (⟨"GathersAllFaultsModel", "losesSome", "(I)V"⟩, prog_9_method_101_code, 4, none)
def y_MO_partOf : sY := (⟨"GathersAllFaultsModel", "partOf", "(JJI)J"⟩, prog_9_method_99_code, 5, (some .long))
def y_MO_divisor : sY := (⟨"GathersAllFaultsModel", "divisor", "(JJ)J"⟩, prog_9_method_98_code, 10, (some .long))
def y_MO_mean : sY := (⟨"GathersAllFaultsModel", "mean", "(I)J"⟩, prog_9_method_103_code, 2, (some .long))
def y_MO_which : sY := (⟨"GathersAllFaultsModel", "which", "(I)I"⟩, prog_9_method_105_code, 5, (some .int))
def y_MO_isCodedSo : sY := (⟨"GathersAllFaultsModel", "isCodedSo", "()Z"⟩, prog_9_method_104_code, 2, (some .boolean))
def y_MO_row : sY := (⟨"GathersAllFaultsModel", "row", "(I)I"⟩, prog_9_method_106_code, 3, (some .int))
def y_MO_judge : sY := (⟨"GathersAllFaultsModel", "judge", "()I"⟩, prog_9_method_107_code, 3, (some .int))
def y_MO_clear : sY := (⟨"GathersAllFaultsModel", "clear", "()I"⟩, prog_9_method_108_code, 2, (some .int))
def y_MO_lots : sY := (⟨"GathersAllFaultsModel", "lots", "(III)I"⟩, prog_9_method_111_code, 8, (some .int))
def y_MO_changesByLot : sY := (⟨"GathersAllFaultsModel", "changesByLot", "()V"⟩, prog_9_method_110_code, 2, none)
def y_MO_draw : sY := (⟨"GathersAllFaultsModel", "draw", "(I)I"⟩, prog_9_method_109_code, 2, (some .int))
def y_MO_count : sY := (⟨"GathersAllFaultsModel", "count", "(I)I"⟩, prog_9_method_113_code, 2, (some .int))
def y_MO_greatestPath : sY := (⟨"GathersAllFaultsModel", "greatestPath", "()I"⟩, prog_9_method_112_code, 3, (some .int))
end
section
/-! the instructions of the class, read off their bytes -/
def tab_GF_letter : List sT := [(0, 1, .iload_n 1, 0, [], 0, 0), (1, 3, .ifCond .ge 10, 11, [], 0, 0), (4, 1, .aload_n 0, 0, [], 0, 0), (5, 2, .bipush (-4), 0, [], (-4), 0), (7, 3, .invokevirtual 60, 0, [], 0, 0), (10, 1, .ireturn, 0, [], 0, 0), (11, 1, .iload_n 1, 0, [], 0, 0), (12, 3, .sipush 255, 0, [], 255, 0), (15, 3, .if_icmp .gt 12, 27, [], 0, 0), (18, 1, .aload_n 0, 0, [], 0, 0), (19, 3, .getfield 64, 0, [], 0, 0), (22, 2, .bipush 96, 0, [], 96, 0), (24, 3, .if_icmp .lt 10, 34, [], 0, 0), (27, 1, .aload_n 0, 0, [], 0, 0), (28, 2, .bipush (-6), 0, [], (-6), 0), (30, 3, .invokevirtual 60, 0, [], 0, 0), (33, 1, .ireturn, 0, [], 0, 0), (34, 1, .aload_n 0, 0, [], 0, 0), (35, 3, .getfield 40, 0, [], 0, 0), (38, 1, .aload_n 0, 0, [], 0, 0), (39, 3, .getfield 64, 0, [], 0, 0), (42, 1, .iload_n 1, 0, [], 0, 0), (43, 3, .invokestatic 68, 0, [], 0, 0), (46, 1, .aload_n 0, 0, [], 0, 0), (47, 1, .dup, 0, [], 0, 0), (48, 3, .getfield 64, 0, [], 0, 0), (51, 1, .iconst 1, 0, [], 1, 0), (52, 1, .iadd, 0, [], 0, 0), (53, 3, .putfield 64, 0, [], 0, 0), (56, 1, .aload_n 0, 0, [], 0, 0), (57, 3, .getfield 64, 0, [], 0, 0), (60, 1, .ireturn, 0, [], 0, 0)]
theorem tk_GF_letter : ∀ e ∈ tab_GF_letter, sTok "GathersAllFaults" prog_1_method_2_code e := tab_of (by decide +kernel)
def tab_GF_refuse : List sT := [(0, 1, .aload_n 0, 0, [], 0, 0), (1, 3, .getfield 47, 0, [], 0, 0), (4, 1, .iload_n 1, 0, [], 0, 0), (5, 1, .ineg, 0, [], 0, 0), (6, 1, .aload_n 0, 0, [], 0, 0), (7, 3, .getfield 47, 0, [], 0, 0), (10, 1, .iload_n 1, 0, [], 0, 0), (11, 1, .ineg, 0, [], 0, 0), (12, 3, .invokestatic 102, 0, [], 0, 0), (15, 1, .iconst 1, 0, [], 1, 0), (16, 1, .iadd, 0, [], 0, 0), (17, 3, .invokestatic 68, 0, [], 0, 0), (20, 1, .iload_n 1, 0, [], 0, 0), (21, 1, .ireturn, 0, [], 0, 0)]
theorem tk_GF_refuse : ∀ e ∈ tab_GF_refuse, sTok "GathersAllFaults" prog_1_method_33_code e := tab_of (by decide +kernel)
def tab_GF_at : List sT := [(0, 1, .aload_n 0, 0, [], 0, 0), (1, 3, .ifnull 19, 20, [], 0, 0), (4, 1, .iload_n 1, 0, [], 0, 0), (5, 3, .ifCond .lt 15, 20, [], 0, 0), (8, 1, .iload_n 1, 0, [], 0, 0), (9, 1, .aload_n 0, 0, [], 0, 0), (10, 1, .arraylength, 0, [], 0, 0), (11, 3, .if_icmp .ge 9, 20, [], 0, 0), (14, 1, .aload_n 0, 0, [], 0, 0), (15, 1, .iload_n 1, 0, [], 0, 0), (16, 1, .iaload, 0, [], 0, 0), (17, 3, .goto 4, 21, [], 0, 0), (20, 1, .iconst 0, 0, [], 0, 0), (21, 1, .ireturn, 0, [], 0, 0)]
theorem tk_GF_at : ∀ e ∈ tab_GF_at, sTok "GathersAllFaults" prog_1_method_48_code e := tab_of (by decide +kernel)
def tab_GF_set : List sT := [(0, 1, .aload_n 0, 0, [], 0, 0), (1, 3, .ifnull 17, 18, [], 0, 0), (4, 1, .iload_n 1, 0, [], 0, 0), (5, 3, .ifCond .lt 13, 18, [], 0, 0), (8, 1, .iload_n 1, 0, [], 0, 0), (9, 1, .aload_n 0, 0, [], 0, 0), (10, 1, .arraylength, 0, [], 0, 0), (11, 3, .if_icmp .ge 7, 18, [], 0, 0), (14, 1, .aload_n 0, 0, [], 0, 0), (15, 1, .iload_n 1, 0, [], 0, 0), (16, 1, .iload_n 2, 0, [], 0, 0), (17, 1, .iastore, 0, [], 0, 0), (18, 1, .return_, 0, [], 0, 0)]
theorem tk_GF_set : ∀ e ∈ tab_GF_set, sTok "GathersAllFaults" prog_1_method_49_code e := tab_of (by decide +kernel)
def tab_GF_value : List sT := [(0, 1, .aload_n 0, 0, [], 0, 0), (1, 3, .getfield 29, 0, [], 0, 0), (4, 1, .aload_n 0, 0, [], 0, 0), (5, 3, .getfield 40, 0, [], 0, 0), (8, 1, .aload_n 0, 0, [], 0, 0), (9, 3, .getfield 64, 0, [], 0, 0), (12, 3, .invokevirtual 72, 0, [], 0, 0), (15, 1, .istore_n 1, 0, [], 0, 0), (16, 1, .aload_n 0, 0, [], 0, 0), (17, 1, .iconst 0, 0, [], 0, 0), (18, 3, .putfield 64, 0, [], 0, 0), (21, 1, .iload_n 1, 0, [], 0, 0), (22, 3, .ifCond .eq 5, 27, [], 0, 0), (25, 1, .iload_n 1, 0, [], 0, 0), (26, 1, .ireturn, 0, [], 0, 0), (27, 1, .aload_n 0, 0, [], 0, 0), (28, 3, .getfield 10, 0, [], 0, 0), (31, 1, .aload_n 0, 0, [], 0, 0), (32, 3, .getfield 29, 0, [], 0, 0), (35, 3, .getfield 76, 0, [], 0, 0), (38, 3, .invokevirtual 79, 0, [], 0, 0), (41, 1, .aload_n 0, 0, [], 0, 0), (42, 3, .getfield 10, 0, [], 0, 0), (45, 3, .getfield 83, 0, [], 0, 0), (48, 1, .ireturn, 0, [], 0, 0)]
theorem tk_GF_value : ∀ e ∈ tab_GF_value, sTok "GathersAllFaults" prog_1_method_3_code e := tab_of (by decide +kernel)
def tab_RD_read : List sT := [(0, 1, .aload_n 0, 0, [], 0, 0), (1, 1, .aload_n 1, 0, [], 0, 0), (2, 1, .iload_n 2, 0, [], 0, 0), (3, 3, .invokevirtual 15, 0, [], 0, 0), (6, 1, .istore_n 3, 0, [], 0, 0), (7, 1, .iload_n 3, 0, [], 0, 0), (8, 3, .ifCond .lt 9, 17, [], 0, 0), (11, 3, .sipush (-1000), 0, [], (-1000), 0), (14, 1, .iload_n 3, 0, [], 0, 0), (15, 1, .isub, 0, [], 0, 0), (16, 1, .ireturn, 0, [], 0, 0), (17, 1, .aload_n 0, 0, [], 0, 0), (18, 1, .iconst 0, 0, [], 0, 0), (19, 3, .putfield 19, 0, [], 0, 0), (22, 1, .aload_n 0, 0, [], 0, 0), (23, 1, .aload_n 1, 0, [], 0, 0), (24, 1, .iload_n 2, 0, [], 0, 0), (25, 3, .invokevirtual 23, 0, [], 0, 0), (28, 1, .istore_n 3, 0, [], 0, 0), (29, 1, .iload_n 3, 0, [], 0, 0), (30, 3, .ifCond .lt 11, 41, [], 0, 0), (33, 3, .sipush (-2000), 0, [], (-2000), 0), (36, 1, .iload_n 3, 0, [], 0, 0), (37, 1, .isub, 0, [], 0, 0), (38, 3, .goto 4, 42, [], 0, 0), (41, 1, .iconst 0, 0, [], 0, 0), (42, 1, .ireturn, 0, [], 0, 0)]
theorem tk_RD_read : ∀ e ∈ tab_RD_read, sTok "GathersAllFaults$Reader" prog_5_method_2_code e := tab_of (by decide +kernel)
def tab_RD_stumble : List sT := [(0, 1, .aload_n 0, 0, [], 0, 0), (1, 1, .iconst 0, 0, [], 0, 0), (2, 3, .putfield 19, 0, [], 0, 0), (5, 1, .aload_n 0, 0, [], 0, 0), (6, 1, .iconst 0, 0, [], 0, 0), (7, 3, .putfield 26, 0, [], 0, 0), (10, 1, .aload_n 0, 0, [], 0, 0), (11, 1, .iconst 0, 0, [], 0, 0), (12, 3, .putfield 29, 0, [], 0, 0), (15, 1, .iconst 0, 0, [], 0, 0), (16, 1, .istore_n 3, 0, [], 0, 0), (17, 1, .iload_n 3, 0, [], 0, 0), (18, 1, .iload_n 2, 0, [], 0, 0), (19, 3, .if_icmp .ge 23, 42, [], 0, 0), (22, 1, .aload_n 0, 0, [], 0, 0), (23, 1, .aload_n 1, 0, [], 0, 0), (24, 1, .iload_n 3, 0, [], 0, 0), (25, 3, .invokestatic 33, 0, [], 0, 0), (28, 3, .invokevirtual 36, 0, [], 0, 0), (31, 3, .ifCond .ne 5, 36, [], 0, 0), (34, 1, .iload_n 3, 0, [], 0, 0), (35, 1, .ireturn, 0, [], 0, 0), (36, 3, .iinc 3 1, 0, [], 1, 0), (39, 3, .goto (-22), 17, [], 0, 0), (42, 1, .aload_n 0, 0, [], 0, 0), (43, 3, .getfield 26, 0, [], 0, 0), (46, 1, .iconst 1, 0, [], 1, 0), (47, 3, .if_icmp .ne 7, 54, [], 0, 0), (50, 1, .iconst (-1), 0, [], (-1), 0), (51, 3, .goto 4, 55, [], 0, 0), (54, 1, .iload_n 2, 0, [], 0, 0), (55, 1, .ireturn, 0, [], 0, 0)]
theorem tk_RD_stumble : ∀ e ∈ tab_RD_stumble, sTok "GathersAllFaults$Reader" prog_5_method_3_code e := tab_of (by decide +kernel)
def tab_CR_goesOn : List sT := [(0, 1, .aload_n 0, 0, [], 0, 0), (1, 3, .getfield 22, 0, [], 0, 0), (4, 44, .tableswitch 146 0 6 #[44, 146, 50, 76, 98, 108, 114], 150, [(0, 48), (1, 150), (2, 54), (3, 80), (4, 102), (5, 112), (6, 118)], 0, 0), (48, 1, .aload_n 0, 0, [], 0, 0), (49, 1, .iload_n 1, 0, [], 0, 0), (50, 3, .invokevirtual 26, 0, [], 0, 0), (53, 1, .ireturn, 0, [], 0, 0), (54, 1, .aload_n 0, 0, [], 0, 0), (55, 1, .dup, 0, [], 0, 0), (56, 3, .getfield 30, 0, [], 0, 0), (59, 1, .iconst 1, 0, [], 1, 0), (60, 1, .isub, 0, [], 0, 0), (61, 3, .putfield 30, 0, [], 0, 0), (64, 1, .aload_n 0, 0, [], 0, 0), (65, 3, .getfield 30, 0, [], 0, 0), (68, 3, .ifCond .ne 7, 75, [], 0, 0), (71, 1, .aload_n 0, 0, [], 0, 0), (72, 3, .invokevirtual 33, 0, [], 0, 0), (75, 1, .iload_n 1, 0, [], 0, 0), (76, 3, .invokestatic 36, 0, [], 0, 0), (79, 1, .ireturn, 0, [], 0, 0), (80, 1, .aload_n 0, 0, [], 0, 0), (81, 1, .iload_n 1, 0, [], 0, 0), (82, 3, .invokevirtual 39, 0, [], 0, 0), (85, 3, .ifCond .ne 11, 96, [], 0, 0), (88, 1, .aload_n 0, 0, [], 0, 0), (89, 1, .iload_n 1, 0, [], 0, 0), (90, 3, .invokevirtual 42, 0, [], 0, 0), (93, 3, .ifCond .eq 7, 100, [], 0, 0), (96, 1, .iconst 1, 0, [], 1, 0), (97, 3, .goto 4, 101, [], 0, 0), (100, 1, .iconst 0, 0, [], 0, 0), (101, 1, .ireturn, 0, [], 0, 0), (102, 1, .aload_n 0, 0, [], 0, 0), (103, 1, .iconst 0, 0, [], 0, 0), (104, 3, .putfield 22, 0, [], 0, 0), (107, 1, .iload_n 1, 0, [], 0, 0), (108, 3, .invokestatic 45, 0, [], 0, 0), (111, 1, .ireturn, 0, [], 0, 0), (112, 1, .aload_n 0, 0, [], 0, 0), (113, 1, .iload_n 1, 0, [], 0, 0), (114, 3, .invokevirtual 42, 0, [], 0, 0), (117, 1, .ireturn, 0, [], 0, 0), (118, 1, .aload_n 0, 0, [], 0, 0), (119, 1, .dup, 0, [], 0, 0), (120, 3, .getfield 30, 0, [], 0, 0), (123, 1, .iconst 1, 0, [], 1, 0), (124, 1, .isub, 0, [], 0, 0), (125, 3, .putfield 30, 0, [], 0, 0), (128, 1, .aload_n 0, 0, [], 0, 0), (129, 1, .aload_n 0, 0, [], 0, 0), (130, 3, .getfield 30, 0, [], 0, 0), (133, 3, .ifCond .ne 7, 140, [], 0, 0), (136, 1, .iconst 5, 0, [], 5, 0), (137, 3, .goto 5, 142, [], 0, 0), (140, 2, .bipush 6, 0, [], 6, 0), (142, 3, .putfield 22, 0, [], 0, 0), (145, 1, .iload_n 1, 0, [], 0, 0), (146, 3, .invokestatic 45, 0, [], 0, 0), (149, 1, .ireturn, 0, [], 0, 0), (150, 1, .iconst 0, 0, [], 0, 0), (151, 1, .ireturn, 0, [], 0, 0)]
theorem tk_CR_goesOn : ∀ e ∈ tab_CR_goesOn, sTok "GathersAllFaults$CheckReader" prog_2_method_2_code e := tab_of (by decide +kernel)
def tab_CR_begins : List sT := [(0, 1, .iload_n 1, 0, [], 0, 0), (1, 83, .lookupswitch 147 #[(33, 126), (35, 89), (38, 126), (42, 83), (47, 128), (64, 89), (94, 83), (123, 135), (126, 126)], 148, [(33, 127), (35, 90), (38, 127), (42, 84), (47, 129), (64, 90), (94, 84), (123, 136), (126, 127)], 0, 0), (84, 1, .aload_n 0, 0, [], 0, 0), (85, 3, .invokevirtual 48, 0, [], 0, 0), (88, 1, .iconst 1, 0, [], 1, 0), (89, 1, .ireturn, 0, [], 0, 0), (90, 1, .aload_n 0, 0, [], 0, 0), (91, 1, .iconst 2, 0, [], 2, 0), (92, 3, .putfield 22, 0, [], 0, 0), (95, 1, .aload_n 0, 0, [], 0, 0), (96, 1, .iload_n 1, 0, [], 0, 0), (97, 2, .bipush 35, 0, [], 35, 0), (99, 3, .if_icmp .ne 7, 106, [], 0, 0), (102, 1, .iconst 4, 0, [], 4, 0), (103, 3, .goto 4, 107, [], 0, 0), (106, 1, .iconst 2, 0, [], 2, 0), (107, 3, .putfield 30, 0, [], 0, 0), (110, 1, .aload_n 0, 0, [], 0, 0), (111, 1, .iload_n 1, 0, [], 0, 0), (112, 2, .bipush 64, 0, [], 64, 0), (114, 3, .if_icmp .ne 7, 121, [], 0, 0), (117, 1, .iconst 1, 0, [], 1, 0), (118, 3, .goto 4, 122, [], 0, 0), (121, 1, .iconst 0, 0, [], 0, 0), (122, 3, .putfield 51, 0, [], 0, 0), (125, 1, .iconst 1, 0, [], 1, 0), (126, 1, .ireturn, 0, [], 0, 0), (127, 1, .iconst 1, 0, [], 1, 0), (128, 1, .ireturn, 0, [], 0, 0), (129, 1, .aload_n 0, 0, [], 0, 0), (130, 1, .iload_n 1, 0, [], 0, 0), (131, 3, .invokevirtual 55, 0, [], 0, 0), (134, 1, .iconst 1, 0, [], 1, 0), (135, 1, .ireturn, 0, [], 0, 0), (136, 1, .aload_n 0, 0, [], 0, 0), (137, 1, .iload_n 1, 0, [], 0, 0), (138, 3, .invokevirtual 55, 0, [], 0, 0), (141, 1, .aload_n 0, 0, [], 0, 0), (142, 1, .iconst 3, 0, [], 3, 0), (143, 3, .putfield 22, 0, [], 0, 0), (146, 1, .iconst 1, 0, [], 1, 0), (147, 1, .ireturn, 0, [], 0, 0), (148, 1, .iconst 0, 0, [], 0, 0), (149, 1, .ireturn, 0, [], 0, 0)]
theorem tk_CR_begins : ∀ e ∈ tab_CR_begins, sTok "GathersAllFaults$CheckReader" prog_2_method_3_code e := tab_of (by decide +kernel)
def tab_CR_ends : List sT := [(0, 1, .aload_n 0, 0, [], 0, 0), (1, 3, .getfield 62, 0, [], 0, 0), (4, 3, .ifCond .ne 11, 15, [], 0, 0), (7, 1, .aload_n 0, 0, [], 0, 0), (8, 1, .iconst 1, 0, [], 1, 0), (9, 3, .putfield 22, 0, [], 0, 0), (12, 3, .goto 29, 41, [], 0, 0), (15, 1, .aload_n 0, 0, [], 0, 0), (16, 3, .invokevirtual 65, 0, [], 0, 0), (19, 2, .bipush 47, 0, [], 47, 0), (21, 3, .if_icmp .ne 15, 36, [], 0, 0), (24, 1, .aload_n 0, 0, [], 0, 0), (25, 3, .invokevirtual 59, 0, [], 0, 0), (28, 1, .aload_n 0, 0, [], 0, 0), (29, 1, .iconst 0, 0, [], 0, 0), (30, 3, .putfield 22, 0, [], 0, 0), (33, 3, .goto 8, 41, [], 0, 0), (36, 1, .aload_n 0, 0, [], 0, 0), (37, 1, .iconst 3, 0, [], 3, 0), (38, 3, .putfield 22, 0, [], 0, 0), (41, 1, .return_, 0, [], 0, 0)]
theorem tk_CR_ends : ∀ e ∈ tab_CR_ends, sTok "GathersAllFaults$CheckReader" prog_2_method_7_code e := tab_of (by decide +kernel)
def tab_RD_top : List sT := [(0, 1, .aload_n 0, 0, [], 0, 0), (1, 3, .getfield 19, 0, [], 0, 0), (4, 3, .ifCond .le 19, 23, [], 0, 0), (7, 1, .aload_n 0, 0, [], 0, 0), (8, 3, .getfield 9, 0, [], 0, 0), (11, 1, .aload_n 0, 0, [], 0, 0), (12, 3, .getfield 19, 0, [], 0, 0), (15, 1, .iconst 1, 0, [], 1, 0), (16, 1, .isub, 0, [], 0, 0), (17, 3, .invokestatic 33, 0, [], 0, 0), (20, 3, .goto 4, 24, [], 0, 0), (23, 1, .iconst (-1), 0, [], (-1), 0), (24, 1, .ireturn, 0, [], 0, 0)]
theorem tk_RD_top : ∀ e ∈ tab_RD_top, sTok "GathersAllFaults$Reader" prog_5_method_6_code e := tab_of (by decide +kernel)
def tab_RD_pop : List sT := [(0, 1, .aload_n 0, 0, [], 0, 0), (1, 3, .getfield 19, 0, [], 0, 0), (4, 3, .ifCond .le 13, 17, [], 0, 0), (7, 1, .aload_n 0, 0, [], 0, 0), (8, 1, .dup, 0, [], 0, 0), (9, 3, .getfield 19, 0, [], 0, 0), (12, 1, .iconst 1, 0, [], 1, 0), (13, 1, .isub, 0, [], 0, 0), (14, 3, .putfield 19, 0, [], 0, 0), (17, 1, .return_, 0, [], 0, 0)]
theorem tk_RD_pop : ∀ e ∈ tab_RD_pop, sTok "GathersAllFaults$Reader" prog_5_method_5_code e := tab_of (by decide +kernel)
def tab_RD_push : List sT := [(0, 1, .aload_n 0, 0, [], 0, 0), (1, 3, .getfield 9, 0, [], 0, 0), (4, 1, .aload_n 0, 0, [], 0, 0), (5, 3, .getfield 19, 0, [], 0, 0), (8, 1, .iload_n 1, 0, [], 0, 0), (9, 3, .invokestatic 40, 0, [], 0, 0), (12, 1, .aload_n 0, 0, [], 0, 0), (13, 1, .dup, 0, [], 0, 0), (14, 3, .getfield 19, 0, [], 0, 0), (17, 1, .iconst 1, 0, [], 1, 0), (18, 1, .iadd, 0, [], 0, 0), (19, 3, .putfield 19, 0, [], 0, 0), (22, 1, .return_, 0, [], 0, 0)]
theorem tk_RD_push : ∀ e ∈ tab_RD_push, sTok "GathersAllFaults$Reader" prog_5_method_4_code e := tab_of (by decide +kernel)
def tab_CR_goBehindDigits : List sT := [(0, 1, .aload_n 0, 0, [], 0, 0), (1, 3, .getfield 51, 0, [], 0, 0), (4, 3, .ifCond .eq 11, 15, [], 0, 0), (7, 1, .aload_n 0, 0, [], 0, 0), (8, 1, .iconst 0, 0, [], 0, 0), (9, 3, .putfield 22, 0, [], 0, 0), (12, 3, .goto 7, 19, [], 0, 0), (15, 1, .aload_n 0, 0, [], 0, 0), (16, 3, .invokevirtual 48, 0, [], 0, 0), (19, 1, .return_, 0, [], 0, 0)]
theorem tk_CR_goBehindDigits : ∀ e ∈ tab_CR_goBehindDigits, sTok "GathersAllFaults$CheckReader" prog_2_method_4_code e := tab_of (by decide +kernel)
def tab_GF_isDigit : List sT := [(0, 1, .iload_n 0, 0, [], 0, 0), (1, 2, .bipush 48, 0, [], 48, 0), (3, 3, .if_icmp .lt 13, 16, [], 0, 0), (6, 1, .iload_n 0, 0, [], 0, 0), (7, 2, .bipush 57, 0, [], 57, 0), (9, 3, .if_icmp .gt 7, 16, [], 0, 0), (12, 1, .iconst 1, 0, [], 1, 0), (13, 3, .goto 4, 17, [], 0, 0), (16, 1, .iconst 0, 0, [], 0, 0), (17, 1, .ireturn, 0, [], 0, 0)]
theorem tk_GF_isDigit : ∀ e ∈ tab_GF_isDigit, sTok "GathersAllFaults" prog_1_method_45_code e := tab_of (by decide +kernel)
def tab_CR_field : List sT := [(0, 1, .iload_n 1, 0, [], 0, 0), (1, 2, .bipush 46, 0, [], 46, 0), (3, 3, .if_icmp .ne 10, 13, [], 0, 0), (6, 1, .aload_n 0, 0, [], 0, 0), (7, 1, .iconst 4, 0, [], 4, 0), (8, 3, .putfield 22, 0, [], 0, 0), (11, 1, .iconst 1, 0, [], 1, 0), (12, 1, .ireturn, 0, [], 0, 0), (13, 1, .iload_n 1, 0, [], 0, 0), (14, 3, .invokestatic 45, 0, [], 0, 0), (17, 3, .ifCond .eq 10, 27, [], 0, 0), (20, 1, .aload_n 0, 0, [], 0, 0), (21, 1, .iconst 0, 0, [], 0, 0), (22, 3, .putfield 22, 0, [], 0, 0), (25, 1, .iconst 1, 0, [], 1, 0), (26, 1, .ireturn, 0, [], 0, 0), (27, 1, .iconst 0, 0, [], 0, 0), (28, 1, .ireturn, 0, [], 0, 0)]
theorem tk_CR_field : ∀ e ∈ tab_CR_field, sTok "GathersAllFaults$CheckReader" prog_2_method_5_code e := tab_of (by decide +kernel)
def tab_GF_isName : List sT := [(0, 1, .iload_n 0, 0, [], 0, 0), (1, 2, .bipush 97, 0, [], 97, 0), (3, 3, .if_icmp .lt 13, 16, [], 0, 0), (6, 1, .iload_n 0, 0, [], 0, 0), (7, 2, .bipush 101, 0, [], 101, 0), (9, 3, .if_icmp .gt 7, 16, [], 0, 0), (12, 1, .iconst 1, 0, [], 1, 0), (13, 3, .goto 4, 17, [], 0, 0), (16, 1, .iconst 0, 0, [], 0, 0), (17, 1, .ireturn, 0, [], 0, 0)]
theorem tk_GF_isName : ∀ e ∈ tab_GF_isName, sTok "GathersAllFaults" prog_1_method_46_code e := tab_of (by decide +kernel)
def tab_CR_last : List sT := [(0, 1, .iload_n 1, 0, [], 0, 0), (1, 2, .bipush 60, 0, [], 60, 0), (3, 3, .if_icmp .eq 9, 12, [], 0, 0), (6, 1, .iload_n 1, 0, [], 0, 0), (7, 2, .bipush 61, 0, [], 61, 0), (9, 3, .if_icmp .ne 16, 25, [], 0, 0), (12, 1, .aload_n 0, 0, [], 0, 0), (13, 2, .bipush 6, 0, [], 6, 0), (15, 3, .putfield 22, 0, [], 0, 0), (18, 1, .aload_n 0, 0, [], 0, 0), (19, 1, .iconst 2, 0, [], 2, 0), (20, 3, .putfield 30, 0, [], 0, 0), (23, 1, .iconst 1, 0, [], 1, 0), (24, 1, .ireturn, 0, [], 0, 0), (25, 1, .iload_n 1, 0, [], 0, 0), (26, 2, .bipush 125, 0, [], 125, 0), (28, 3, .if_icmp .ne 13, 41, [], 0, 0), (31, 1, .aload_n 0, 0, [], 0, 0), (32, 3, .invokevirtual 59, 0, [], 0, 0), (35, 1, .aload_n 0, 0, [], 0, 0), (36, 3, .invokevirtual 48, 0, [], 0, 0), (39, 1, .iconst 1, 0, [], 1, 0), (40, 1, .ireturn, 0, [], 0, 0), (41, 1, .iconst 0, 0, [], 0, 0), (42, 1, .ireturn, 0, [], 0, 0)]
theorem tk_CR_last : ∀ e ∈ tab_CR_last, sTok "GathersAllFaults$CheckReader" prog_2_method_6_code e := tab_of (by decide +kernel)
def tab_VR_goesOn : List sT := [(0, 1, .aload_n 0, 0, [], 0, 0), (1, 3, .getfield 18, 0, [], 0, 0), (4, 3, .ifCond .eq 14, 18, [], 0, 0), (7, 1, .iload_n 1, 0, [], 0, 0), (8, 3, .invokestatic 22, 0, [], 0, 0), (11, 3, .ifCond .eq 7, 18, [], 0, 0), (14, 1, .iconst 1, 0, [], 1, 0), (15, 3, .goto 4, 19, [], 0, 0), (18, 1, .iconst 0, 0, [], 0, 0), (19, 1, .istore_n 2, 0, [], 0, 0), (20, 1, .aload_n 0, 0, [], 0, 0), (21, 1, .iconst 0, 0, [], 0, 0), (22, 3, .putfield 18, 0, [], 0, 0), (25, 1, .iload_n 2, 0, [], 0, 0), (26, 3, .ifCond .eq 5, 31, [], 0, 0), (29, 1, .iconst 1, 0, [], 1, 0), (30, 1, .ireturn, 0, [], 0, 0), (31, 1, .aload_n 0, 0, [], 0, 0), (32, 3, .getfield 26, 0, [], 0, 0), (35, 33, .tableswitch 111 0 4 #[33, 111, 88, 39, 58], 146, [(0, 68), (1, 146), (2, 123), (3, 74), (4, 93)], 0, 0), (68, 1, .aload_n 0, 0, [], 0, 0), (69, 1, .iload_n 1, 0, [], 0, 0), (70, 3, .invokevirtual 30, 0, [], 0, 0), (73, 1, .ireturn, 0, [], 0, 0), (74, 1, .iload_n 1, 0, [], 0, 0), (75, 2, .bipush 93, 0, [], 93, 0), (77, 3, .if_icmp .ne 10, 87, [], 0, 0), (80, 1, .aload_n 0, 0, [], 0, 0), (81, 3, .invokevirtual 33, 0, [], 0, 0), (84, 3, .goto 8, 92, [], 0, 0), (87, 1, .aload_n 0, 0, [], 0, 0), (88, 1, .iload_n 1, 0, [], 0, 0), (89, 3, .invokevirtual 30, 0, [], 0, 0), (92, 1, .ireturn, 0, [], 0, 0), (93, 1, .aload_n 0, 0, [], 0, 0), (94, 1, .iconst 0, 0, [], 0, 0), (95, 3, .putfield 26, 0, [], 0, 0), (98, 1, .iload_n 1, 0, [], 0, 0), (99, 2, .bipush 93, 0, [], 93, 0), (101, 3, .if_icmp .ne 10, 111, [], 0, 0), (104, 1, .aload_n 0, 0, [], 0, 0), (105, 3, .invokevirtual 33, 0, [], 0, 0), (108, 3, .goto 14, 122, [], 0, 0), (111, 1, .iload_n 1, 0, [], 0, 0), (112, 2, .bipush 44, 0, [], 44, 0), (114, 3, .if_icmp .ne 7, 121, [], 0, 0), (117, 1, .iconst 1, 0, [], 1, 0), (118, 3, .goto 4, 122, [], 0, 0), (121, 1, .iconst 0, 0, [], 0, 0), (122, 1, .ireturn, 0, [], 0, 0), (123, 1, .aload_n 0, 0, [], 0, 0), (124, 1, .iconst 0, 0, [], 0, 0), (125, 3, .putfield 26, 0, [], 0, 0), (128, 1, .iload_n 1, 0, [], 0, 0), (129, 2, .bipush 41, 0, [], 41, 0), (131, 3, .if_icmp .ne 10, 141, [], 0, 0), (134, 1, .aload_n 0, 0, [], 0, 0), (135, 3, .invokevirtual 33, 0, [], 0, 0), (138, 3, .goto 7, 145, [], 0, 0), (141, 1, .iload_n 1, 0, [], 0, 0), (142, 3, .invokestatic 37, 0, [], 0, 0), (145, 1, .ireturn, 0, [], 0, 0), (146, 1, .iconst 0, 0, [], 0, 0), (147, 1, .ireturn, 0, [], 0, 0)]
theorem tk_VR_goesOn : ∀ e ∈ tab_VR_goesOn, sTok "GathersAllFaults$ValueReader" prog_7_method_2_code e := tab_of (by decide +kernel)
def tab_VR_begins : List sT := [(0, 1, .iload_n 1, 0, [], 0, 0), (1, 2, .bipush 40, 0, [], 40, 0), (3, 3, .if_icmp .eq 9, 12, [], 0, 0), (6, 1, .iload_n 1, 0, [], 0, 0), (7, 2, .bipush 91, 0, [], 91, 0), (9, 3, .if_icmp .ne 25, 34, [], 0, 0), (12, 1, .aload_n 0, 0, [], 0, 0), (13, 1, .iload_n 1, 0, [], 0, 0), (14, 3, .invokevirtual 40, 0, [], 0, 0), (17, 1, .aload_n 0, 0, [], 0, 0), (18, 1, .iload_n 1, 0, [], 0, 0), (19, 2, .bipush 40, 0, [], 40, 0), (21, 3, .if_icmp .ne 7, 28, [], 0, 0), (24, 1, .iconst 2, 0, [], 2, 0), (25, 3, .goto 4, 29, [], 0, 0), (28, 1, .iconst 3, 0, [], 3, 0), (29, 3, .putfield 26, 0, [], 0, 0), (32, 1, .iconst 1, 0, [], 1, 0), (33, 1, .ireturn, 0, [], 0, 0), (34, 1, .aload_n 0, 0, [], 0, 0), (35, 1, .iload_n 1, 0, [], 0, 0), (36, 3, .invokestatic 22, 0, [], 0, 0), (39, 3, .putfield 18, 0, [], 0, 0), (42, 1, .aload_n 0, 0, [], 0, 0), (43, 3, .invokevirtual 44, 0, [], 0, 0), (46, 1, .aload_n 0, 0, [], 0, 0), (47, 3, .getfield 18, 0, [], 0, 0), (50, 3, .ifCond .ne 9, 59, [], 0, 0), (53, 1, .iload_n 1, 0, [], 0, 0), (54, 2, .bipush 63, 0, [], 63, 0), (56, 3, .if_icmp .ne 7, 63, [], 0, 0), (59, 1, .iconst 1, 0, [], 1, 0), (60, 3, .goto 4, 64, [], 0, 0), (63, 1, .iconst 0, 0, [], 0, 0), (64, 1, .ireturn, 0, [], 0, 0)]
theorem tk_VR_begins : ∀ e ∈ tab_VR_begins, sTok "GathersAllFaults$ValueReader" prog_7_method_3_code e := tab_of (by decide +kernel)
def tab_VR_ends : List sT := [(0, 1, .aload_n 0, 0, [], 0, 0), (1, 3, .getfield 50, 0, [], 0, 0), (4, 3, .ifCond .ne 11, 15, [], 0, 0), (7, 1, .aload_n 0, 0, [], 0, 0), (8, 1, .iconst 1, 0, [], 1, 0), (9, 3, .putfield 26, 0, [], 0, 0), (12, 3, .goto 21, 33, [], 0, 0), (15, 1, .aload_n 0, 0, [], 0, 0), (16, 1, .aload_n 0, 0, [], 0, 0), (17, 3, .invokevirtual 53, 0, [], 0, 0), (20, 2, .bipush 40, 0, [], 40, 0), (22, 3, .if_icmp .ne 7, 29, [], 0, 0), (25, 1, .iconst 2, 0, [], 2, 0), (26, 3, .goto 4, 30, [], 0, 0), (29, 1, .iconst 4, 0, [], 4, 0), (30, 3, .putfield 26, 0, [], 0, 0), (33, 1, .return_, 0, [], 0, 0)]
theorem tk_VR_ends : ∀ e ∈ tab_VR_ends, sTok "GathersAllFaults$ValueReader" prog_7_method_5_code e := tab_of (by decide +kernel)
def tab_VR_closes : List sT := [(0, 1, .aload_n 0, 0, [], 0, 0), (1, 3, .invokevirtual 47, 0, [], 0, 0), (4, 1, .aload_n 0, 0, [], 0, 0), (5, 3, .invokevirtual 44, 0, [], 0, 0), (8, 1, .iconst 1, 0, [], 1, 0), (9, 1, .ireturn, 0, [], 0, 0)]
theorem tk_VR_closes : ∀ e ∈ tab_VR_closes, sTok "GathersAllFaults$ValueReader" prog_7_method_4_code e := tab_of (by decide +kernel)
def tab_CR_build : List sT := [(0, 1, .aload_n 0, 0, [], 0, 0), (1, 3, .getfield 12, 0, [], 0, 0), (4, 1, .iconst 0, 0, [], 0, 0), (5, 3, .putfield 69, 0, [], 0, 0), (8, 1, .aload_n 0, 0, [], 0, 0), (9, 3, .getfield 12, 0, [], 0, 0), (12, 1, .iconst 0, 0, [], 0, 0), (13, 3, .putfield 72, 0, [], 0, 0), (16, 1, .aload_n 0, 0, [], 0, 0), (17, 1, .iconst 0, 0, [], 0, 0), (18, 3, .putfield 75, 0, [], 0, 0), (21, 1, .aload_n 0, 0, [], 0, 0), (22, 1, .iconst 0, 0, [], 0, 0), (23, 3, .putfield 78, 0, [], 0, 0), (26, 1, .aload_n 0, 0, [], 0, 0), (27, 1, .iconst 0, 0, [], 0, 0), (28, 3, .putfield 81, 0, [], 0, 0), (31, 1, .iconst 0, 0, [], 0, 0), (32, 1, .istore_n 3, 0, [], 0, 0), (33, 1, .iload_n 3, 0, [], 0, 0), (34, 1, .iload_n 2, 0, [], 0, 0), (35, 3, .if_icmp .ge 31, 66, [], 0, 0), (38, 1, .aload_n 0, 0, [], 0, 0), (39, 1, .aload_n 1, 0, [], 0, 0), (40, 1, .iload_n 3, 0, [], 0, 0), (41, 3, .invokevirtual 84, 0, [], 0, 0), (44, 3, .ifCond .ne 5, 49, [], 0, 0), (47, 1, .iload_n 3, 0, [], 0, 0), (48, 1, .ireturn, 0, [], 0, 0), (49, 1, .iload_n 3, 0, [], 0, 0), (50, 1, .aload_n 1, 0, [], 0, 0), (51, 1, .iload_n 3, 0, [], 0, 0), (52, 3, .invokestatic 88, 0, [], 0, 0), (55, 3, .invokestatic 92, 0, [], 0, 0), (58, 1, .iadd, 0, [], 0, 0), (59, 1, .istore_n 3, 0, [], 0, 0), (60, 3, .iinc 3 1, 0, [], 1, 0), (63, 3, .goto (-30), 33, [], 0, 0), (66, 1, .iconst (-1), 0, [], (-1), 0), (67, 1, .ireturn, 0, [], 0, 0)]
theorem tk_CR_build : ∀ e ∈ tab_CR_build, sTok "GathersAllFaults$CheckReader" prog_2_method_8_code e := tab_of (by decide +kernel)
def tab_CR_takes : List sT := [(0, 1, .aload_n 1, 0, [], 0, 0), (1, 1, .iload_n 2, 0, [], 0, 0), (2, 3, .invokestatic 88, 0, [], 0, 0), (5, 1, .istore_n 3, 0, [], 0, 0), (6, 1, .iload_n 3, 0, [], 0, 0), (7, 57, .lookupswitch 181 #[(35, 135), (46, 93), (60, 109), (61, 109), (64, 155), (125, 57)], 188, [(35, 142), (46, 100), (60, 116), (61, 116), (64, 162), (125, 64)], 0, 0), (64, 1, .aload_n 0, 0, [], 0, 0), (65, 3, .getfield 12, 0, [], 0, 0), (68, 3, .getfield 96, 0, [], 0, 0), (71, 1, .aload_n 0, 0, [], 0, 0), (72, 3, .invokevirtual 65, 0, [], 0, 0), (75, 1, .aload_n 0, 0, [], 0, 0), (76, 3, .getfield 12, 0, [], 0, 0), (79, 3, .getfield 69, 0, [], 0, 0), (82, 1, .aload_n 0, 0, [], 0, 0), (83, 3, .invokevirtual 65, 0, [], 0, 0), (86, 1, .isub, 0, [], 0, 0), (87, 3, .invokestatic 99, 0, [], 0, 0), (90, 1, .aload_n 0, 0, [], 0, 0), (91, 3, .invokevirtual 59, 0, [], 0, 0), (94, 1, .aload_n 0, 0, [], 0, 0), (95, 3, .invokevirtual 103, 0, [], 0, 0), (98, 1, .iconst 1, 0, [], 1, 0), (99, 1, .ireturn, 0, [], 0, 0), (100, 1, .aload_n 0, 0, [], 0, 0), (101, 1, .aload_n 1, 0, [], 0, 0), (102, 1, .iload_n 2, 0, [], 0, 0), (103, 1, .iconst 1, 0, [], 1, 0), (104, 1, .iadd, 0, [], 0, 0), (105, 3, .invokestatic 88, 0, [], 0, 0), (108, 3, .invokestatic 106, 0, [], 0, 0), (111, 1, .iconst 1, 0, [], 1, 0), (112, 3, .invokevirtual 109, 0, [], 0, 0), (115, 1, .ireturn, 0, [], 0, 0), (116, 1, .aload_n 0, 0, [], 0, 0), (117, 1, .iload_n 3, 0, [], 0, 0), (118, 1, .aload_n 1, 0, [], 0, 0), (119, 1, .iload_n 2, 0, [], 0, 0), (120, 1, .iconst 1, 0, [], 1, 0), (121, 1, .iadd, 0, [], 0, 0), (122, 3, .invokestatic 88, 0, [], 0, 0), (125, 3, .invokestatic 106, 0, [], 0, 0), (128, 1, .aload_n 1, 0, [], 0, 0), (129, 1, .iload_n 2, 0, [], 0, 0), (130, 1, .iconst 2, 0, [], 2, 0), (131, 1, .iadd, 0, [], 0, 0), (132, 3, .invokestatic 88, 0, [], 0, 0), (135, 3, .invokestatic 106, 0, [], 0, 0), (138, 3, .invokevirtual 113, 0, [], 0, 0), (141, 1, .ireturn, 0, [], 0, 0), (142, 1, .aload_n 0, 0, [], 0, 0), (143, 1, .iload_n 3, 0, [], 0, 0), (144, 1, .aload_n 1, 0, [], 0, 0), (145, 1, .iload_n 2, 0, [], 0, 0), (146, 1, .iconst 1, 0, [], 1, 0), (147, 1, .iadd, 0, [], 0, 0), (148, 3, .invokestatic 117, 0, [], 0, 0), (151, 1, .aload_n 1, 0, [], 0, 0), (152, 1, .iload_n 2, 0, [], 0, 0), (153, 1, .iconst 3, 0, [], 3, 0), (154, 1, .iadd, 0, [], 0, 0), (155, 3, .invokestatic 117, 0, [], 0, 0), (158, 3, .invokevirtual 120, 0, [], 0, 0), (161, 1, .ireturn, 0, [], 0, 0), (162, 1, .aload_n 0, 0, [], 0, 0), (163, 1, .iload_n 3, 0, [], 0, 0), (164, 1, .aload_n 1, 0, [], 0, 0), (165, 1, .iload_n 2, 0, [], 0, 0), (166, 1, .iconst 1, 0, [], 1, 0), (167, 1, .iadd, 0, [], 0, 0), (168, 3, .invokestatic 88, 0, [], 0, 0), (171, 2, .bipush 48, 0, [], 48, 0), (173, 1, .isub, 0, [], 0, 0), (174, 1, .aload_n 1, 0, [], 0, 0), (175, 1, .iload_n 2, 0, [], 0, 0), (176, 1, .iconst 2, 0, [], 2, 0), (177, 1, .iadd, 0, [], 0, 0), (178, 3, .invokestatic 88, 0, [], 0, 0), (181, 2, .bipush 48, 0, [], 48, 0), (183, 1, .isub, 0, [], 0, 0), (184, 3, .invokevirtual 120, 0, [], 0, 0), (187, 1, .ireturn, 0, [], 0, 0), (188, 1, .iload_n 3, 0, [], 0, 0), (189, 3, .invokestatic 45, 0, [], 0, 0), (192, 3, .ifCond .eq 15, 207, [], 0, 0), (195, 1, .aload_n 0, 0, [], 0, 0), (196, 1, .iload_n 3, 0, [], 0, 0), (197, 3, .invokestatic 106, 0, [], 0, 0), (200, 1, .iconst 0, 0, [], 0, 0), (201, 3, .invokevirtual 109, 0, [], 0, 0), (204, 3, .goto 10, 214, [], 0, 0), (207, 1, .aload_n 0, 0, [], 0, 0), (208, 1, .iload_n 3, 0, [], 0, 0), (209, 1, .iconst 0, 0, [], 0, 0), (210, 1, .iconst 0, 0, [], 0, 0), (211, 3, .invokevirtual 120, 0, [], 0, 0), (214, 1, .ireturn, 0, [], 0, 0)]
theorem tk_CR_takes : ∀ e ∈ tab_CR_takes, sTok "GathersAllFaults$CheckReader" prog_2_method_10_code e := tab_of (by decide +kernel)
def tab_CR_settle : List sT := [(0, 1, .iconst 0, 0, [], 0, 0), (1, 1, .istore_n 1, 0, [], 0, 0), (2, 1, .iload_n 1, 0, [], 0, 0), (3, 2, .bipush 24, 0, [], 24, 0), (5, 3, .if_icmp .ge 81, 86, [], 0, 0), (8, 1, .aload_n 0, 0, [], 0, 0), (9, 3, .getfield 62, 0, [], 0, 0), (12, 3, .ifCond .le 74, 86, [], 0, 0), (15, 1, .aload_n 0, 0, [], 0, 0), (16, 3, .getfield 18, 0, [], 0, 0), (19, 1, .aload_n 0, 0, [], 0, 0), (20, 3, .getfield 62, 0, [], 0, 0), (23, 1, .iconst 1, 0, [], 1, 0), (24, 1, .isub, 0, [], 0, 0), (25, 3, .invokestatic 88, 0, [], 0, 0), (28, 1, .iconst 1, 0, [], 1, 0), (29, 1, .isub, 0, [], 0, 0), (30, 1, .istore_n 2, 0, [], 0, 0), (31, 1, .aload_n 0, 0, [], 0, 0), (32, 3, .getfield 18, 0, [], 0, 0), (35, 1, .aload_n 0, 0, [], 0, 0), (36, 3, .getfield 62, 0, [], 0, 0), (39, 1, .iconst 1, 0, [], 1, 0), (40, 1, .isub, 0, [], 0, 0), (41, 1, .iload_n 2, 0, [], 0, 0), (42, 3, .invokestatic 99, 0, [], 0, 0), (45, 1, .iload_n 2, 0, [], 0, 0), (46, 3, .ifCond .le 4, 50, [], 0, 0), (49, 1, .return_, 0, [], 0, 0), (50, 1, .aload_n 0, 0, [], 0, 0), (51, 3, .getfield 12, 0, [], 0, 0), (54, 3, .getfield 96, 0, [], 0, 0), (57, 1, .aload_n 0, 0, [], 0, 0), (58, 3, .invokevirtual 65, 0, [], 0, 0), (61, 1, .aload_n 0, 0, [], 0, 0), (62, 3, .getfield 12, 0, [], 0, 0), (65, 3, .getfield 69, 0, [], 0, 0), (68, 1, .aload_n 0, 0, [], 0, 0), (69, 3, .invokevirtual 65, 0, [], 0, 0), (72, 1, .isub, 0, [], 0, 0), (73, 3, .invokestatic 99, 0, [], 0, 0), (76, 1, .aload_n 0, 0, [], 0, 0), (77, 3, .invokevirtual 59, 0, [], 0, 0), (80, 3, .iinc 1 1, 0, [], 1, 0), (83, 3, .goto (-81), 2, [], 0, 0), (86, 1, .return_, 0, [], 0, 0)]
theorem tk_CR_settle : ∀ e ∈ tab_CR_settle, sTok "GathersAllFaults$CheckReader" prog_2_method_17_code e := tab_of (by decide +kernel)
def tab_GF_digitOf : List sT := [(0, 1, .iload_n 0, 0, [], 0, 0), (1, 2, .bipush 97, 0, [], 97, 0), (3, 1, .isub, 0, [], 0, 0), (4, 1, .iconst 1, 0, [], 1, 0), (5, 1, .iadd, 0, [], 0, 0), (6, 1, .ireturn, 0, [], 0, 0)]
theorem tk_GF_digitOf : ∀ e ∈ tab_GF_digitOf, sTok "GathersAllFaults" prog_1_method_47_code e := tab_of (by decide +kernel)
def tab_CR_addsField : List sT := [(0, 1, .aload_n 0, 0, [], 0, 0), (1, 3, .invokevirtual 65, 0, [], 0, 0), (4, 1, .istore_n 3, 0, [], 0, 0), (5, 1, .aload_n 0, 0, [], 0, 0), (6, 3, .getfield 12, 0, [], 0, 0), (9, 1, .iload_n 3, 0, [], 0, 0), (10, 1, .iload_n 1, 0, [], 0, 0), (11, 3, .invokevirtual 123, 0, [], 0, 0), (14, 3, .ifCond .eq 5, 19, [], 0, 0), (17, 1, .iconst 0, 0, [], 0, 0), (18, 1, .ireturn, 0, [], 0, 0), (19, 1, .aload_n 0, 0, [], 0, 0), (20, 3, .getfield 12, 0, [], 0, 0), (23, 3, .getfield 126, 0, [], 0, 0), (26, 1, .iload_n 3, 0, [], 0, 0), (27, 1, .aload_n 0, 0, [], 0, 0), (28, 3, .getfield 12, 0, [], 0, 0), (31, 3, .getfield 126, 0, [], 0, 0), (34, 1, .iload_n 3, 0, [], 0, 0), (35, 3, .invokestatic 88, 0, [], 0, 0), (38, 1, .iconst 1, 0, [], 1, 0), (39, 1, .iload_n 1, 0, [], 0, 0), (40, 1, .ishl, 0, [], 0, 0), (41, 1, .ior, 0, [], 0, 0), (42, 3, .invokestatic 99, 0, [], 0, 0), (45, 1, .aload_n 0, 0, [], 0, 0), (46, 3, .getfield 12, 0, [], 0, 0), (49, 3, .getfield 129, 0, [], 0, 0), (52, 1, .iload_n 3, 0, [], 0, 0), (53, 1, .aload_n 0, 0, [], 0, 0), (54, 3, .getfield 12, 0, [], 0, 0), (57, 3, .getfield 129, 0, [], 0, 0), (60, 1, .iload_n 3, 0, [], 0, 0), (61, 3, .invokestatic 88, 0, [], 0, 0), (64, 1, .iconst 1, 0, [], 1, 0), (65, 1, .iadd, 0, [], 0, 0), (66, 3, .invokestatic 99, 0, [], 0, 0), (69, 1, .aload_n 0, 0, [], 0, 0), (70, 1, .iload_n 1, 0, [], 0, 0), (71, 3, .putfield 78, 0, [], 0, 0), (74, 1, .aload_n 0, 0, [], 0, 0), (75, 1, .iload_n 2, 0, [], 0, 0), (76, 3, .putfield 81, 0, [], 0, 0), (79, 1, .iconst 1, 0, [], 1, 0), (80, 1, .ireturn, 0, [], 0, 0)]
theorem tk_CR_addsField : ∀ e ∈ tab_CR_addsField, sTok "GathersAllFaults$CheckReader" prog_2_method_12_code e := tab_of (by decide +kernel)
def tab_PL_knows : List sT := [(0, 1, .aload_n 0, 0, [], 0, 0), (1, 3, .getfield 33, 0, [], 0, 0), (4, 1, .iload_n 1, 0, [], 0, 0), (5, 3, .invokestatic 62, 0, [], 0, 0), (8, 1, .iload_n 2, 0, [], 0, 0), (9, 1, .ishr, 0, [], 0, 0), (10, 1, .iconst 1, 0, [], 1, 0), (11, 1, .iand, 0, [], 0, 0), (12, 1, .iconst 1, 0, [], 1, 0), (13, 3, .if_icmp .ne 7, 20, [], 0, 0), (16, 1, .iconst 1, 0, [], 1, 0), (17, 3, .goto 4, 21, [], 0, 0), (20, 1, .iconst 0, 0, [], 0, 0), (21, 1, .ireturn, 0, [], 0, 0)]
theorem tk_PL_knows : ∀ e ∈ tab_PL_knows, sTok "GathersAllFaults$Plan" prog_4_method_3_code e := tab_of (by decide +kernel)
def tab_CR_addsDependent : List sT := [(0, 1, .aload_n 0, 0, [], 0, 0), (1, 3, .invokevirtual 65, 0, [], 0, 0), (4, 2, .istore 4, 0, [], 0, 0), (6, 1, .aload_n 0, 0, [], 0, 0), (7, 3, .getfield 12, 0, [], 0, 0), (10, 2, .iload 4, 0, [], 0, 0), (12, 1, .iload_n 2, 0, [], 0, 0), (13, 3, .invokevirtual 123, 0, [], 0, 0), (16, 3, .ifCond .eq 16, 32, [], 0, 0), (19, 1, .aload_n 0, 0, [], 0, 0), (20, 3, .getfield 12, 0, [], 0, 0), (23, 2, .iload 4, 0, [], 0, 0), (25, 1, .iload_n 3, 0, [], 0, 0), (26, 3, .invokevirtual 123, 0, [], 0, 0), (29, 3, .ifCond .ne 5, 34, [], 0, 0), (32, 1, .iconst 0, 0, [], 0, 0), (33, 1, .ireturn, 0, [], 0, 0), (34, 1, .aload_n 0, 0, [], 0, 0), (35, 3, .getfield 12, 0, [], 0, 0), (38, 2, .iload 4, 0, [], 0, 0), (40, 1, .iload_n 1, 0, [], 0, 0), (41, 1, .iload_n 2, 0, [], 0, 0), (42, 1, .iload_n 3, 0, [], 0, 0), (43, 3, .invokevirtual 132, 0, [], 0, 0), (46, 1, .iconst 1, 0, [], 1, 0), (47, 1, .ireturn, 0, [], 0, 0)]
theorem tk_CR_addsDependent : ∀ e ∈ tab_CR_addsDependent, sTok "GathersAllFaults$CheckReader" prog_2_method_13_code e := tab_of (by decide +kernel)
def tab_PL_depend : List sT := [(0, 1, .aload_n 0, 0, [], 0, 0), (1, 3, .getfield 39, 0, [], 0, 0), (4, 1, .iload_n 1, 0, [], 0, 0), (5, 3, .invokestatic 62, 0, [], 0, 0), (8, 3, .ifCond .ne 15, 23, [], 0, 0), (11, 1, .aload_n 0, 0, [], 0, 0), (12, 3, .getfield 36, 0, [], 0, 0), (15, 1, .iload_n 1, 0, [], 0, 0), (16, 1, .aload_n 0, 0, [], 0, 0), (17, 3, .getfield 59, 0, [], 0, 0), (20, 3, .invokestatic 66, 0, [], 0, 0), (23, 1, .aload_n 0, 0, [], 0, 0), (24, 3, .getfield 39, 0, [], 0, 0), (27, 1, .iload_n 1, 0, [], 0, 0), (28, 1, .aload_n 0, 0, [], 0, 0), (29, 3, .getfield 39, 0, [], 0, 0), (32, 1, .iload_n 1, 0, [], 0, 0), (33, 3, .invokestatic 62, 0, [], 0, 0), (36, 1, .iconst 1, 0, [], 1, 0), (37, 1, .iadd, 0, [], 0, 0), (38, 3, .invokestatic 66, 0, [], 0, 0), (41, 1, .aload_n 0, 0, [], 0, 0), (42, 3, .getfield 42, 0, [], 0, 0), (45, 1, .aload_n 0, 0, [], 0, 0), (46, 3, .getfield 59, 0, [], 0, 0), (49, 1, .iload_n 2, 0, [], 0, 0), (50, 3, .invokestatic 66, 0, [], 0, 0), (53, 1, .aload_n 0, 0, [], 0, 0), (54, 3, .getfield 45, 0, [], 0, 0), (57, 1, .aload_n 0, 0, [], 0, 0), (58, 3, .getfield 59, 0, [], 0, 0), (61, 1, .iload_n 3, 0, [], 0, 0), (62, 3, .invokestatic 66, 0, [], 0, 0), (65, 1, .aload_n 0, 0, [], 0, 0), (66, 3, .getfield 48, 0, [], 0, 0), (69, 1, .aload_n 0, 0, [], 0, 0), (70, 3, .getfield 59, 0, [], 0, 0), (73, 2, .iload 4, 0, [], 0, 0), (75, 3, .invokestatic 66, 0, [], 0, 0), (78, 1, .aload_n 0, 0, [], 0, 0), (79, 1, .dup, 0, [], 0, 0), (80, 3, .getfield 59, 0, [], 0, 0), (83, 1, .iconst 1, 0, [], 1, 0), (84, 1, .iadd, 0, [], 0, 0), (85, 3, .putfield 59, 0, [], 0, 0), (88, 1, .return_, 0, [], 0, 0)]
theorem tk_PL_depend : ∀ e ∈ tab_PL_depend, sTok "GathersAllFaults$Plan" prog_4_method_5_code e := tab_of (by decide +kernel)
def tab_CR_two : List sT := [(0, 2, .bipush 10, 0, [], 10, 0), (2, 1, .aload_n 0, 0, [], 0, 0), (3, 1, .iload_n 1, 0, [], 0, 0), (4, 3, .invokestatic 88, 0, [], 0, 0), (7, 2, .bipush 48, 0, [], 48, 0), (9, 1, .isub, 0, [], 0, 0), (10, 1, .imul, 0, [], 0, 0), (11, 1, .aload_n 0, 0, [], 0, 0), (12, 1, .iload_n 1, 0, [], 0, 0), (13, 1, .iconst 1, 0, [], 1, 0), (14, 1, .iadd, 0, [], 0, 0), (15, 3, .invokestatic 88, 0, [], 0, 0), (18, 1, .iadd, 0, [], 0, 0), (19, 2, .bipush 48, 0, [], 48, 0), (21, 1, .isub, 0, [], 0, 0), (22, 1, .ireturn, 0, [], 0, 0)]
theorem tk_CR_two : ∀ e ∈ tab_CR_two, sTok "GathersAllFaults$CheckReader" prog_2_method_11_code e := tab_of (by decide +kernel)
def tab_CR_adds : List sT := [(0, 1, .iload_n 2, 0, [], 0, 0), (1, 1, .iload_n 3, 0, [], 0, 0), (2, 3, .if_icmp .gt 29, 31, [], 0, 0), (5, 1, .iload_n 1, 0, [], 0, 0), (6, 2, .bipush 94, 0, [], 94, 0), (8, 3, .if_icmp .ne 10, 18, [], 0, 0), (11, 1, .aload_n 0, 0, [], 0, 0), (12, 3, .invokevirtual 136, 0, [], 0, 0), (15, 3, .ifCond .eq 16, 31, [], 0, 0), (18, 1, .aload_n 0, 0, [], 0, 0), (19, 3, .getfield 12, 0, [], 0, 0), (22, 1, .iload_n 1, 0, [], 0, 0), (23, 1, .iload_n 2, 0, [], 0, 0), (24, 1, .iload_n 3, 0, [], 0, 0), (25, 3, .invokevirtual 140, 0, [], 0, 0), (28, 3, .ifCond .ne 5, 33, [], 0, 0), (31, 1, .iconst 0, 0, [], 0, 0), (32, 1, .ireturn, 0, [], 0, 0), (33, 1, .aload_n 0, 0, [], 0, 0), (34, 3, .getfield 12, 0, [], 0, 0), (37, 3, .getfield 143, 0, [], 0, 0), (40, 1, .aload_n 0, 0, [], 0, 0), (41, 3, .getfield 12, 0, [], 0, 0), (44, 3, .getfield 69, 0, [], 0, 0), (47, 1, .iconst 1, 0, [], 1, 0), (48, 1, .isub, 0, [], 0, 0), (49, 1, .aload_n 0, 0, [], 0, 0), (50, 3, .getfield 78, 0, [], 0, 0), (53, 3, .invokestatic 99, 0, [], 0, 0), (56, 1, .aload_n 0, 0, [], 0, 0), (57, 3, .getfield 12, 0, [], 0, 0), (60, 3, .getfield 145, 0, [], 0, 0), (63, 1, .aload_n 0, 0, [], 0, 0), (64, 3, .getfield 12, 0, [], 0, 0), (67, 3, .getfield 69, 0, [], 0, 0), (70, 1, .iconst 1, 0, [], 1, 0), (71, 1, .isub, 0, [], 0, 0), (72, 1, .aload_n 0, 0, [], 0, 0), (73, 3, .getfield 81, 0, [], 0, 0), (76, 3, .invokestatic 99, 0, [], 0, 0), (79, 1, .aload_n 0, 0, [], 0, 0), (80, 1, .iconst 0, 0, [], 0, 0), (81, 3, .putfield 78, 0, [], 0, 0), (84, 1, .aload_n 0, 0, [], 0, 0), (85, 1, .iconst 0, 0, [], 0, 0), (86, 3, .putfield 81, 0, [], 0, 0), (89, 1, .iload_n 1, 0, [], 0, 0), (90, 3, .invokestatic 147, 0, [], 0, 0), (93, 2, .istore 4, 0, [], 0, 0), (95, 2, .iload 4, 0, [], 0, 0), (97, 3, .ifCond .ne 10, 107, [], 0, 0), (100, 1, .aload_n 0, 0, [], 0, 0), (101, 3, .invokevirtual 103, 0, [], 0, 0), (104, 3, .goto 29, 133, [], 0, 0), (107, 1, .aload_n 0, 0, [], 0, 0), (108, 3, .getfield 18, 0, [], 0, 0), (111, 1, .aload_n 0, 0, [], 0, 0), (112, 3, .getfield 62, 0, [], 0, 0), (115, 2, .iload 4, 0, [], 0, 0), (117, 3, .invokestatic 99, 0, [], 0, 0), (120, 1, .aload_n 0, 0, [], 0, 0), (121, 1, .aload_n 0, 0, [], 0, 0), (122, 3, .getfield 12, 0, [], 0, 0), (125, 3, .getfield 69, 0, [], 0, 0), (128, 1, .iconst 1, 0, [], 1, 0), (129, 1, .isub, 0, [], 0, 0), (130, 3, .invokevirtual 55, 0, [], 0, 0), (133, 1, .iconst 1, 0, [], 1, 0), (134, 1, .ireturn, 0, [], 0, 0)]
theorem tk_CR_adds : ∀ e ∈ tab_CR_adds, sTok "GathersAllFaults$CheckReader" prog_2_method_14_code e := tab_of (by decide +kernel)
def tab_CR_canReturn : List sT := [(0, 1, .aload_n 0, 0, [], 0, 0), (1, 1, .dup, 0, [], 0, 0), (2, 3, .getfield 75, 0, [], 0, 0), (5, 1, .iconst 1, 0, [], 1, 0), (6, 1, .iadd, 0, [], 0, 0), (7, 3, .putfield 75, 0, [], 0, 0), (10, 1, .aload_n 0, 0, [], 0, 0), (11, 3, .getfield 75, 0, [], 0, 0), (14, 1, .iconst 3, 0, [], 3, 0), (15, 3, .if_icmp .le 5, 20, [], 0, 0), (18, 1, .iconst 0, 0, [], 0, 0), (19, 1, .ireturn, 0, [], 0, 0), (20, 1, .iconst 0, 0, [], 0, 0), (21, 1, .istore_n 1, 0, [], 0, 0), (22, 1, .iload_n 1, 0, [], 0, 0), (23, 1, .aload_n 0, 0, [], 0, 0), (24, 3, .getfield 62, 0, [], 0, 0), (27, 3, .if_icmp .ge 42, 69, [], 0, 0), (30, 1, .aload_n 0, 0, [], 0, 0), (31, 3, .getfield 12, 0, [], 0, 0), (34, 3, .getfield 150, 0, [], 0, 0), (37, 1, .aload_n 0, 0, [], 0, 0), (38, 3, .getfield 153, 0, [], 0, 0), (41, 1, .iload_n 1, 0, [], 0, 0), (42, 3, .invokestatic 88, 0, [], 0, 0), (45, 3, .invokestatic 88, 0, [], 0, 0), (48, 1, .istore_n 2, 0, [], 0, 0), (49, 1, .iload_n 2, 0, [], 0, 0), (50, 2, .bipush 123, 0, [], 123, 0), (52, 3, .if_icmp .eq 9, 61, [], 0, 0), (55, 1, .iload_n 2, 0, [], 0, 0), (56, 2, .bipush 64, 0, [], 64, 0), (58, 3, .if_icmp .ne 5, 63, [], 0, 0), (61, 1, .iconst 1, 0, [], 1, 0), (62, 1, .ireturn, 0, [], 0, 0), (63, 3, .iinc 1 1, 0, [], 1, 0), (66, 3, .goto (-44), 22, [], 0, 0), (69, 1, .iconst 0, 0, [], 0, 0), (70, 1, .ireturn, 0, [], 0, 0)]
theorem tk_CR_canReturn : ∀ e ∈ tab_CR_canReturn, sTok "GathersAllFaults$CheckReader" prog_2_method_16_code e := tab_of (by decide +kernel)
def tab_PL_add : List sT := [(0, 1, .aload_n 0, 0, [], 0, 0), (1, 3, .getfield 51, 0, [], 0, 0), (4, 2, .bipush 24, 0, [], 24, 0), (6, 3, .if_icmp .lt 5, 11, [], 0, 0), (9, 1, .iconst 0, 0, [], 0, 0), (10, 1, .ireturn, 0, [], 0, 0), (11, 1, .aload_n 0, 0, [], 0, 0), (12, 3, .getfield 9, 0, [], 0, 0), (15, 1, .aload_n 0, 0, [], 0, 0), (16, 3, .getfield 51, 0, [], 0, 0), (19, 1, .iload_n 1, 0, [], 0, 0), (20, 3, .invokestatic 66, 0, [], 0, 0), (23, 1, .aload_n 0, 0, [], 0, 0), (24, 3, .getfield 15, 0, [], 0, 0), (27, 1, .aload_n 0, 0, [], 0, 0), (28, 3, .getfield 51, 0, [], 0, 0), (31, 1, .iload_n 2, 0, [], 0, 0), (32, 3, .invokestatic 66, 0, [], 0, 0), (35, 1, .aload_n 0, 0, [], 0, 0), (36, 3, .getfield 18, 0, [], 0, 0), (39, 1, .aload_n 0, 0, [], 0, 0), (40, 3, .getfield 51, 0, [], 0, 0), (43, 1, .iload_n 3, 0, [], 0, 0), (44, 3, .invokestatic 66, 0, [], 0, 0), (47, 1, .aload_n 0, 0, [], 0, 0), (48, 3, .getfield 21, 0, [], 0, 0), (51, 1, .aload_n 0, 0, [], 0, 0), (52, 3, .getfield 51, 0, [], 0, 0), (55, 1, .iconst 1, 0, [], 1, 0), (56, 3, .invokestatic 66, 0, [], 0, 0), (59, 1, .aload_n 0, 0, [], 0, 0), (60, 3, .getfield 24, 0, [], 0, 0), (63, 1, .aload_n 0, 0, [], 0, 0), (64, 3, .getfield 51, 0, [], 0, 0), (67, 1, .iconst 0, 0, [], 0, 0), (68, 3, .invokestatic 66, 0, [], 0, 0), (71, 1, .aload_n 0, 0, [], 0, 0), (72, 3, .getfield 27, 0, [], 0, 0), (75, 1, .aload_n 0, 0, [], 0, 0), (76, 3, .getfield 51, 0, [], 0, 0), (79, 1, .iconst 0, 0, [], 0, 0), (80, 3, .invokestatic 66, 0, [], 0, 0), (83, 1, .aload_n 0, 0, [], 0, 0), (84, 3, .getfield 30, 0, [], 0, 0), (87, 1, .aload_n 0, 0, [], 0, 0), (88, 3, .getfield 51, 0, [], 0, 0), (91, 1, .iconst 0, 0, [], 0, 0), (92, 3, .invokestatic 66, 0, [], 0, 0), (95, 1, .aload_n 0, 0, [], 0, 0), (96, 3, .getfield 33, 0, [], 0, 0), (99, 1, .aload_n 0, 0, [], 0, 0), (100, 3, .getfield 51, 0, [], 0, 0), (103, 1, .iconst 0, 0, [], 0, 0), (104, 3, .invokestatic 66, 0, [], 0, 0), (107, 1, .aload_n 0, 0, [], 0, 0), (108, 3, .getfield 36, 0, [], 0, 0), (111, 1, .aload_n 0, 0, [], 0, 0), (112, 3, .getfield 51, 0, [], 0, 0), (115, 1, .iconst 0, 0, [], 0, 0), (116, 3, .invokestatic 66, 0, [], 0, 0), (119, 1, .aload_n 0, 0, [], 0, 0), (120, 3, .getfield 39, 0, [], 0, 0), (123, 1, .aload_n 0, 0, [], 0, 0), (124, 3, .getfield 51, 0, [], 0, 0), (127, 1, .iconst 0, 0, [], 0, 0), (128, 3, .invokestatic 66, 0, [], 0, 0), (131, 1, .aload_n 0, 0, [], 0, 0), (132, 1, .dup, 0, [], 0, 0), (133, 3, .getfield 51, 0, [], 0, 0), (136, 1, .iconst 1, 0, [], 1, 0), (137, 1, .iadd, 0, [], 0, 0), (138, 3, .putfield 51, 0, [], 0, 0), (141, 1, .iconst 1, 0, [], 1, 0), (142, 1, .ireturn, 0, [], 0, 0)]
theorem tk_PL_add : ∀ e ∈ tab_PL_add, sTok "GathersAllFaults$Plan" prog_4_method_4_code e := tab_of (by decide +kernel)
def tab_CR_wants : List sT := [(0, 1, .iload_n 0, 0, [], 0, 0), (1, 51, .lookupswitch 58 #[(35, 51), (42, 51), (47, 53), (94, 51), (123, 55)], 59, [(35, 52), (42, 52), (47, 54), (94, 52), (123, 56)], 0, 0), (52, 1, .iconst 0, 0, [], 0, 0), (53, 1, .ireturn, 0, [], 0, 0), (54, 1, .iconst 2, 0, [], 2, 0), (55, 1, .ireturn, 0, [], 0, 0), (56, 2, .bipush 24, 0, [], 24, 0), (58, 1, .ireturn, 0, [], 0, 0), (59, 1, .iconst 1, 0, [], 1, 0), (60, 1, .ireturn, 0, [], 0, 0)]
theorem tk_CR_wants : ∀ e ∈ tab_CR_wants, sTok "GathersAllFaults$CheckReader" prog_2_method_15_code e := tab_of (by decide +kernel)
def tab_CR_tail : List sT := [(0, 1, .iload_n 0, 0, [], 0, 0), (1, 51, .lookupswitch 57 #[(35, 51), (46, 55), (60, 53), (61, 53), (64, 53)], 58, [(35, 52), (46, 56), (60, 54), (61, 54), (64, 54)], 0, 0), (52, 1, .iconst 4, 0, [], 4, 0), (53, 1, .ireturn, 0, [], 0, 0), (54, 1, .iconst 2, 0, [], 2, 0), (55, 1, .ireturn, 0, [], 0, 0), (56, 1, .iconst 1, 0, [], 1, 0), (57, 1, .ireturn, 0, [], 0, 0), (58, 1, .iconst 0, 0, [], 0, 0), (59, 1, .ireturn, 0, [], 0, 0)]
theorem tk_CR_tail : ∀ e ∈ tab_CR_tail, sTok "GathersAllFaults$CheckReader" prog_2_method_9_code e := tab_of (by decide +kernel)
def tab_VR_build : List sT := [(0, 1, .aload_n 0, 0, [], 0, 0), (1, 3, .getfield 12, 0, [], 0, 0), (4, 1, .iconst 0, 0, [], 0, 0), (5, 3, .putfield 57, 0, [], 0, 0), (8, 1, .aload_n 0, 0, [], 0, 0), (9, 1, .iconst 0, 0, [], 0, 0), (10, 3, .putfield 60, 0, [], 0, 0), (13, 1, .iconst 0, 0, [], 0, 0), (14, 1, .istore_n 3, 0, [], 0, 0), (15, 1, .iload_n 3, 0, [], 0, 0), (16, 1, .iload_n 2, 0, [], 0, 0), (17, 3, .if_icmp .ge 109, 126, [], 0, 0), (20, 1, .iload_n 3, 0, [], 0, 0), (21, 2, .istore 4, 0, [], 0, 0), (23, 1, .aload_n 1, 0, [], 0, 0), (24, 1, .iload_n 3, 0, [], 0, 0), (25, 3, .invokestatic 63, 0, [], 0, 0), (28, 2, .istore 5, 0, [], 0, 0), (30, 1, .iconst 1, 0, [], 1, 0), (31, 2, .istore 6, 0, [], 0, 0), (33, 2, .iload 5, 0, [], 0, 0), (35, 3, .invokestatic 22, 0, [], 0, 0), (38, 3, .ifCond .eq 66, 104, [], 0, 0), (41, 2, .iload 5, 0, [], 0, 0), (43, 2, .bipush 48, 0, [], 48, 0), (45, 1, .isub, 0, [], 0, 0), (46, 2, .istore 7, 0, [], 0, 0), (48, 1, .iload_n 3, 0, [], 0, 0), (49, 1, .iconst 1, 0, [], 1, 0), (50, 1, .iadd, 0, [], 0, 0), (51, 1, .iload_n 2, 0, [], 0, 0), (52, 3, .if_icmp .ge 13, 65, [], 0, 0), (55, 1, .aload_n 1, 0, [], 0, 0), (56, 1, .iload_n 3, 0, [], 0, 0), (57, 1, .iconst 1, 0, [], 1, 0), (58, 1, .iadd, 0, [], 0, 0), (59, 3, .invokestatic 63, 0, [], 0, 0), (62, 3, .goto 4, 66, [], 0, 0), (65, 1, .iconst 0, 0, [], 0, 0), (66, 2, .istore 8, 0, [], 0, 0), (68, 2, .iload 8, 0, [], 0, 0), (70, 3, .invokestatic 22, 0, [], 0, 0), (73, 3, .ifCond .eq 19, 92, [], 0, 0), (76, 2, .bipush 10, 0, [], 10, 0), (78, 2, .iload 7, 0, [], 0, 0), (80, 1, .imul, 0, [], 0, 0), (81, 2, .iload 8, 0, [], 0, 0), (83, 1, .iadd, 0, [], 0, 0), (84, 2, .bipush 48, 0, [], 48, 0), (86, 1, .isub, 0, [], 0, 0), (87, 2, .istore 7, 0, [], 0, 0), (89, 3, .iinc 3 1, 0, [], 1, 0), (92, 1, .aload_n 0, 0, [], 0, 0), (93, 1, .iconst 0, 0, [], 0, 0), (94, 2, .iload 7, 0, [], 0, 0), (96, 3, .invokevirtual 67, 0, [], 0, 0), (99, 2, .istore 6, 0, [], 0, 0), (101, 3, .goto 11, 112, [], 0, 0), (104, 1, .aload_n 0, 0, [], 0, 0), (105, 2, .iload 5, 0, [], 0, 0), (107, 3, .invokevirtual 71, 0, [], 0, 0), (110, 2, .istore 6, 0, [], 0, 0), (112, 2, .iload 6, 0, [], 0, 0), (114, 3, .ifCond .ne 6, 120, [], 0, 0), (117, 2, .iload 4, 0, [], 0, 0), (119, 1, .ireturn, 0, [], 0, 0), (120, 3, .iinc 3 1, 0, [], 1, 0), (123, 3, .goto (-108), 15, [], 0, 0), (126, 1, .aload_n 0, 0, [], 0, 0), (127, 3, .getfield 12, 0, [], 0, 0), (130, 3, .invokevirtual 74, 0, [], 0, 0), (133, 1, .iconst (-1), 0, [], (-1), 0), (134, 1, .ireturn, 0, [], 0, 0)]
theorem tk_VR_build : ∀ e ∈ tab_VR_build, sTok "GathersAllFaults$ValueReader" prog_7_method_6_code e := tab_of (by decide +kernel)
def tab_VR_adds : List sT := [(0, 1, .aload_n 0, 0, [], 0, 0), (1, 3, .invokevirtual 53, 0, [], 0, 0), (4, 1, .istore_n 3, 0, [], 0, 0), (5, 1, .iload_n 3, 0, [], 0, 0), (6, 3, .ifCond .lt 63, 69, [], 0, 0), (9, 1, .aload_n 0, 0, [], 0, 0), (10, 3, .getfield 12, 0, [], 0, 0), (13, 3, .getfield 93, 0, [], 0, 0), (16, 1, .iload_n 3, 0, [], 0, 0), (17, 3, .invokestatic 63, 0, [], 0, 0), (20, 2, .istore 4, 0, [], 0, 0), (22, 1, .aload_n 0, 0, [], 0, 0), (23, 3, .getfield 12, 0, [], 0, 0), (26, 3, .getfield 96, 0, [], 0, 0), (29, 1, .iload_n 3, 0, [], 0, 0), (30, 3, .invokestatic 63, 0, [], 0, 0), (33, 1, .iconst 3, 0, [], 3, 0), (34, 3, .if_icmp .ne 20, 54, [], 0, 0), (37, 2, .iload 4, 0, [], 0, 0), (39, 1, .iconst 4, 0, [], 4, 0), (40, 3, .if_icmp .lt 5, 45, [], 0, 0), (43, 1, .iconst 0, 0, [], 0, 0), (44, 1, .ireturn, 0, [], 0, 0), (45, 1, .aload_n 0, 0, [], 0, 0), (46, 2, .bipush 6, 0, [], 6, 0), (48, 2, .iload 4, 0, [], 0, 0), (50, 1, .iadd, 0, [], 0, 0), (51, 3, .putfield 60, 0, [], 0, 0), (54, 1, .aload_n 0, 0, [], 0, 0), (55, 3, .getfield 12, 0, [], 0, 0), (58, 3, .getfield 93, 0, [], 0, 0), (61, 1, .iload_n 3, 0, [], 0, 0), (62, 2, .iload 4, 0, [], 0, 0), (64, 1, .iconst 1, 0, [], 1, 0), (65, 1, .iadd, 0, [], 0, 0), (66, 3, .invokestatic 81, 0, [], 0, 0), (69, 1, .aload_n 0, 0, [], 0, 0), (70, 3, .getfield 50, 0, [], 0, 0), (73, 1, .iconst 4, 0, [], 4, 0), (74, 3, .if_icmp .gt 19, 93, [], 0, 0), (77, 1, .aload_n 0, 0, [], 0, 0), (78, 3, .getfield 12, 0, [], 0, 0), (81, 1, .iload_n 1, 0, [], 0, 0), (82, 1, .iload_n 2, 0, [], 0, 0), (83, 1, .aload_n 0, 0, [], 0, 0), (84, 3, .getfield 60, 0, [], 0, 0), (87, 3, .invokevirtual 99, 0, [], 0, 0), (90, 3, .ifCond .ne 5, 95, [], 0, 0), (93, 1, .iconst 0, 0, [], 0, 0), (94, 1, .ireturn, 0, [], 0, 0), (95, 1, .iload_n 1, 0, [], 0, 0), (96, 1, .iconst 2, 0, [], 2, 0), (97, 3, .if_icmp .eq 8, 105, [], 0, 0), (100, 1, .iload_n 1, 0, [], 0, 0), (101, 1, .iconst 3, 0, [], 3, 0), (102, 3, .if_icmp .ne 16, 118, [], 0, 0), (105, 1, .aload_n 0, 0, [], 0, 0), (106, 1, .aload_n 0, 0, [], 0, 0), (107, 3, .getfield 12, 0, [], 0, 0), (110, 3, .getfield 57, 0, [], 0, 0), (113, 1, .iconst 1, 0, [], 1, 0), (114, 1, .isub, 0, [], 0, 0), (115, 3, .invokevirtual 40, 0, [], 0, 0), (118, 1, .iconst 1, 0, [], 1, 0), (119, 1, .ireturn, 0, [], 0, 0)]
theorem tk_VR_adds : ∀ e ∈ tab_VR_adds, sTok "GathersAllFaults$ValueReader" prog_7_method_8_code e := tab_of (by decide +kernel)
def tab_TR_add : List sT := [(0, 1, .aload_n 0, 0, [], 0, 0), (1, 3, .getfield 30, 0, [], 0, 0), (4, 2, .bipush 20, 0, [], 20, 0), (6, 3, .if_icmp .lt 5, 11, [], 0, 0), (9, 1, .iconst 0, 0, [], 0, 0), (10, 1, .ireturn, 0, [], 0, 0), (11, 1, .aload_n 0, 0, [], 0, 0), (12, 3, .getfield 9, 0, [], 0, 0), (15, 1, .aload_n 0, 0, [], 0, 0), (16, 3, .getfield 30, 0, [], 0, 0), (19, 1, .iload_n 1, 0, [], 0, 0), (20, 3, .invokestatic 42, 0, [], 0, 0), (23, 1, .aload_n 0, 0, [], 0, 0), (24, 3, .getfield 15, 0, [], 0, 0), (27, 1, .aload_n 0, 0, [], 0, 0), (28, 3, .getfield 30, 0, [], 0, 0), (31, 1, .iload_n 2, 0, [], 0, 0), (32, 3, .invokestatic 42, 0, [], 0, 0), (35, 1, .aload_n 0, 0, [], 0, 0), (36, 3, .getfield 18, 0, [], 0, 0), (39, 1, .aload_n 0, 0, [], 0, 0), (40, 3, .getfield 30, 0, [], 0, 0), (43, 1, .iconst 0, 0, [], 0, 0), (44, 3, .invokestatic 42, 0, [], 0, 0), (47, 1, .aload_n 0, 0, [], 0, 0), (48, 3, .getfield 21, 0, [], 0, 0), (51, 1, .aload_n 0, 0, [], 0, 0), (52, 3, .getfield 30, 0, [], 0, 0), (55, 1, .iload_n 3, 0, [], 0, 0), (56, 3, .invokestatic 42, 0, [], 0, 0), (59, 1, .aload_n 0, 0, [], 0, 0), (60, 3, .getfield 24, 0, [], 0, 0), (63, 1, .aload_n 0, 0, [], 0, 0), (64, 3, .getfield 30, 0, [], 0, 0), (67, 1, .iconst 1, 0, [], 1, 0), (68, 3, .invokestatic 42, 0, [], 0, 0), (71, 1, .aload_n 0, 0, [], 0, 0), (72, 1, .dup, 0, [], 0, 0), (73, 3, .getfield 30, 0, [], 0, 0), (76, 1, .iconst 1, 0, [], 1, 0), (77, 1, .iadd, 0, [], 0, 0), (78, 3, .putfield 30, 0, [], 0, 0), (81, 1, .iconst 1, 0, [], 1, 0), (82, 1, .ireturn, 0, [], 0, 0)]
theorem tk_TR_add : ∀ e ∈ tab_TR_add, sTok "GathersAllFaults$Tree" prog_6_method_5_code e := tab_of (by decide +kernel)
def tab_VR_takes : List sT := [(0, 1, .iload_n 1, 0, [], 0, 0), (1, 59, .lookupswitch 114 #[(40, 66), (41, 80), (44, 112), (63, 59), (91, 73), (93, 80)], 115, [(40, 67), (41, 81), (44, 113), (63, 60), (91, 74), (93, 81)], 0, 0), (60, 1, .aload_n 0, 0, [], 0, 0), (61, 1, .iconst 1, 0, [], 1, 0), (62, 1, .iconst 0, 0, [], 0, 0), (63, 3, .invokevirtual 67, 0, [], 0, 0), (66, 1, .ireturn, 0, [], 0, 0), (67, 1, .aload_n 0, 0, [], 0, 0), (68, 1, .iconst 2, 0, [], 2, 0), (69, 1, .iconst 0, 0, [], 0, 0), (70, 3, .invokevirtual 67, 0, [], 0, 0), (73, 1, .ireturn, 0, [], 0, 0), (74, 1, .aload_n 0, 0, [], 0, 0), (75, 1, .iconst 3, 0, [], 3, 0), (76, 1, .iconst 0, 0, [], 0, 0), (77, 3, .invokevirtual 67, 0, [], 0, 0), (80, 1, .ireturn, 0, [], 0, 0), (81, 1, .aload_n 0, 0, [], 0, 0), (82, 3, .getfield 12, 0, [], 0, 0), (85, 3, .getfield 77, 0, [], 0, 0), (88, 1, .aload_n 0, 0, [], 0, 0), (89, 3, .invokevirtual 53, 0, [], 0, 0), (92, 1, .aload_n 0, 0, [], 0, 0), (93, 3, .getfield 12, 0, [], 0, 0), (96, 3, .getfield 57, 0, [], 0, 0), (99, 1, .aload_n 0, 0, [], 0, 0), (100, 3, .invokevirtual 53, 0, [], 0, 0), (103, 1, .isub, 0, [], 0, 0), (104, 3, .invokestatic 81, 0, [], 0, 0), (107, 1, .aload_n 0, 0, [], 0, 0), (108, 3, .invokevirtual 47, 0, [], 0, 0), (111, 1, .iconst 1, 0, [], 1, 0), (112, 1, .ireturn, 0, [], 0, 0), (113, 1, .iconst 1, 0, [], 1, 0), (114, 1, .ireturn, 0, [], 0, 0), (115, 1, .aload_n 0, 0, [], 0, 0), (116, 1, .iload_n 1, 0, [], 0, 0), (117, 3, .invokestatic 85, 0, [], 0, 0), (120, 3, .putfield 60, 0, [], 0, 0), (123, 1, .aload_n 0, 0, [], 0, 0), (124, 3, .getfield 12, 0, [], 0, 0), (127, 1, .aload_n 0, 0, [], 0, 0), (128, 3, .invokevirtual 53, 0, [], 0, 0), (131, 1, .aload_n 0, 0, [], 0, 0), (132, 3, .getfield 60, 0, [], 0, 0), (135, 3, .invokevirtual 89, 0, [], 0, 0), (138, 3, .ifCond .ge 7, 145, [], 0, 0), (141, 1, .iconst 1, 0, [], 1, 0), (142, 3, .goto 4, 146, [], 0, 0), (145, 1, .iconst 0, 0, [], 0, 0), (146, 1, .ireturn, 0, [], 0, 0)]
theorem tk_VR_takes : ∀ e ∈ tab_VR_takes, sTok "GathersAllFaults$ValueReader" prog_7_method_7_code e := tab_of (by decide +kernel)
def tab_TR_child : List sT := [(0, 1, .aload_n 0, 0, [], 0, 0), (1, 3, .getfield 18, 0, [], 0, 0), (4, 1, .iload_n 1, 0, [], 0, 0), (5, 3, .invokestatic 38, 0, [], 0, 0), (8, 1, .istore_n 3, 0, [], 0, 0), (9, 1, .iload_n 1, 0, [], 0, 0), (10, 1, .iconst 1, 0, [], 1, 0), (11, 1, .iadd, 0, [], 0, 0), (12, 2, .istore 4, 0, [], 0, 0), (14, 1, .iconst 0, 0, [], 0, 0), (15, 2, .istore 5, 0, [], 0, 0), (17, 2, .iload 5, 0, [], 0, 0), (19, 1, .iload_n 3, 0, [], 0, 0), (20, 3, .if_icmp .ge 39, 59, [], 0, 0), (23, 1, .aload_n 0, 0, [], 0, 0), (24, 3, .getfield 21, 0, [], 0, 0), (27, 2, .iload 4, 0, [], 0, 0), (29, 3, .invokestatic 38, 0, [], 0, 0), (32, 1, .iload_n 2, 0, [], 0, 0), (33, 3, .if_icmp .ne 6, 39, [], 0, 0), (36, 2, .iload 4, 0, [], 0, 0), (38, 1, .ireturn, 0, [], 0, 0), (39, 2, .iload 4, 0, [], 0, 0), (41, 1, .aload_n 0, 0, [], 0, 0), (42, 3, .getfield 24, 0, [], 0, 0), (45, 2, .iload 4, 0, [], 0, 0), (47, 3, .invokestatic 38, 0, [], 0, 0), (50, 1, .iadd, 0, [], 0, 0), (51, 2, .istore 4, 0, [], 0, 0), (53, 3, .iinc 5 1, 0, [], 1, 0), (56, 3, .goto (-39), 17, [], 0, 0), (59, 1, .iconst (-1), 0, [], (-1), 0), (60, 1, .ireturn, 0, [], 0, 0)]
theorem tk_TR_child : ∀ e ∈ tab_TR_child, sTok "GathersAllFaults$Tree" prog_6_method_4_code e := tab_of (by decide +kernel)
def tab_TR_link : List sT := [(0, 1, .aload_n 0, 0, [], 0, 0), (1, 3, .getfield 27, 0, [], 0, 0), (4, 1, .iconst 0, 0, [], 0, 0), (5, 1, .iconst 0, 0, [], 0, 0), (6, 3, .invokestatic 42, 0, [], 0, 0), (9, 1, .iconst 0, 0, [], 0, 0), (10, 1, .istore_n 1, 0, [], 0, 0), (11, 1, .iload_n 1, 0, [], 0, 0), (12, 1, .aload_n 0, 0, [], 0, 0), (13, 3, .getfield 30, 0, [], 0, 0), (16, 3, .if_icmp .ge 101, 117, [], 0, 0), (19, 1, .aload_n 0, 0, [], 0, 0), (20, 3, .getfield 18, 0, [], 0, 0), (23, 1, .iload_n 1, 0, [], 0, 0), (24, 3, .invokestatic 38, 0, [], 0, 0), (27, 1, .istore_n 2, 0, [], 0, 0), (28, 1, .iload_n 1, 0, [], 0, 0), (29, 1, .iconst 1, 0, [], 1, 0), (30, 1, .iadd, 0, [], 0, 0), (31, 1, .istore_n 3, 0, [], 0, 0), (32, 1, .iconst 0, 0, [], 0, 0), (33, 2, .istore 4, 0, [], 0, 0), (35, 2, .iload 4, 0, [], 0, 0), (37, 1, .iload_n 2, 0, [], 0, 0), (38, 3, .if_icmp .ge 73, 111, [], 0, 0), (41, 1, .aload_n 0, 0, [], 0, 0), (42, 3, .getfield 9, 0, [], 0, 0), (45, 1, .iload_n 1, 0, [], 0, 0), (46, 3, .invokestatic 38, 0, [], 0, 0), (49, 1, .iconst 3, 0, [], 3, 0), (50, 3, .if_icmp .ne 16, 66, [], 0, 0), (53, 1, .aload_n 0, 0, [], 0, 0), (54, 3, .getfield 21, 0, [], 0, 0), (57, 1, .iload_n 3, 0, [], 0, 0), (58, 2, .bipush 6, 0, [], 6, 0), (60, 2, .iload 4, 0, [], 0, 0), (62, 1, .iadd, 0, [], 0, 0), (63, 3, .invokestatic 42, 0, [], 0, 0), (66, 1, .aload_n 0, 0, [], 0, 0), (67, 3, .getfield 27, 0, [], 0, 0), (70, 1, .iload_n 3, 0, [], 0, 0), (71, 2, .bipush 10, 0, [], 10, 0), (73, 1, .aload_n 0, 0, [], 0, 0), (74, 3, .getfield 27, 0, [], 0, 0), (77, 1, .iload_n 1, 0, [], 0, 0), (78, 3, .invokestatic 38, 0, [], 0, 0), (81, 1, .imul, 0, [], 0, 0), (82, 1, .aload_n 0, 0, [], 0, 0), (83, 3, .getfield 21, 0, [], 0, 0), (86, 1, .iload_n 3, 0, [], 0, 0), (87, 3, .invokestatic 38, 0, [], 0, 0), (90, 1, .iadd, 0, [], 0, 0), (91, 3, .invokestatic 42, 0, [], 0, 0), (94, 1, .iload_n 3, 0, [], 0, 0), (95, 1, .aload_n 0, 0, [], 0, 0), (96, 3, .getfield 24, 0, [], 0, 0), (99, 1, .iload_n 3, 0, [], 0, 0), (100, 3, .invokestatic 38, 0, [], 0, 0), (103, 1, .iadd, 0, [], 0, 0), (104, 1, .istore_n 3, 0, [], 0, 0), (105, 3, .iinc 4 1, 0, [], 1, 0), (108, 3, .goto (-73), 35, [], 0, 0), (111, 3, .iinc 1 1, 0, [], 1, 0), (114, 3, .goto (-103), 11, [], 0, 0), (117, 1, .return_, 0, [], 0, 0)]
theorem tk_TR_link : ∀ e ∈ tab_TR_link, sTok "GathersAllFaults$Tree" prog_6_method_6_code e := tab_of (by decide +kernel)
def tab_TR_take : List sT := [(0, 1, .aload_n 1, 0, [], 0, 0), (1, 3, .ifnonnull 4, 5, [], 0, 0), (4, 1, .return_, 0, [], 0, 0), (5, 1, .aload_n 1, 0, [], 0, 0), (6, 3, .getfield 9, 0, [], 0, 0), (9, 1, .aload_n 0, 0, [], 0, 0), (10, 3, .getfield 9, 0, [], 0, 0), (13, 3, .invokestatic 34, 0, [], 0, 0), (16, 1, .aload_n 1, 0, [], 0, 0), (17, 3, .getfield 15, 0, [], 0, 0), (20, 1, .aload_n 0, 0, [], 0, 0), (21, 3, .getfield 15, 0, [], 0, 0), (24, 3, .invokestatic 34, 0, [], 0, 0), (27, 1, .aload_n 1, 0, [], 0, 0), (28, 3, .getfield 18, 0, [], 0, 0), (31, 1, .aload_n 0, 0, [], 0, 0), (32, 3, .getfield 18, 0, [], 0, 0), (35, 3, .invokestatic 34, 0, [], 0, 0), (38, 1, .aload_n 1, 0, [], 0, 0), (39, 3, .getfield 21, 0, [], 0, 0), (42, 1, .aload_n 0, 0, [], 0, 0), (43, 3, .getfield 21, 0, [], 0, 0), (46, 3, .invokestatic 34, 0, [], 0, 0), (49, 1, .aload_n 1, 0, [], 0, 0), (50, 3, .getfield 24, 0, [], 0, 0), (53, 1, .aload_n 0, 0, [], 0, 0), (54, 3, .getfield 24, 0, [], 0, 0), (57, 3, .invokestatic 34, 0, [], 0, 0), (60, 1, .aload_n 1, 0, [], 0, 0), (61, 3, .getfield 27, 0, [], 0, 0), (64, 1, .aload_n 0, 0, [], 0, 0), (65, 3, .getfield 27, 0, [], 0, 0), (68, 3, .invokestatic 34, 0, [], 0, 0), (71, 1, .aload_n 0, 0, [], 0, 0), (72, 1, .aload_n 1, 0, [], 0, 0), (73, 3, .getfield 30, 0, [], 0, 0), (76, 3, .putfield 30, 0, [], 0, 0), (79, 1, .return_, 0, [], 0, 0)]
theorem tk_TR_take : ∀ e ∈ tab_TR_take, sTok "GathersAllFaults$Tree" prog_6_method_2_code e := tab_of (by decide +kernel)
def tab_GF_copy : List sT := [(0, 1, .aload_n 0, 0, [], 0, 0), (1, 3, .ifnull 21, 22, [], 0, 0), (4, 1, .aload_n 1, 0, [], 0, 0), (5, 3, .ifnull 17, 22, [], 0, 0), (8, 1, .aload_n 0, 0, [], 0, 0), (9, 1, .iconst 0, 0, [], 0, 0), (10, 1, .aload_n 1, 0, [], 0, 0), (11, 1, .iconst 0, 0, [], 0, 0), (12, 1, .aload_n 0, 0, [], 0, 0), (13, 1, .arraylength, 0, [], 0, 0), (14, 1, .aload_n 1, 0, [], 0, 0), (15, 1, .arraylength, 0, [], 0, 0), (16, 3, .invokestatic 145, 0, [], 0, 0), (19, 3, .invokestatic 220, 0, [], 0, 0), (22, 1, .return_, 0, [], 0, 0)]
theorem tk_GF_copy : ∀ e ∈ tab_GF_copy, sTok "GathersAllFaults" prog_1_method_50_code e := tab_of (by decide +kernel)
def tab_GF_check : List sT := [(0, 1, .aload_n 0, 0, [], 0, 0), (1, 3, .getfield 36, 0, [], 0, 0), (4, 1, .aload_n 0, 0, [], 0, 0), (5, 3, .getfield 40, 0, [], 0, 0), (8, 1, .aload_n 0, 0, [], 0, 0), (9, 3, .getfield 64, 0, [], 0, 0), (12, 3, .invokevirtual 86, 0, [], 0, 0), (15, 1, .istore_n 1, 0, [], 0, 0), (16, 1, .aload_n 0, 0, [], 0, 0), (17, 1, .iconst 0, 0, [], 0, 0), (18, 3, .putfield 64, 0, [], 0, 0), (21, 1, .iload_n 1, 0, [], 0, 0), (22, 3, .ifCond .eq 5, 27, [], 0, 0), (25, 1, .iload_n 1, 0, [], 0, 0), (26, 1, .ireturn, 0, [], 0, 0), (27, 1, .aload_n 0, 0, [], 0, 0), (28, 3, .getfield 22, 0, [], 0, 0), (31, 3, .getfield 87, 0, [], 0, 0), (34, 1, .aload_n 0, 0, [], 0, 0), (35, 3, .getfield 36, 0, [], 0, 0), (38, 3, .getfield 90, 0, [], 0, 0), (41, 3, .invokevirtual 92, 0, [], 0, 0), (44, 1, .aload_n 0, 0, [], 0, 0), (45, 3, .getfield 22, 0, [], 0, 0), (48, 3, .getfield 87, 0, [], 0, 0), (51, 3, .getfield 95, 0, [], 0, 0), (54, 1, .ireturn, 0, [], 0, 0)]
theorem tk_GF_check : ∀ e ∈ tab_GF_check, sTok "GathersAllFaults" prog_1_method_4_code e := tab_of (by decide +kernel)
def tab_PL_take : List sT := [(0, 1, .aload_n 1, 0, [], 0, 0), (1, 3, .ifnonnull 4, 5, [], 0, 0), (4, 1, .return_, 0, [], 0, 0), (5, 1, .aload_n 1, 0, [], 0, 0), (6, 3, .getfield 9, 0, [], 0, 0), (9, 1, .aload_n 0, 0, [], 0, 0), (10, 3, .getfield 9, 0, [], 0, 0), (13, 3, .invokestatic 55, 0, [], 0, 0), (16, 1, .aload_n 1, 0, [], 0, 0), (17, 3, .getfield 15, 0, [], 0, 0), (20, 1, .aload_n 0, 0, [], 0, 0), (21, 3, .getfield 15, 0, [], 0, 0), (24, 3, .invokestatic 55, 0, [], 0, 0), (27, 1, .aload_n 1, 0, [], 0, 0), (28, 3, .getfield 18, 0, [], 0, 0), (31, 1, .aload_n 0, 0, [], 0, 0), (32, 3, .getfield 18, 0, [], 0, 0), (35, 3, .invokestatic 55, 0, [], 0, 0), (38, 1, .aload_n 1, 0, [], 0, 0), (39, 3, .getfield 21, 0, [], 0, 0), (42, 1, .aload_n 0, 0, [], 0, 0), (43, 3, .getfield 21, 0, [], 0, 0), (46, 3, .invokestatic 55, 0, [], 0, 0), (49, 1, .aload_n 1, 0, [], 0, 0), (50, 3, .getfield 24, 0, [], 0, 0), (53, 1, .aload_n 0, 0, [], 0, 0), (54, 3, .getfield 24, 0, [], 0, 0), (57, 3, .invokestatic 55, 0, [], 0, 0), (60, 1, .aload_n 1, 0, [], 0, 0), (61, 3, .getfield 27, 0, [], 0, 0), (64, 1, .aload_n 0, 0, [], 0, 0), (65, 3, .getfield 27, 0, [], 0, 0), (68, 3, .invokestatic 55, 0, [], 0, 0), (71, 1, .aload_n 1, 0, [], 0, 0), (72, 3, .getfield 30, 0, [], 0, 0), (75, 1, .aload_n 0, 0, [], 0, 0), (76, 3, .getfield 30, 0, [], 0, 0), (79, 3, .invokestatic 55, 0, [], 0, 0), (82, 1, .aload_n 1, 0, [], 0, 0), (83, 3, .getfield 33, 0, [], 0, 0), (86, 1, .aload_n 0, 0, [], 0, 0), (87, 3, .getfield 33, 0, [], 0, 0), (90, 3, .invokestatic 55, 0, [], 0, 0), (93, 1, .aload_n 1, 0, [], 0, 0), (94, 3, .getfield 36, 0, [], 0, 0), (97, 1, .aload_n 0, 0, [], 0, 0), (98, 3, .getfield 36, 0, [], 0, 0), (101, 3, .invokestatic 55, 0, [], 0, 0), (104, 1, .aload_n 1, 0, [], 0, 0), (105, 3, .getfield 39, 0, [], 0, 0), (108, 1, .aload_n 0, 0, [], 0, 0), (109, 3, .getfield 39, 0, [], 0, 0), (112, 3, .invokestatic 55, 0, [], 0, 0), (115, 1, .aload_n 1, 0, [], 0, 0), (116, 3, .getfield 42, 0, [], 0, 0), (119, 1, .aload_n 0, 0, [], 0, 0), (120, 3, .getfield 42, 0, [], 0, 0), (123, 3, .invokestatic 55, 0, [], 0, 0), (126, 1, .aload_n 1, 0, [], 0, 0), (127, 3, .getfield 45, 0, [], 0, 0), (130, 1, .aload_n 0, 0, [], 0, 0), (131, 3, .getfield 45, 0, [], 0, 0), (134, 3, .invokestatic 55, 0, [], 0, 0), (137, 1, .aload_n 1, 0, [], 0, 0), (138, 3, .getfield 48, 0, [], 0, 0), (141, 1, .aload_n 0, 0, [], 0, 0), (142, 3, .getfield 48, 0, [], 0, 0), (145, 3, .invokestatic 55, 0, [], 0, 0), (148, 1, .aload_n 0, 0, [], 0, 0), (149, 1, .aload_n 1, 0, [], 0, 0), (150, 3, .getfield 51, 0, [], 0, 0), (153, 3, .putfield 51, 0, [], 0, 0), (156, 1, .aload_n 0, 0, [], 0, 0), (157, 1, .aload_n 1, 0, [], 0, 0), (158, 3, .getfield 59, 0, [], 0, 0), (161, 3, .putfield 59, 0, [], 0, 0), (164, 1, .return_, 0, [], 0, 0)]
theorem tk_PL_take : ∀ e ∈ tab_PL_take, sTok "GathersAllFaults$Plan" prog_4_method_2_code e := tab_of (by decide +kernel)
def tab_GF_part : List sT := [(0, 1, .aload_n 0, 0, [], 0, 0), (1, 3, .getfield 10, 0, [], 0, 0), (4, 1, .iload_n 1, 0, [], 0, 0), (5, 3, .invokevirtual 96, 0, [], 0, 0), (8, 1, .istore_n 3, 0, [], 0, 0), (9, 1, .iload_n 3, 0, [], 0, 0), (10, 3, .ifCond .ge 9, 19, [], 0, 0), (13, 1, .aload_n 0, 0, [], 0, 0), (14, 1, .iconst (-1), 0, [], (-1), 0), (15, 3, .invokevirtual 60, 0, [], 0, 0), (18, 1, .ireturn, 0, [], 0, 0), (19, 1, .iload_n 2, 0, [], 0, 0), (20, 32, .tableswitch 98 0 3 #[32, 44, 84, 96], 118, [(0, 52), (1, 64), (2, 104), (3, 116)], 0, 0), (52, 1, .aload_n 0, 0, [], 0, 0), (53, 3, .getfield 10, 0, [], 0, 0), (56, 3, .getfield 99, 0, [], 0, 0), (59, 1, .iload_n 3, 0, [], 0, 0), (60, 3, .invokestatic 102, 0, [], 0, 0), (63, 1, .ireturn, 0, [], 0, 0), (64, 1, .aload_n 0, 0, [], 0, 0), (65, 3, .getfield 10, 0, [], 0, 0), (68, 3, .getfield 99, 0, [], 0, 0), (71, 1, .iload_n 3, 0, [], 0, 0), (72, 3, .invokestatic 102, 0, [], 0, 0), (75, 3, .ifCond .ne 17, 92, [], 0, 0), (78, 1, .aload_n 0, 0, [], 0, 0), (79, 3, .getfield 10, 0, [], 0, 0), (82, 3, .getfield 105, 0, [], 0, 0), (85, 1, .iload_n 3, 0, [], 0, 0), (86, 3, .invokestatic 102, 0, [], 0, 0), (89, 3, .goto 14, 103, [], 0, 0), (92, 1, .aload_n 0, 0, [], 0, 0), (93, 3, .getfield 10, 0, [], 0, 0), (96, 3, .getfield 108, 0, [], 0, 0), (99, 1, .iload_n 3, 0, [], 0, 0), (100, 3, .invokestatic 102, 0, [], 0, 0), (103, 1, .ireturn, 0, [], 0, 0), (104, 1, .aload_n 0, 0, [], 0, 0), (105, 3, .getfield 10, 0, [], 0, 0), (108, 3, .getfield 111, 0, [], 0, 0), (111, 1, .iload_n 3, 0, [], 0, 0), (112, 3, .invokestatic 102, 0, [], 0, 0), (115, 1, .ireturn, 0, [], 0, 0), (116, 1, .iload_n 3, 0, [], 0, 0), (117, 1, .ireturn, 0, [], 0, 0), (118, 1, .aload_n 0, 0, [], 0, 0), (119, 2, .bipush (-2), 0, [], (-2), 0), (121, 3, .invokevirtual 60, 0, [], 0, 0), (124, 1, .ireturn, 0, [], 0, 0)]
theorem tk_GF_part : ∀ e ∈ tab_GF_part, sTok "GathersAllFaults" prog_1_method_5_code e := tab_of (by decide +kernel)
def tab_TR_find : List sT := [(0, 1, .iconst 0, 0, [], 0, 0), (1, 1, .istore_n 2, 0, [], 0, 0), (2, 1, .iload_n 2, 0, [], 0, 0), (3, 1, .aload_n 0, 0, [], 0, 0), (4, 3, .getfield 30, 0, [], 0, 0), (7, 3, .if_icmp .ge 23, 30, [], 0, 0), (10, 1, .aload_n 0, 0, [], 0, 0), (11, 3, .getfield 27, 0, [], 0, 0), (14, 1, .iload_n 2, 0, [], 0, 0), (15, 3, .invokestatic 38, 0, [], 0, 0), (18, 1, .iload_n 1, 0, [], 0, 0), (19, 3, .if_icmp .ne 5, 24, [], 0, 0), (22, 1, .iload_n 2, 0, [], 0, 0), (23, 1, .ireturn, 0, [], 0, 0), (24, 3, .iinc 2 1, 0, [], 1, 0), (27, 3, .goto (-25), 2, [], 0, 0), (30, 1, .iconst (-1), 0, [], (-1), 0), (31, 1, .ireturn, 0, [], 0, 0)]
theorem tk_TR_find : ∀ e ∈ tab_TR_find, sTok "GathersAllFaults$Tree" prog_6_method_3_code e := tab_of (by decide +kernel)
def tab_GF_path : List sT := [(0, 1, .iload_n 1, 0, [], 0, 0), (1, 3, .ifCond .lt 14, 15, [], 0, 0), (4, 1, .iload_n 1, 0, [], 0, 0), (5, 1, .aload_n 0, 0, [], 0, 0), (6, 3, .getfield 10, 0, [], 0, 0), (9, 3, .getfield 83, 0, [], 0, 0), (12, 3, .if_icmp .lt 9, 21, [], 0, 0), (15, 1, .aload_n 0, 0, [], 0, 0), (16, 1, .iconst (-1), 0, [], (-1), 0), (17, 3, .invokevirtual 60, 0, [], 0, 0), (20, 1, .ireturn, 0, [], 0, 0), (21, 1, .aload_n 0, 0, [], 0, 0), (22, 3, .getfield 10, 0, [], 0, 0), (25, 3, .getfield 114, 0, [], 0, 0), (28, 1, .iload_n 1, 0, [], 0, 0), (29, 3, .invokestatic 102, 0, [], 0, 0), (32, 1, .ireturn, 0, [], 0, 0)]
theorem tk_GF_path : ∀ e ∈ tab_GF_path, sTok "GathersAllFaults" prog_1_method_6_code e := tab_of (by decide +kernel)
def tab_GF_puts : List sT := [(0, 1, .aload_n 0, 0, [], 0, 0), (1, 3, .getfield 10, 0, [], 0, 0), (4, 1, .iload_n 1, 0, [], 0, 0), (5, 3, .invokevirtual 96, 0, [], 0, 0), (8, 1, .istore_n 3, 0, [], 0, 0), (9, 1, .iload_n 3, 0, [], 0, 0), (10, 3, .ifCond .ge 9, 19, [], 0, 0), (13, 1, .aload_n 0, 0, [], 0, 0), (14, 1, .iconst (-1), 0, [], (-1), 0), (15, 3, .invokevirtual 60, 0, [], 0, 0), (18, 1, .ireturn, 0, [], 0, 0), (19, 1, .iload_n 2, 0, [], 0, 0), (20, 3, .ifCond .ge 10, 30, [], 0, 0), (23, 1, .aload_n 0, 0, [], 0, 0), (24, 2, .bipush (-4), 0, [], (-4), 0), (26, 3, .invokevirtual 60, 0, [], 0, 0), (29, 1, .ireturn, 0, [], 0, 0), (30, 1, .iload_n 2, 0, [], 0, 0), (31, 2, .bipush 99, 0, [], 99, 0), (33, 3, .if_icmp .le 10, 43, [], 0, 0), (36, 1, .aload_n 0, 0, [], 0, 0), (37, 2, .bipush (-6), 0, [], (-6), 0), (39, 3, .invokevirtual 60, 0, [], 0, 0), (42, 1, .ireturn, 0, [], 0, 0), (43, 1, .aload_n 0, 0, [], 0, 0), (44, 3, .getfield 10, 0, [], 0, 0), (47, 3, .getfield 111, 0, [], 0, 0), (50, 1, .iload_n 3, 0, [], 0, 0), (51, 3, .invokestatic 102, 0, [], 0, 0), (54, 2, .istore 4, 0, [], 0, 0), (56, 1, .aload_n 0, 0, [], 0, 0), (57, 3, .getfield 10, 0, [], 0, 0), (60, 1, .iload_n 3, 0, [], 0, 0), (61, 1, .iconst 0, 0, [], 0, 0), (62, 1, .iload_n 2, 0, [], 0, 0), (63, 3, .invokevirtual 117, 0, [], 0, 0), (66, 2, .iload 4, 0, [], 0, 0), (68, 1, .ireturn, 0, [], 0, 0)]
theorem tk_GF_puts : ∀ e ∈ tab_GF_puts, sTok "GathersAllFaults" prog_1_method_7_code e := tab_of (by decide +kernel)
def tab_TR_fill : List sT := [(0, 1, .iload_n 1, 0, [], 0, 0), (1, 3, .ifCond .lt 11, 12, [], 0, 0), (4, 1, .iload_n 1, 0, [], 0, 0), (5, 1, .aload_n 0, 0, [], 0, 0), (6, 3, .getfield 30, 0, [], 0, 0), (9, 3, .if_icmp .lt 4, 13, [], 0, 0), (12, 1, .return_, 0, [], 0, 0), (13, 1, .aload_n 0, 0, [], 0, 0), (14, 1, .iload_n 1, 0, [], 0, 0), (15, 1, .iconst 1, 0, [], 1, 0), (16, 1, .iadd, 0, [], 0, 0), (17, 1, .aload_n 0, 0, [], 0, 0), (18, 3, .getfield 24, 0, [], 0, 0), (21, 1, .iload_n 1, 0, [], 0, 0), (22, 3, .invokestatic 38, 0, [], 0, 0), (25, 1, .iconst 1, 0, [], 1, 0), (26, 1, .isub, 0, [], 0, 0), (27, 3, .invokevirtual 46, 0, [], 0, 0), (30, 1, .aload_n 0, 0, [], 0, 0), (31, 3, .getfield 9, 0, [], 0, 0), (34, 1, .iload_n 1, 0, [], 0, 0), (35, 1, .iload_n 2, 0, [], 0, 0), (36, 3, .invokestatic 42, 0, [], 0, 0), (39, 1, .aload_n 0, 0, [], 0, 0), (40, 3, .getfield 15, 0, [], 0, 0), (43, 1, .iload_n 1, 0, [], 0, 0), (44, 1, .iload_n 3, 0, [], 0, 0), (45, 3, .invokestatic 42, 0, [], 0, 0), (48, 1, .aload_n 0, 0, [], 0, 0), (49, 3, .getfield 18, 0, [], 0, 0), (52, 1, .iload_n 1, 0, [], 0, 0), (53, 1, .iconst 0, 0, [], 0, 0), (54, 3, .invokestatic 42, 0, [], 0, 0), (57, 1, .return_, 0, [], 0, 0)]
theorem tk_TR_fill : ∀ e ∈ tab_TR_fill, sTok "GathersAllFaults$Tree" prog_6_method_7_code e := tab_of (by decide +kernel)
def tab_TR_takeOut : List sT := [(0, 1, .iload_n 2, 0, [], 0, 0), (1, 3, .ifCond .gt 4, 5, [], 0, 0), (4, 1, .return_, 0, [], 0, 0), (5, 1, .iconst 0, 0, [], 0, 0), (6, 1, .istore_n 3, 0, [], 0, 0), (7, 1, .iload_n 3, 0, [], 0, 0), (8, 1, .iload_n 1, 0, [], 0, 0), (9, 3, .if_icmp .ge 41, 50, [], 0, 0), (12, 1, .iload_n 3, 0, [], 0, 0), (13, 1, .aload_n 0, 0, [], 0, 0), (14, 3, .getfield 24, 0, [], 0, 0), (17, 1, .iload_n 3, 0, [], 0, 0), (18, 3, .invokestatic 38, 0, [], 0, 0), (21, 1, .iadd, 0, [], 0, 0), (22, 1, .iload_n 1, 0, [], 0, 0), (23, 3, .if_icmp .le 21, 44, [], 0, 0), (26, 1, .aload_n 0, 0, [], 0, 0), (27, 3, .getfield 24, 0, [], 0, 0), (30, 1, .iload_n 3, 0, [], 0, 0), (31, 1, .aload_n 0, 0, [], 0, 0), (32, 3, .getfield 24, 0, [], 0, 0), (35, 1, .iload_n 3, 0, [], 0, 0), (36, 3, .invokestatic 38, 0, [], 0, 0), (39, 1, .iload_n 2, 0, [], 0, 0), (40, 1, .isub, 0, [], 0, 0), (41, 3, .invokestatic 42, 0, [], 0, 0), (44, 3, .iinc 3 1, 0, [], 1, 0), (47, 3, .goto (-40), 7, [], 0, 0), (50, 1, .aload_n 0, 0, [], 0, 0), (51, 3, .getfield 9, 0, [], 0, 0), (54, 1, .iload_n 1, 0, [], 0, 0), (55, 1, .iload_n 2, 0, [], 0, 0), (56, 1, .iadd, 0, [], 0, 0), (57, 1, .aload_n 0, 0, [], 0, 0), (58, 3, .getfield 30, 0, [], 0, 0), (61, 1, .iload_n 2, 0, [], 0, 0), (62, 3, .invokestatic 57, 0, [], 0, 0), (65, 1, .aload_n 0, 0, [], 0, 0), (66, 3, .getfield 15, 0, [], 0, 0), (69, 1, .iload_n 1, 0, [], 0, 0), (70, 1, .iload_n 2, 0, [], 0, 0), (71, 1, .iadd, 0, [], 0, 0), (72, 1, .aload_n 0, 0, [], 0, 0), (73, 3, .getfield 30, 0, [], 0, 0), (76, 1, .iload_n 2, 0, [], 0, 0), (77, 3, .invokestatic 57, 0, [], 0, 0), (80, 1, .aload_n 0, 0, [], 0, 0), (81, 3, .getfield 18, 0, [], 0, 0), (84, 1, .iload_n 1, 0, [], 0, 0), (85, 1, .iload_n 2, 0, [], 0, 0), (86, 1, .iadd, 0, [], 0, 0), (87, 1, .aload_n 0, 0, [], 0, 0), (88, 3, .getfield 30, 0, [], 0, 0), (91, 1, .iload_n 2, 0, [], 0, 0), (92, 3, .invokestatic 57, 0, [], 0, 0), (95, 1, .aload_n 0, 0, [], 0, 0), (96, 3, .getfield 21, 0, [], 0, 0), (99, 1, .iload_n 1, 0, [], 0, 0), (100, 1, .iload_n 2, 0, [], 0, 0), (101, 1, .iadd, 0, [], 0, 0), (102, 1, .aload_n 0, 0, [], 0, 0), (103, 3, .getfield 30, 0, [], 0, 0), (106, 1, .iload_n 2, 0, [], 0, 0), (107, 3, .invokestatic 57, 0, [], 0, 0), (110, 1, .aload_n 0, 0, [], 0, 0), (111, 3, .getfield 24, 0, [], 0, 0), (114, 1, .iload_n 1, 0, [], 0, 0), (115, 1, .iload_n 2, 0, [], 0, 0), (116, 1, .iadd, 0, [], 0, 0), (117, 1, .aload_n 0, 0, [], 0, 0), (118, 3, .getfield 30, 0, [], 0, 0), (121, 1, .iload_n 2, 0, [], 0, 0), (122, 3, .invokestatic 57, 0, [], 0, 0), (125, 1, .aload_n 0, 0, [], 0, 0), (126, 3, .getfield 27, 0, [], 0, 0), (129, 1, .iload_n 1, 0, [], 0, 0), (130, 1, .iload_n 2, 0, [], 0, 0), (131, 1, .iadd, 0, [], 0, 0), (132, 1, .aload_n 0, 0, [], 0, 0), (133, 3, .getfield 30, 0, [], 0, 0), (136, 1, .iload_n 2, 0, [], 0, 0), (137, 3, .invokestatic 57, 0, [], 0, 0), (140, 1, .aload_n 0, 0, [], 0, 0), (141, 1, .dup, 0, [], 0, 0), (142, 3, .getfield 30, 0, [], 0, 0), (145, 1, .iload_n 2, 0, [], 0, 0), (146, 1, .isub, 0, [], 0, 0), (147, 3, .putfield 30, 0, [], 0, 0), (150, 1, .return_, 0, [], 0, 0)]
theorem tk_TR_takeOut : ∀ e ∈ tab_TR_takeOut, sTok "GathersAllFaults$Tree" prog_6_method_10_code e := tab_of (by decide +kernel)
def tab_GF_close : List sT := [(0, 1, .aload_n 0, 0, [], 0, 0), (1, 3, .ifnull 35, 36, [], 0, 0), (4, 1, .iload_n 3, 0, [], 0, 0), (5, 3, .ifCond .lt 31, 36, [], 0, 0), (8, 1, .iload_n 3, 0, [], 0, 0), (9, 1, .iload_n 1, 0, [], 0, 0), (10, 3, .if_icmp .gt 26, 36, [], 0, 0), (13, 1, .iload_n 1, 0, [], 0, 0), (14, 1, .iload_n 2, 0, [], 0, 0), (15, 3, .if_icmp .gt 21, 36, [], 0, 0), (18, 1, .iload_n 2, 0, [], 0, 0), (19, 1, .aload_n 0, 0, [], 0, 0), (20, 1, .arraylength, 0, [], 0, 0), (21, 3, .if_icmp .gt 15, 36, [], 0, 0), (24, 1, .aload_n 0, 0, [], 0, 0), (25, 1, .iload_n 1, 0, [], 0, 0), (26, 1, .aload_n 0, 0, [], 0, 0), (27, 1, .iload_n 1, 0, [], 0, 0), (28, 1, .iload_n 3, 0, [], 0, 0), (29, 1, .isub, 0, [], 0, 0), (30, 1, .iload_n 2, 0, [], 0, 0), (31, 1, .iload_n 1, 0, [], 0, 0), (32, 1, .isub, 0, [], 0, 0), (33, 3, .invokestatic 220, 0, [], 0, 0), (36, 1, .return_, 0, [], 0, 0)]
theorem tk_GF_close : ∀ e ∈ tab_GF_close, sTok "GathersAllFaults" prog_1_method_51_code e := tab_of (by decide +kernel)
def tab_GF_drops : List sT := [(0, 1, .aload_n 0, 0, [], 0, 0), (1, 3, .getfield 10, 0, [], 0, 0), (4, 1, .iload_n 1, 0, [], 0, 0), (5, 3, .invokevirtual 96, 0, [], 0, 0), (8, 1, .istore_n 2, 0, [], 0, 0), (9, 1, .iload_n 2, 0, [], 0, 0), (10, 3, .ifCond .ge 9, 19, [], 0, 0), (13, 1, .aload_n 0, 0, [], 0, 0), (14, 1, .iconst (-1), 0, [], (-1), 0), (15, 3, .invokevirtual 60, 0, [], 0, 0), (18, 1, .ireturn, 0, [], 0, 0), (19, 1, .aload_n 0, 0, [], 0, 0), (20, 3, .getfield 10, 0, [], 0, 0), (23, 3, .getfield 111, 0, [], 0, 0), (26, 1, .iload_n 2, 0, [], 0, 0), (27, 3, .invokestatic 102, 0, [], 0, 0), (30, 1, .istore_n 3, 0, [], 0, 0), (31, 1, .aload_n 0, 0, [], 0, 0), (32, 3, .getfield 10, 0, [], 0, 0), (35, 1, .iload_n 2, 0, [], 0, 0), (36, 1, .iconst 1, 0, [], 1, 0), (37, 1, .iconst 0, 0, [], 0, 0), (38, 3, .invokevirtual 117, 0, [], 0, 0), (41, 1, .iload_n 3, 0, [], 0, 0), (42, 1, .ireturn, 0, [], 0, 0)]
theorem tk_GF_drops : ∀ e ∈ tab_GF_drops, sTok "GathersAllFaults" prog_1_method_8_code e := tab_of (by decide +kernel)
def tab_GF_faults : List sT := [(0, 1, .aload_n 0, 0, [], 0, 0), (1, 3, .getfield 22, 0, [], 0, 0), (4, 1, .aload_n 0, 0, [], 0, 0), (5, 3, .getfield 10, 0, [], 0, 0), (8, 3, .invokevirtual 121, 0, [], 0, 0), (11, 1, .ireturn, 0, [], 0, 0)]
theorem tk_GF_faults : ∀ e ∈ tab_GF_faults, sTok "GathersAllFaults" prog_1_method_9_code e := tab_of (by decide +kernel)
def tab_GA_gather : List sT := [(0, 1, .aload_n 1, 0, [], 0, 0), (1, 3, .ifnull 8, 9, [], 0, 0), (4, 1, .aload_n 0, 0, [], 0, 0), (5, 1, .aload_n 1, 0, [], 0, 0), (6, 3, .putfield 21, 0, [], 0, 0), (9, 1, .aload_n 0, 0, [], 0, 0), (10, 1, .iconst 0, 0, [], 0, 0), (11, 3, .putfield 29, 0, [], 0, 0), (14, 1, .aload_n 0, 0, [], 0, 0), (15, 1, .iconst 0, 0, [], 0, 0), (16, 3, .putfield 33, 0, [], 0, 0), (19, 1, .aload_n 0, 0, [], 0, 0), (20, 1, .iconst 0, 0, [], 0, 0), (21, 1, .iconst 0, 0, [], 0, 0), (22, 1, .iconst 0, 0, [], 0, 0), (23, 3, .invokevirtual 36, 0, [], 0, 0), (26, 1, .aload_n 0, 0, [], 0, 0), (27, 3, .getfield 29, 0, [], 0, 0), (30, 1, .ireturn, 0, [], 0, 0)]
theorem tk_GA_gather : ∀ e ∈ tab_GA_gather, sTok "GathersAllFaults$Gatherer" prog_3_method_2_code e := tab_of (by decide +kernel)
def tab_GA_look : List sT := [(0, 1, .aload_n 0, 0, [], 0, 0), (1, 1, .iload_n 1, 0, [], 0, 0), (2, 1, .iload_n 2, 0, [], 0, 0), (3, 3, .invokevirtual 56, 0, [], 0, 0), (6, 2, .istore 4, 0, [], 0, 0), (8, 1, .iload_n 3, 0, [], 0, 0), (9, 3, .sipush 128, 0, [], 128, 0), (12, 3, .if_icmp .gt 8, 20, [], 0, 0), (15, 2, .iload 4, 0, [], 0, 0), (17, 3, .ifCond .ge 4, 21, [], 0, 0), (20, 1, .return_, 0, [], 0, 0), (21, 1, .aload_n 0, 0, [], 0, 0), (22, 3, .getfield 29, 0, [], 0, 0), (25, 2, .istore 5, 0, [], 0, 0), (27, 1, .aload_n 0, 0, [], 0, 0), (28, 3, .getfield 33, 0, [], 0, 0), (31, 2, .istore 6, 0, [], 0, 0), (33, 1, .aload_n 0, 0, [], 0, 0), (34, 3, .getfield 12, 0, [], 0, 0), (37, 3, .getfield 60, 0, [], 0, 0), (40, 2, .iload 4, 0, [], 0, 0), (42, 3, .invokestatic 40, 0, [], 0, 0), (45, 51, .lookupswitch 180 #[(35, 51), (38, 83), (47, 105), (64, 72), (123, 61)], 225, [(35, 96), (38, 128), (47, 150), (64, 117), (123, 106)], 0, 0), (96, 1, .aload_n 0, 0, [], 0, 0), (97, 2, .iload 4, 0, [], 0, 0), (99, 1, .iload_n 2, 0, [], 0, 0), (100, 3, .invokevirtual 63, 0, [], 0, 0), (103, 3, .goto 122, 225, [], 0, 0), (106, 1, .aload_n 0, 0, [], 0, 0), (107, 2, .iload 4, 0, [], 0, 0), (109, 1, .iload_n 2, 0, [], 0, 0), (110, 1, .iload_n 3, 0, [], 0, 0), (111, 3, .invokevirtual 67, 0, [], 0, 0), (114, 3, .goto 111, 225, [], 0, 0), (117, 1, .aload_n 0, 0, [], 0, 0), (118, 2, .iload 4, 0, [], 0, 0), (120, 1, .iload_n 2, 0, [], 0, 0), (121, 1, .iload_n 3, 0, [], 0, 0), (122, 3, .invokevirtual 70, 0, [], 0, 0), (125, 3, .goto 100, 225, [], 0, 0), (128, 1, .aload_n 0, 0, [], 0, 0), (129, 2, .iload 4, 0, [], 0, 0), (131, 1, .iconst 1, 0, [], 1, 0), (132, 1, .iadd, 0, [], 0, 0), (133, 1, .iload_n 2, 0, [], 0, 0), (134, 1, .iload_n 3, 0, [], 0, 0), (135, 1, .iconst 1, 0, [], 1, 0), (136, 1, .iadd, 0, [], 0, 0), (137, 3, .invokevirtual 36, 0, [], 0, 0), (140, 1, .aload_n 0, 0, [], 0, 0), (141, 1, .iload_n 2, 0, [], 0, 0), (142, 2, .iload 5, 0, [], 0, 0), (144, 3, .invokevirtual 73, 0, [], 0, 0), (147, 3, .goto 78, 225, [], 0, 0), (150, 1, .aload_n 0, 0, [], 0, 0), (151, 2, .iload 4, 0, [], 0, 0), (153, 1, .iconst 1, 0, [], 1, 0), (154, 1, .iadd, 0, [], 0, 0), (155, 1, .iload_n 2, 0, [], 0, 0), (156, 1, .iload_n 3, 0, [], 0, 0), (157, 1, .iconst 1, 0, [], 1, 0), (158, 1, .iadd, 0, [], 0, 0), (159, 3, .invokevirtual 36, 0, [], 0, 0), (162, 1, .aload_n 0, 0, [], 0, 0), (163, 3, .getfield 29, 0, [], 0, 0), (166, 2, .iload 5, 0, [], 0, 0), (168, 3, .if_icmp .le 57, 225, [], 0, 0), (171, 1, .aload_n 0, 0, [], 0, 0), (172, 3, .getfield 29, 0, [], 0, 0), (175, 2, .istore 7, 0, [], 0, 0), (177, 1, .aload_n 0, 0, [], 0, 0), (178, 3, .getfield 33, 0, [], 0, 0), (181, 2, .istore 8, 0, [], 0, 0), (183, 1, .aload_n 0, 0, [], 0, 0), (184, 2, .iload 4, 0, [], 0, 0), (186, 1, .iconst 1, 0, [], 1, 0), (187, 1, .iadd, 0, [], 0, 0), (188, 1, .aload_n 0, 0, [], 0, 0), (189, 3, .getfield 12, 0, [], 0, 0), (192, 3, .getfield 76, 0, [], 0, 0), (195, 2, .iload 4, 0, [], 0, 0), (197, 1, .iconst 1, 0, [], 1, 0), (198, 1, .iadd, 0, [], 0, 0), (199, 3, .invokestatic 40, 0, [], 0, 0), (202, 1, .iadd, 0, [], 0, 0), (203, 1, .iload_n 2, 0, [], 0, 0), (204, 1, .iload_n 3, 0, [], 0, 0), (205, 1, .iconst 1, 0, [], 1, 0), (206, 1, .iadd, 0, [], 0, 0), (207, 3, .invokevirtual 36, 0, [], 0, 0), (210, 1, .aload_n 0, 0, [], 0, 0), (211, 2, .iload 5, 0, [], 0, 0), (213, 2, .iload 7, 0, [], 0, 0), (215, 2, .iload 6, 0, [], 0, 0), (217, 2, .iload 8, 0, [], 0, 0), (219, 3, .invokevirtual 79, 0, [], 0, 0), (222, 3, .goto 3, 225, [], 0, 0), (225, 1, .return_, 0, [], 0, 0)]
theorem tk_GA_look : ∀ e ∈ tab_GA_look, sTok "GathersAllFaults$Gatherer" prog_3_method_9_code e := tab_of (by decide +kernel)
def tab_GA_deciderOf : List sT := [(0, 1, .iload_n 1, 0, [], 0, 0), (1, 1, .istore_n 3, 0, [], 0, 0), (2, 1, .iconst 0, 0, [], 0, 0), (3, 2, .istore 4, 0, [], 0, 0), (5, 2, .iload 4, 0, [], 0, 0), (7, 2, .bipush 48, 0, [], 48, 0), (9, 3, .if_icmp .ge 96, 105, [], 0, 0), (12, 1, .aload_n 0, 0, [], 0, 0), (13, 3, .getfield 12, 0, [], 0, 0), (16, 3, .getfield 60, 0, [], 0, 0), (19, 1, .iload_n 3, 0, [], 0, 0), (20, 3, .invokestatic 40, 0, [], 0, 0), (23, 2, .istore 5, 0, [], 0, 0), (25, 2, .iload 5, 0, [], 0, 0), (27, 2, .bipush 94, 0, [], 94, 0), (29, 3, .if_icmp .ne 8, 37, [], 0, 0), (32, 1, .iconst 0, 0, [], 0, 0), (33, 1, .istore_n 3, 0, [], 0, 0), (34, 3, .goto 65, 99, [], 0, 0), (37, 2, .iload 5, 0, [], 0, 0), (39, 2, .bipush 33, 0, [], 33, 0), (41, 3, .if_icmp .eq 12, 53, [], 0, 0), (44, 2, .iload 5, 0, [], 0, 0), (46, 2, .bipush 126, 0, [], 126, 0), (48, 3, .if_icmp .eq 5, 53, [], 0, 0), (51, 1, .iload_n 3, 0, [], 0, 0), (52, 1, .ireturn, 0, [], 0, 0), (53, 1, .aload_n 0, 0, [], 0, 0), (54, 3, .getfield 21, 0, [], 0, 0), (57, 3, .getfield 83, 0, [], 0, 0), (60, 1, .iload_n 2, 0, [], 0, 0), (61, 3, .invokestatic 40, 0, [], 0, 0), (64, 1, .iconst 1, 0, [], 1, 0), (65, 3, .if_icmp .eq 9, 74, [], 0, 0), (68, 3, .iinc 3 1, 0, [], 1, 0), (71, 3, .goto 28, 99, [], 0, 0), (74, 2, .iload 5, 0, [], 0, 0), (76, 2, .bipush 33, 0, [], 33, 0), (78, 3, .if_icmp .ne 19, 97, [], 0, 0), (81, 1, .aload_n 0, 0, [], 0, 0), (82, 1, .aload_n 0, 0, [], 0, 0), (83, 3, .getfield 21, 0, [], 0, 0), (86, 3, .getfield 86, 0, [], 0, 0), (89, 1, .iload_n 2, 0, [], 0, 0), (90, 3, .invokestatic 40, 0, [], 0, 0), (93, 1, .iconst 4, 0, [], 4, 0), (94, 3, .invokevirtual 89, 0, [], 0, 0), (97, 1, .iconst (-1), 0, [], (-1), 0), (98, 1, .ireturn, 0, [], 0, 0), (99, 3, .iinc 4 1, 0, [], 1, 0), (102, 3, .goto (-97), 5, [], 0, 0), (105, 1, .iconst (-1), 0, [], (-1), 0), (106, 1, .ireturn, 0, [], 0, 0)]
theorem tk_GA_deciderOf : ∀ e ∈ tab_GA_deciderOf, sTok "GathersAllFaults$Gatherer" prog_3_method_10_code e := tab_of (by decide +kernel)
def tab_GA_add : List sT := [(0, 1, .aload_n 0, 0, [], 0, 0), (1, 3, .getfield 29, 0, [], 0, 0), (4, 3, .sipush 6144, 0, [], 6144, 0), (7, 3, .if_icmp .ge 30, 37, [], 0, 0), (10, 1, .aload_n 0, 0, [], 0, 0), (11, 3, .getfield 25, 0, [], 0, 0), (14, 1, .aload_n 0, 0, [], 0, 0), (15, 3, .getfield 29, 0, [], 0, 0), (18, 2, .bipush 100, 0, [], 100, 0), (20, 1, .iload_n 1, 0, [], 0, 0), (21, 1, .imul, 0, [], 0, 0), (22, 1, .iload_n 2, 0, [], 0, 0), (23, 1, .iadd, 0, [], 0, 0), (24, 3, .invokestatic 52, 0, [], 0, 0), (27, 1, .aload_n 0, 0, [], 0, 0), (28, 1, .dup, 0, [], 0, 0), (29, 3, .getfield 29, 0, [], 0, 0), (32, 1, .iconst 1, 0, [], 1, 0), (33, 1, .iadd, 0, [], 0, 0), (34, 3, .putfield 29, 0, [], 0, 0), (37, 1, .return_, 0, [], 0, 0)]
theorem tk_GA_add : ∀ e ∈ tab_GA_add, sTok "GathersAllFaults$Gatherer" prog_3_method_8_code e := tab_of (by decide +kernel)
def tab_GA_lookAtNumber : List sT := [(0, 1, .aload_n 0, 0, [], 0, 0), (1, 3, .getfield 21, 0, [], 0, 0), (4, 3, .getfield 86, 0, [], 0, 0), (7, 1, .iload_n 2, 0, [], 0, 0), (8, 3, .invokestatic 40, 0, [], 0, 0), (11, 1, .istore_n 3, 0, [], 0, 0), (12, 1, .aload_n 0, 0, [], 0, 0), (13, 3, .getfield 21, 0, [], 0, 0), (16, 3, .getfield 92, 0, [], 0, 0), (19, 1, .iload_n 2, 0, [], 0, 0), (20, 3, .invokestatic 40, 0, [], 0, 0), (23, 2, .istore 4, 0, [], 0, 0), (25, 1, .aload_n 0, 0, [], 0, 0), (26, 3, .getfield 21, 0, [], 0, 0), (29, 3, .getfield 83, 0, [], 0, 0), (32, 1, .iload_n 2, 0, [], 0, 0), (33, 3, .invokestatic 40, 0, [], 0, 0), (36, 3, .ifCond .eq 12, 48, [], 0, 0), (39, 1, .aload_n 0, 0, [], 0, 0), (40, 1, .iload_n 3, 0, [], 0, 0), (41, 1, .iconst 1, 0, [], 1, 0), (42, 3, .invokevirtual 89, 0, [], 0, 0), (45, 3, .goto 50, 95, [], 0, 0), (48, 2, .iload 4, 0, [], 0, 0), (50, 1, .aload_n 0, 0, [], 0, 0), (51, 3, .getfield 12, 0, [], 0, 0), (54, 3, .getfield 95, 0, [], 0, 0), (57, 1, .iload_n 1, 0, [], 0, 0), (58, 3, .invokestatic 40, 0, [], 0, 0), (61, 3, .if_icmp .ge 12, 73, [], 0, 0), (64, 1, .aload_n 0, 0, [], 0, 0), (65, 1, .iload_n 3, 0, [], 0, 0), (66, 1, .iconst 2, 0, [], 2, 0), (67, 3, .invokevirtual 89, 0, [], 0, 0), (70, 3, .goto 25, 95, [], 0, 0), (73, 2, .iload 4, 0, [], 0, 0), (75, 1, .aload_n 0, 0, [], 0, 0), (76, 3, .getfield 12, 0, [], 0, 0), (79, 3, .getfield 98, 0, [], 0, 0), (82, 1, .iload_n 1, 0, [], 0, 0), (83, 3, .invokestatic 40, 0, [], 0, 0), (86, 3, .if_icmp .le 9, 95, [], 0, 0), (89, 1, .aload_n 0, 0, [], 0, 0), (90, 1, .iload_n 3, 0, [], 0, 0), (91, 1, .iconst 3, 0, [], 3, 0), (92, 3, .invokevirtual 89, 0, [], 0, 0), (95, 1, .return_, 0, [], 0, 0)]
theorem tk_GA_lookAtNumber : ∀ e ∈ tab_GA_lookAtNumber, sTok "GathersAllFaults$Gatherer" prog_3_method_11_code e := tab_of (by decide +kernel)
def tab_GA_lookAtRecord : List sT := [(0, 1, .aload_n 0, 0, [], 0, 0), (1, 3, .getfield 21, 0, [], 0, 0), (4, 3, .getfield 83, 0, [], 0, 0), (7, 1, .iload_n 2, 0, [], 0, 0), (8, 3, .invokestatic 40, 0, [], 0, 0), (11, 1, .iconst 2, 0, [], 2, 0), (12, 3, .if_icmp .eq 20, 32, [], 0, 0), (15, 1, .aload_n 0, 0, [], 0, 0), (16, 1, .aload_n 0, 0, [], 0, 0), (17, 3, .getfield 21, 0, [], 0, 0), (20, 3, .getfield 86, 0, [], 0, 0), (23, 1, .iload_n 2, 0, [], 0, 0), (24, 3, .invokestatic 40, 0, [], 0, 0), (27, 1, .iconst 5, 0, [], 5, 0), (28, 3, .invokevirtual 89, 0, [], 0, 0), (31, 1, .return_, 0, [], 0, 0), (32, 1, .aload_n 0, 0, [], 0, 0), (33, 3, .getfield 29, 0, [], 0, 0), (36, 2, .istore 4, 0, [], 0, 0), (38, 1, .aload_n 0, 0, [], 0, 0), (39, 1, .iload_n 1, 0, [], 0, 0), (40, 1, .iload_n 2, 0, [], 0, 0), (41, 1, .iload_n 3, 0, [], 0, 0), (42, 3, .invokevirtual 105, 0, [], 0, 0), (45, 1, .aload_n 0, 0, [], 0, 0), (46, 1, .iload_n 1, 0, [], 0, 0), (47, 1, .iload_n 2, 0, [], 0, 0), (48, 3, .invokevirtual 108, 0, [], 0, 0), (51, 1, .aload_n 0, 0, [], 0, 0), (52, 3, .getfield 12, 0, [], 0, 0), (55, 3, .getfield 111, 0, [], 0, 0), (58, 1, .iload_n 1, 0, [], 0, 0), (59, 3, .invokestatic 40, 0, [], 0, 0), (62, 2, .istore 5, 0, [], 0, 0), (64, 1, .aload_n 0, 0, [], 0, 0), (65, 3, .getfield 12, 0, [], 0, 0), (68, 3, .getfield 114, 0, [], 0, 0), (71, 1, .iload_n 1, 0, [], 0, 0), (72, 3, .invokestatic 40, 0, [], 0, 0), (75, 2, .istore 6, 0, [], 0, 0), (77, 1, .iconst 0, 0, [], 0, 0), (78, 2, .istore 7, 0, [], 0, 0), (80, 2, .iload 7, 0, [], 0, 0), (82, 2, .iload 6, 0, [], 0, 0), (84, 3, .if_icmp .ge 21, 105, [], 0, 0), (87, 1, .aload_n 0, 0, [], 0, 0), (88, 2, .iload 5, 0, [], 0, 0), (90, 2, .iload 7, 0, [], 0, 0), (92, 1, .iadd, 0, [], 0, 0), (93, 1, .iload_n 2, 0, [], 0, 0), (94, 2, .iload 4, 0, [], 0, 0), (96, 3, .invokevirtual 117, 0, [], 0, 0), (99, 3, .iinc 7 1, 0, [], 1, 0), (102, 3, .goto (-22), 80, [], 0, 0), (105, 1, .return_, 0, [], 0, 0)]
theorem tk_GA_lookAtRecord : ∀ e ∈ tab_GA_lookAtRecord, sTok "GathersAllFaults$Gatherer" prog_3_method_13_code e := tab_of (by decide +kernel)
def tab_GA_lookAtFields : List sT := [(0, 1, .aload_n 0, 0, [], 0, 0), (1, 3, .getfield 12, 0, [], 0, 0), (4, 3, .getfield 120, 0, [], 0, 0), (7, 1, .iload_n 1, 0, [], 0, 0), (8, 3, .invokestatic 40, 0, [], 0, 0), (11, 2, .istore 4, 0, [], 0, 0), (13, 1, .iload_n 1, 0, [], 0, 0), (14, 1, .iconst 1, 0, [], 1, 0), (15, 1, .iadd, 0, [], 0, 0), (16, 2, .istore 5, 0, [], 0, 0), (18, 1, .iconst 0, 0, [], 0, 0), (19, 2, .istore 6, 0, [], 0, 0), (21, 2, .iload 6, 0, [], 0, 0), (23, 2, .iload 4, 0, [], 0, 0), (25, 3, .if_icmp .ge 109, 134, [], 0, 0), (28, 1, .aload_n 0, 0, [], 0, 0), (29, 3, .getfield 12, 0, [], 0, 0), (32, 3, .getfield 123, 0, [], 0, 0), (35, 2, .iload 5, 0, [], 0, 0), (37, 3, .invokestatic 40, 0, [], 0, 0), (40, 2, .istore 7, 0, [], 0, 0), (42, 1, .aload_n 0, 0, [], 0, 0), (43, 3, .getfield 21, 0, [], 0, 0), (46, 1, .iload_n 2, 0, [], 0, 0), (47, 2, .iload 7, 0, [], 0, 0), (49, 3, .invokevirtual 126, 0, [], 0, 0), (52, 2, .istore 8, 0, [], 0, 0), (54, 2, .iload 8, 0, [], 0, 0), (56, 3, .ifCond .lt 17, 73, [], 0, 0), (59, 1, .aload_n 0, 0, [], 0, 0), (60, 2, .iload 5, 0, [], 0, 0), (62, 2, .iload 8, 0, [], 0, 0), (64, 1, .iload_n 3, 0, [], 0, 0), (65, 1, .iconst 1, 0, [], 1, 0), (66, 1, .iadd, 0, [], 0, 0), (67, 3, .invokevirtual 36, 0, [], 0, 0), (70, 3, .goto 41, 111, [], 0, 0), (73, 1, .aload_n 0, 0, [], 0, 0), (74, 3, .getfield 12, 0, [], 0, 0), (77, 3, .getfield 129, 0, [], 0, 0), (80, 2, .iload 5, 0, [], 0, 0), (82, 3, .invokestatic 40, 0, [], 0, 0), (85, 3, .ifCond .ne 26, 111, [], 0, 0), (88, 1, .aload_n 0, 0, [], 0, 0), (89, 2, .bipush 10, 0, [], 10, 0), (91, 1, .aload_n 0, 0, [], 0, 0), (92, 3, .getfield 21, 0, [], 0, 0), (95, 3, .getfield 86, 0, [], 0, 0), (98, 1, .iload_n 2, 0, [], 0, 0), (99, 3, .invokestatic 40, 0, [], 0, 0), (102, 1, .imul, 0, [], 0, 0), (103, 2, .iload 7, 0, [], 0, 0), (105, 1, .iadd, 0, [], 0, 0), (106, 2, .bipush 6, 0, [], 6, 0), (108, 3, .invokevirtual 89, 0, [], 0, 0), (111, 2, .iload 5, 0, [], 0, 0), (113, 1, .aload_n 0, 0, [], 0, 0), (114, 3, .getfield 12, 0, [], 0, 0), (117, 3, .getfield 76, 0, [], 0, 0), (120, 2, .iload 5, 0, [], 0, 0), (122, 3, .invokestatic 40, 0, [], 0, 0), (125, 1, .iadd, 0, [], 0, 0), (126, 2, .istore 5, 0, [], 0, 0), (128, 3, .iinc 6 1, 0, [], 1, 0), (131, 3, .goto (-110), 21, [], 0, 0), (134, 1, .return_, 0, [], 0, 0)]
theorem tk_GA_lookAtFields : ∀ e ∈ tab_GA_lookAtFields, sTok "GathersAllFaults$Gatherer" prog_3_method_14_code e := tab_of (by decide +kernel)
def tab_GA_lookForStrangers : List sT := [(0, 1, .aload_n 0, 0, [], 0, 0), (1, 3, .getfield 21, 0, [], 0, 0), (4, 3, .getfield 101, 0, [], 0, 0), (7, 1, .iload_n 2, 0, [], 0, 0), (8, 3, .invokestatic 40, 0, [], 0, 0), (11, 1, .istore_n 3, 0, [], 0, 0), (12, 1, .iload_n 2, 0, [], 0, 0), (13, 1, .iconst 1, 0, [], 1, 0), (14, 1, .iadd, 0, [], 0, 0), (15, 2, .istore 4, 0, [], 0, 0), (17, 1, .iconst 0, 0, [], 0, 0), (18, 2, .istore 5, 0, [], 0, 0), (20, 2, .iload 5, 0, [], 0, 0), (22, 1, .iload_n 3, 0, [], 0, 0), (23, 3, .if_icmp .ge 67, 90, [], 0, 0), (26, 1, .aload_n 0, 0, [], 0, 0), (27, 3, .getfield 12, 0, [], 0, 0), (30, 1, .iload_n 1, 0, [], 0, 0), (31, 1, .aload_n 0, 0, [], 0, 0), (32, 3, .getfield 21, 0, [], 0, 0), (35, 3, .getfield 132, 0, [], 0, 0), (38, 2, .iload 4, 0, [], 0, 0), (40, 3, .invokestatic 40, 0, [], 0, 0), (43, 3, .invokevirtual 133, 0, [], 0, 0), (46, 3, .ifCond .ne 21, 67, [], 0, 0), (49, 1, .aload_n 0, 0, [], 0, 0), (50, 1, .aload_n 0, 0, [], 0, 0), (51, 3, .getfield 21, 0, [], 0, 0), (54, 3, .getfield 86, 0, [], 0, 0), (57, 2, .iload 4, 0, [], 0, 0), (59, 3, .invokestatic 40, 0, [], 0, 0), (62, 2, .bipush 7, 0, [], 7, 0), (64, 3, .invokevirtual 89, 0, [], 0, 0), (67, 2, .iload 4, 0, [], 0, 0), (69, 1, .aload_n 0, 0, [], 0, 0), (70, 3, .getfield 21, 0, [], 0, 0), (73, 3, .getfield 104, 0, [], 0, 0), (76, 2, .iload 4, 0, [], 0, 0), (78, 3, .invokestatic 40, 0, [], 0, 0), (81, 1, .iadd, 0, [], 0, 0), (82, 2, .istore 4, 0, [], 0, 0), (84, 3, .iinc 5 1, 0, [], 1, 0), (87, 3, .goto (-67), 20, [], 0, 0), (90, 1, .return_, 0, [], 0, 0)]
theorem tk_GA_lookForStrangers : ∀ e ∈ tab_GA_lookForStrangers, sTok "GathersAllFaults$Gatherer" prog_3_method_15_code e := tab_of (by decide +kernel)
def tab_GA_lookAtDependent : List sT := [(0, 1, .aload_n 0, 0, [], 0, 0), (1, 3, .getfield 21, 0, [], 0, 0), (4, 1, .iload_n 2, 0, [], 0, 0), (5, 1, .aload_n 0, 0, [], 0, 0), (6, 3, .getfield 12, 0, [], 0, 0), (9, 3, .getfield 136, 0, [], 0, 0), (12, 1, .iload_n 1, 0, [], 0, 0), (13, 3, .invokestatic 40, 0, [], 0, 0), (16, 3, .invokevirtual 126, 0, [], 0, 0), (19, 2, .istore 4, 0, [], 0, 0), (21, 1, .aload_n 0, 0, [], 0, 0), (22, 3, .getfield 21, 0, [], 0, 0), (25, 1, .iload_n 2, 0, [], 0, 0), (26, 1, .aload_n 0, 0, [], 0, 0), (27, 3, .getfield 12, 0, [], 0, 0), (30, 3, .getfield 139, 0, [], 0, 0), (33, 1, .iload_n 1, 0, [], 0, 0), (34, 3, .invokestatic 40, 0, [], 0, 0), (37, 3, .invokevirtual 126, 0, [], 0, 0), (40, 2, .istore 5, 0, [], 0, 0), (42, 2, .iload 4, 0, [], 0, 0), (44, 3, .ifCond .lt 48, 92, [], 0, 0), (47, 2, .iload 5, 0, [], 0, 0), (49, 3, .ifCond .lt 43, 92, [], 0, 0), (52, 1, .aload_n 0, 0, [], 0, 0), (53, 1, .aload_n 0, 0, [], 0, 0), (54, 3, .getfield 21, 0, [], 0, 0), (57, 3, .getfield 86, 0, [], 0, 0), (60, 2, .iload 4, 0, [], 0, 0), (62, 3, .invokestatic 40, 0, [], 0, 0), (65, 1, .iload_n 3, 0, [], 0, 0), (66, 3, .invokevirtual 142, 0, [], 0, 0), (69, 3, .ifCond .gt 23, 92, [], 0, 0), (72, 1, .aload_n 0, 0, [], 0, 0), (73, 1, .aload_n 0, 0, [], 0, 0), (74, 3, .getfield 21, 0, [], 0, 0), (77, 3, .getfield 86, 0, [], 0, 0), (80, 2, .iload 5, 0, [], 0, 0), (82, 3, .invokestatic 40, 0, [], 0, 0), (85, 1, .iload_n 3, 0, [], 0, 0), (86, 3, .invokevirtual 142, 0, [], 0, 0), (89, 3, .ifCond .le 16, 105, [], 0, 0), (92, 1, .aload_n 0, 0, [], 0, 0), (93, 1, .dup, 0, [], 0, 0), (94, 3, .getfield 33, 0, [], 0, 0), (97, 1, .iconst 1, 0, [], 1, 0), (98, 1, .iadd, 0, [], 0, 0), (99, 3, .putfield 33, 0, [], 0, 0), (102, 3, .goto 87, 189, [], 0, 0), (105, 1, .aload_n 0, 0, [], 0, 0), (106, 3, .getfield 12, 0, [], 0, 0), (109, 3, .getfield 145, 0, [], 0, 0), (112, 1, .iload_n 1, 0, [], 0, 0), (113, 3, .invokestatic 40, 0, [], 0, 0), (116, 2, .bipush 60, 0, [], 60, 0), (118, 3, .if_icmp .ne 38, 156, [], 0, 0), (121, 1, .aload_n 0, 0, [], 0, 0), (122, 3, .getfield 21, 0, [], 0, 0), (125, 2, .iload 4, 0, [], 0, 0), (127, 2, .iload 5, 0, [], 0, 0), (129, 3, .invokevirtual 148, 0, [], 0, 0), (132, 3, .ifCond .ne 57, 189, [], 0, 0), (135, 1, .aload_n 0, 0, [], 0, 0), (136, 1, .aload_n 0, 0, [], 0, 0), (137, 3, .getfield 21, 0, [], 0, 0), (140, 3, .getfield 86, 0, [], 0, 0), (143, 2, .iload 5, 0, [], 0, 0), (145, 3, .invokestatic 40, 0, [], 0, 0), (148, 2, .bipush 8, 0, [], 8, 0), (150, 3, .invokevirtual 89, 0, [], 0, 0), (153, 3, .goto 36, 189, [], 0, 0), (156, 1, .aload_n 0, 0, [], 0, 0), (157, 3, .getfield 21, 0, [], 0, 0), (160, 2, .iload 4, 0, [], 0, 0), (162, 2, .iload 5, 0, [], 0, 0), (164, 1, .iconst 0, 0, [], 0, 0), (165, 3, .invokevirtual 151, 0, [], 0, 0), (168, 3, .ifCond .ne 21, 189, [], 0, 0), (171, 1, .aload_n 0, 0, [], 0, 0), (172, 1, .aload_n 0, 0, [], 0, 0), (173, 3, .getfield 21, 0, [], 0, 0), (176, 3, .getfield 86, 0, [], 0, 0), (179, 2, .iload 5, 0, [], 0, 0), (181, 3, .invokestatic 40, 0, [], 0, 0), (184, 2, .bipush 9, 0, [], 9, 0), (186, 3, .invokevirtual 89, 0, [], 0, 0), (189, 1, .return_, 0, [], 0, 0)]
theorem tk_GA_lookAtDependent : ∀ e ∈ tab_GA_lookAtDependent, sTok "GathersAllFaults$Gatherer" prog_3_method_16_code e := tab_of (by decide +kernel)
def tab_GA_countBelow : List sT := [(0, 1, .iconst 0, 0, [], 0, 0), (1, 1, .istore_n 3, 0, [], 0, 0), (2, 1, .iload_n 2, 0, [], 0, 0), (3, 2, .istore 4, 0, [], 0, 0), (5, 2, .iload 4, 0, [], 0, 0), (7, 1, .aload_n 0, 0, [], 0, 0), (8, 3, .getfield 29, 0, [], 0, 0), (11, 3, .if_icmp .ge 31, 42, [], 0, 0), (14, 1, .aload_n 0, 0, [], 0, 0), (15, 3, .getfield 25, 0, [], 0, 0), (18, 2, .iload 4, 0, [], 0, 0), (20, 3, .invokestatic 40, 0, [], 0, 0), (23, 2, .bipush 100, 0, [], 100, 0), (25, 1, .idiv, 0, [], 0, 0), (26, 1, .iload_n 1, 0, [], 0, 0), (27, 3, .invokestatic 48, 0, [], 0, 0), (30, 3, .ifCond .eq 6, 36, [], 0, 0), (33, 3, .iinc 3 1, 0, [], 1, 0), (36, 3, .iinc 4 1, 0, [], 1, 0), (39, 3, .goto (-34), 5, [], 0, 0), (42, 1, .iload_n 3, 0, [], 0, 0), (43, 1, .ireturn, 0, [], 0, 0)]
theorem tk_GA_countBelow : ∀ e ∈ tab_GA_countBelow, sTok "GathersAllFaults$Gatherer" prog_3_method_6_code e := tab_of (by decide +kernel)
def tab_GA_goesOnFrom : List sT := [(0, 1, .iload_n 0, 0, [], 0, 0), (1, 1, .istore_n 2, 0, [], 0, 0), (2, 1, .iconst 0, 0, [], 0, 0), (3, 1, .istore_n 3, 0, [], 0, 0), (4, 1, .iload_n 3, 0, [], 0, 0), (5, 1, .iconst 5, 0, [], 5, 0), (6, 3, .if_icmp .gt 19, 25, [], 0, 0), (9, 1, .iload_n 2, 0, [], 0, 0), (10, 1, .iload_n 1, 0, [], 0, 0), (11, 3, .if_icmp .le 14, 25, [], 0, 0), (14, 1, .iload_n 2, 0, [], 0, 0), (15, 2, .bipush 10, 0, [], 10, 0), (17, 1, .idiv, 0, [], 0, 0), (18, 1, .istore_n 2, 0, [], 0, 0), (19, 3, .iinc 3 1, 0, [], 1, 0), (22, 3, .goto (-18), 4, [], 0, 0), (25, 1, .iload_n 2, 0, [], 0, 0), (26, 1, .iload_n 1, 0, [], 0, 0), (27, 3, .if_icmp .ne 7, 34, [], 0, 0), (30, 1, .iconst 1, 0, [], 1, 0), (31, 3, .goto 4, 35, [], 0, 0), (34, 1, .iconst 0, 0, [], 0, 0), (35, 1, .ireturn, 0, [], 0, 0)]
theorem tk_GA_goesOnFrom : ∀ e ∈ tab_GA_goesOnFrom, sTok "GathersAllFaults$Gatherer" prog_3_method_7_code e := tab_of (by decide +kernel)
def tab_TR_less : List sT := [(0, 1, .aload_n 0, 0, [], 0, 0), (1, 3, .getfield 9, 0, [], 0, 0), (4, 1, .iload_n 1, 0, [], 0, 0), (5, 3, .invokestatic 38, 0, [], 0, 0), (8, 3, .ifCond .ne 39, 47, [], 0, 0), (11, 1, .aload_n 0, 0, [], 0, 0), (12, 3, .getfield 9, 0, [], 0, 0), (15, 1, .iload_n 2, 0, [], 0, 0), (16, 3, .invokestatic 38, 0, [], 0, 0), (19, 3, .ifCond .ne 28, 47, [], 0, 0), (22, 1, .aload_n 0, 0, [], 0, 0), (23, 3, .getfield 15, 0, [], 0, 0), (26, 1, .iload_n 1, 0, [], 0, 0), (27, 3, .invokestatic 38, 0, [], 0, 0), (30, 1, .aload_n 0, 0, [], 0, 0), (31, 3, .getfield 15, 0, [], 0, 0), (34, 1, .iload_n 2, 0, [], 0, 0), (35, 3, .invokestatic 38, 0, [], 0, 0), (38, 3, .if_icmp .ge 7, 45, [], 0, 0), (41, 1, .iconst 1, 0, [], 1, 0), (42, 3, .goto 4, 46, [], 0, 0), (45, 1, .iconst 0, 0, [], 0, 0), (46, 1, .ireturn, 0, [], 0, 0), (47, 1, .aload_n 0, 0, [], 0, 0), (48, 3, .getfield 24, 0, [], 0, 0), (51, 1, .iload_n 1, 0, [], 0, 0), (52, 3, .invokestatic 38, 0, [], 0, 0), (55, 1, .aload_n 0, 0, [], 0, 0), (56, 3, .getfield 24, 0, [], 0, 0), (59, 1, .iload_n 2, 0, [], 0, 0), (60, 3, .invokestatic 38, 0, [], 0, 0), (63, 3, .if_icmp .ge 7, 70, [], 0, 0), (66, 1, .iconst 1, 0, [], 1, 0), (67, 3, .goto 4, 71, [], 0, 0), (70, 1, .iconst 0, 0, [], 0, 0), (71, 1, .ireturn, 0, [], 0, 0)]
theorem tk_TR_less : ∀ e ∈ tab_TR_less, sTok "GathersAllFaults$Tree" prog_6_method_12_code e := tab_of (by decide +kernel)
def tab_TR_alike : List sT := [(0, 1, .iload_n 3, 0, [], 0, 0), (1, 1, .iconst 4, 0, [], 4, 0), (2, 3, .if_icmp .gt 79, 81, [], 0, 0), (5, 1, .aload_n 0, 0, [], 0, 0), (6, 3, .getfield 9, 0, [], 0, 0), (9, 1, .iload_n 1, 0, [], 0, 0), (10, 3, .invokestatic 38, 0, [], 0, 0), (13, 1, .aload_n 0, 0, [], 0, 0), (14, 3, .getfield 9, 0, [], 0, 0), (17, 1, .iload_n 2, 0, [], 0, 0), (18, 3, .invokestatic 38, 0, [], 0, 0), (21, 3, .if_icmp .ne 60, 81, [], 0, 0), (24, 1, .aload_n 0, 0, [], 0, 0), (25, 3, .getfield 15, 0, [], 0, 0), (28, 1, .iload_n 1, 0, [], 0, 0), (29, 3, .invokestatic 38, 0, [], 0, 0), (32, 1, .aload_n 0, 0, [], 0, 0), (33, 3, .getfield 15, 0, [], 0, 0), (36, 1, .iload_n 2, 0, [], 0, 0), (37, 3, .invokestatic 38, 0, [], 0, 0), (40, 3, .if_icmp .ne 41, 81, [], 0, 0), (43, 1, .aload_n 0, 0, [], 0, 0), (44, 3, .getfield 18, 0, [], 0, 0), (47, 1, .iload_n 1, 0, [], 0, 0), (48, 3, .invokestatic 38, 0, [], 0, 0), (51, 1, .aload_n 0, 0, [], 0, 0), (52, 3, .getfield 18, 0, [], 0, 0), (55, 1, .iload_n 2, 0, [], 0, 0), (56, 3, .invokestatic 38, 0, [], 0, 0), (59, 3, .if_icmp .ne 22, 81, [], 0, 0), (62, 1, .aload_n 0, 0, [], 0, 0), (63, 3, .getfield 24, 0, [], 0, 0), (66, 1, .iload_n 1, 0, [], 0, 0), (67, 3, .invokestatic 38, 0, [], 0, 0), (70, 1, .aload_n 0, 0, [], 0, 0), (71, 3, .getfield 24, 0, [], 0, 0), (74, 1, .iload_n 2, 0, [], 0, 0), (75, 3, .invokestatic 38, 0, [], 0, 0), (78, 3, .if_icmp .eq 5, 83, [], 0, 0), (81, 1, .iconst 0, 0, [], 0, 0), (82, 1, .ireturn, 0, [], 0, 0), (83, 1, .aload_n 0, 0, [], 0, 0), (84, 3, .getfield 18, 0, [], 0, 0), (87, 1, .iload_n 1, 0, [], 0, 0), (88, 3, .invokestatic 38, 0, [], 0, 0), (91, 2, .istore 4, 0, [], 0, 0), (93, 1, .iload_n 1, 0, [], 0, 0), (94, 1, .iconst 1, 0, [], 1, 0), (95, 1, .iadd, 0, [], 0, 0), (96, 2, .istore 5, 0, [], 0, 0), (98, 1, .iconst 0, 0, [], 0, 0), (99, 2, .istore 6, 0, [], 0, 0), (101, 2, .iload 6, 0, [], 0, 0), (103, 2, .iload 4, 0, [], 0, 0), (105, 3, .if_icmp .ge 60, 165, [], 0, 0), (108, 1, .aload_n 0, 0, [], 0, 0), (109, 1, .iload_n 2, 0, [], 0, 0), (110, 1, .aload_n 0, 0, [], 0, 0), (111, 3, .getfield 21, 0, [], 0, 0), (114, 2, .iload 5, 0, [], 0, 0), (116, 3, .invokestatic 38, 0, [], 0, 0), (119, 3, .invokevirtual 61, 0, [], 0, 0), (122, 2, .istore 7, 0, [], 0, 0), (124, 2, .iload 7, 0, [], 0, 0), (126, 3, .ifCond .lt 17, 143, [], 0, 0), (129, 1, .aload_n 0, 0, [], 0, 0), (130, 2, .iload 5, 0, [], 0, 0), (132, 2, .iload 7, 0, [], 0, 0), (134, 1, .iload_n 3, 0, [], 0, 0), (135, 1, .iconst 1, 0, [], 1, 0), (136, 1, .iadd, 0, [], 0, 0), (137, 3, .invokevirtual 65, 0, [], 0, 0), (140, 3, .ifCond .ne 5, 145, [], 0, 0), (143, 1, .iconst 0, 0, [], 0, 0), (144, 1, .ireturn, 0, [], 0, 0), (145, 2, .iload 5, 0, [], 0, 0), (147, 1, .aload_n 0, 0, [], 0, 0), (148, 3, .getfield 24, 0, [], 0, 0), (151, 2, .iload 5, 0, [], 0, 0), (153, 3, .invokestatic 38, 0, [], 0, 0), (156, 1, .iadd, 0, [], 0, 0), (157, 2, .istore 5, 0, [], 0, 0), (159, 3, .iinc 6 1, 0, [], 1, 0), (162, 3, .goto (-61), 101, [], 0, 0), (165, 1, .iconst 1, 0, [], 1, 0), (166, 1, .ireturn, 0, [], 0, 0)]
theorem tk_TR_alike : ∀ e ∈ tab_TR_alike, sTok "GathersAllFaults$Tree" prog_6_method_11_code e := tab_of (by decide +kernel)
def tab_GA_lookAtList : List sT := [(0, 1, .aload_n 0, 0, [], 0, 0), (1, 3, .getfield 21, 0, [], 0, 0), (4, 3, .getfield 86, 0, [], 0, 0), (7, 1, .iload_n 2, 0, [], 0, 0), (8, 3, .invokestatic 40, 0, [], 0, 0), (11, 2, .istore 4, 0, [], 0, 0), (13, 1, .aload_n 0, 0, [], 0, 0), (14, 3, .getfield 21, 0, [], 0, 0), (17, 3, .getfield 83, 0, [], 0, 0), (20, 1, .iload_n 2, 0, [], 0, 0), (21, 3, .invokestatic 40, 0, [], 0, 0), (24, 1, .iconst 3, 0, [], 3, 0), (25, 3, .if_icmp .eq 12, 37, [], 0, 0), (28, 1, .aload_n 0, 0, [], 0, 0), (29, 2, .iload 4, 0, [], 0, 0), (31, 2, .bipush 10, 0, [], 10, 0), (33, 3, .invokevirtual 89, 0, [], 0, 0), (36, 1, .return_, 0, [], 0, 0), (37, 1, .aload_n 0, 0, [], 0, 0), (38, 3, .getfield 21, 0, [], 0, 0), (41, 3, .getfield 101, 0, [], 0, 0), (44, 1, .iload_n 2, 0, [], 0, 0), (45, 3, .invokestatic 40, 0, [], 0, 0), (48, 2, .istore 5, 0, [], 0, 0), (50, 2, .iload 5, 0, [], 0, 0), (52, 1, .aload_n 0, 0, [], 0, 0), (53, 3, .getfield 12, 0, [], 0, 0), (56, 3, .getfield 95, 0, [], 0, 0), (59, 1, .iload_n 1, 0, [], 0, 0), (60, 3, .invokestatic 40, 0, [], 0, 0), (63, 3, .if_icmp .lt 19, 82, [], 0, 0), (66, 2, .iload 5, 0, [], 0, 0), (68, 1, .aload_n 0, 0, [], 0, 0), (69, 3, .getfield 12, 0, [], 0, 0), (72, 3, .getfield 98, 0, [], 0, 0), (75, 1, .iload_n 1, 0, [], 0, 0), (76, 3, .invokestatic 40, 0, [], 0, 0), (79, 3, .if_icmp .le 11, 90, [], 0, 0), (82, 1, .aload_n 0, 0, [], 0, 0), (83, 2, .iload 4, 0, [], 0, 0), (85, 2, .bipush 11, 0, [], 11, 0), (87, 3, .invokevirtual 89, 0, [], 0, 0), (90, 1, .iload_n 2, 0, [], 0, 0), (91, 1, .iconst 1, 0, [], 1, 0), (92, 1, .iadd, 0, [], 0, 0), (93, 2, .istore 6, 0, [], 0, 0), (95, 1, .iconst 0, 0, [], 0, 0), (96, 2, .istore 7, 0, [], 0, 0), (98, 2, .iload 7, 0, [], 0, 0), (100, 2, .iload 5, 0, [], 0, 0), (102, 3, .if_icmp .ge 38, 140, [], 0, 0), (105, 1, .aload_n 0, 0, [], 0, 0), (106, 1, .iload_n 1, 0, [], 0, 0), (107, 1, .iconst 1, 0, [], 1, 0), (108, 1, .iadd, 0, [], 0, 0), (109, 2, .iload 6, 0, [], 0, 0), (111, 1, .iload_n 3, 0, [], 0, 0), (112, 1, .iconst 1, 0, [], 1, 0), (113, 1, .iadd, 0, [], 0, 0), (114, 3, .invokevirtual 36, 0, [], 0, 0), (117, 2, .iload 6, 0, [], 0, 0), (119, 1, .aload_n 0, 0, [], 0, 0), (120, 3, .getfield 21, 0, [], 0, 0), (123, 3, .getfield 104, 0, [], 0, 0), (126, 2, .iload 6, 0, [], 0, 0), (128, 3, .invokestatic 40, 0, [], 0, 0), (131, 1, .iadd, 0, [], 0, 0), (132, 2, .istore 6, 0, [], 0, 0), (134, 3, .iinc 7 1, 0, [], 1, 0), (137, 3, .goto (-39), 98, [], 0, 0), (140, 1, .return_, 0, [], 0, 0)]
theorem tk_GA_lookAtList : ∀ e ∈ tab_GA_lookAtList, sTok "GathersAllFaults$Gatherer" prog_3_method_12_code e := tab_of (by decide +kernel)
def tab_GA_lookForTwins : List sT := [(0, 1, .aload_n 0, 0, [], 0, 0), (1, 3, .getfield 29, 0, [], 0, 0), (4, 1, .iload_n 2, 0, [], 0, 0), (5, 3, .if_icmp .le 14, 19, [], 0, 0), (8, 1, .aload_n 0, 0, [], 0, 0), (9, 1, .dup, 0, [], 0, 0), (10, 3, .getfield 33, 0, [], 0, 0), (13, 1, .iconst 1, 0, [], 1, 0), (14, 1, .iadd, 0, [], 0, 0), (15, 3, .putfield 33, 0, [], 0, 0), (18, 1, .return_, 0, [], 0, 0), (19, 1, .aload_n 0, 0, [], 0, 0), (20, 3, .getfield 21, 0, [], 0, 0), (23, 3, .getfield 83, 0, [], 0, 0), (26, 1, .iload_n 1, 0, [], 0, 0), (27, 3, .invokestatic 40, 0, [], 0, 0), (30, 1, .iconst 3, 0, [], 3, 0), (31, 3, .if_icmp .eq 4, 35, [], 0, 0), (34, 1, .return_, 0, [], 0, 0), (35, 1, .aload_n 0, 0, [], 0, 0), (36, 3, .getfield 21, 0, [], 0, 0), (39, 3, .getfield 101, 0, [], 0, 0), (42, 1, .iload_n 1, 0, [], 0, 0), (43, 3, .invokestatic 40, 0, [], 0, 0), (46, 1, .istore_n 3, 0, [], 0, 0), (47, 1, .iconst 1, 0, [], 1, 0), (48, 2, .istore 4, 0, [], 0, 0), (50, 2, .iload 4, 0, [], 0, 0), (52, 1, .iload_n 3, 0, [], 0, 0), (53, 3, .if_icmp .ge 96, 149, [], 0, 0), (56, 1, .aload_n 0, 0, [], 0, 0), (57, 3, .getfield 21, 0, [], 0, 0), (60, 1, .iload_n 1, 0, [], 0, 0), (61, 2, .bipush 6, 0, [], 6, 0), (63, 2, .iload 4, 0, [], 0, 0), (65, 1, .iadd, 0, [], 0, 0), (66, 3, .invokevirtual 126, 0, [], 0, 0), (69, 2, .istore 5, 0, [], 0, 0), (71, 1, .iconst 0, 0, [], 0, 0), (72, 2, .istore 6, 0, [], 0, 0), (74, 1, .iconst 0, 0, [], 0, 0), (75, 2, .istore 7, 0, [], 0, 0), (77, 2, .iload 7, 0, [], 0, 0), (79, 2, .iload 4, 0, [], 0, 0), (81, 3, .if_icmp .ge 39, 120, [], 0, 0), (84, 2, .iload 6, 0, [], 0, 0), (86, 3, .ifCond .ne 34, 120, [], 0, 0), (89, 1, .aload_n 0, 0, [], 0, 0), (90, 3, .getfield 21, 0, [], 0, 0), (93, 1, .aload_n 0, 0, [], 0, 0), (94, 3, .getfield 21, 0, [], 0, 0), (97, 1, .iload_n 1, 0, [], 0, 0), (98, 2, .bipush 6, 0, [], 6, 0), (100, 2, .iload 7, 0, [], 0, 0), (102, 1, .iadd, 0, [], 0, 0), (103, 3, .invokevirtual 126, 0, [], 0, 0), (106, 2, .iload 5, 0, [], 0, 0), (108, 1, .iconst 0, 0, [], 0, 0), (109, 3, .invokevirtual 151, 0, [], 0, 0), (112, 2, .istore 6, 0, [], 0, 0), (114, 3, .iinc 7 1, 0, [], 1, 0), (117, 3, .goto (-40), 77, [], 0, 0), (120, 2, .iload 6, 0, [], 0, 0), (122, 3, .ifCond .eq 21, 143, [], 0, 0), (125, 1, .aload_n 0, 0, [], 0, 0), (126, 1, .aload_n 0, 0, [], 0, 0), (127, 3, .getfield 21, 0, [], 0, 0), (130, 3, .getfield 86, 0, [], 0, 0), (133, 2, .iload 5, 0, [], 0, 0), (135, 3, .invokestatic 40, 0, [], 0, 0), (138, 2, .bipush 12, 0, [], 12, 0), (140, 3, .invokevirtual 89, 0, [], 0, 0), (143, 3, .iinc 4 1, 0, [], 1, 0), (146, 3, .goto (-96), 50, [], 0, 0), (149, 1, .return_, 0, [], 0, 0)]
theorem tk_GA_lookForTwins : ∀ e ∈ tab_GA_lookForTwins, sTok "GathersAllFaults$Gatherer" prog_3_method_17_code e := tab_of (by decide +kernel)
def tab_GA_keepFewer : List sT := [(0, 1, .aload_n 0, 0, [], 0, 0), (1, 3, .getfield 29, 0, [], 0, 0), (4, 1, .iload_n 2, 0, [], 0, 0), (5, 1, .isub, 0, [], 0, 0), (6, 2, .istore 5, 0, [], 0, 0), (8, 2, .iload 5, 0, [], 0, 0), (10, 1, .iload_n 2, 0, [], 0, 0), (11, 1, .iload_n 1, 0, [], 0, 0), (12, 1, .isub, 0, [], 0, 0), (13, 3, .if_icmp .ge 42, 55, [], 0, 0), (16, 1, .aload_n 0, 0, [], 0, 0), (17, 3, .getfield 25, 0, [], 0, 0), (20, 1, .iload_n 2, 0, [], 0, 0), (21, 1, .aload_n 0, 0, [], 0, 0), (22, 3, .getfield 29, 0, [], 0, 0), (25, 1, .iload_n 2, 0, [], 0, 0), (26, 1, .iload_n 1, 0, [], 0, 0), (27, 1, .isub, 0, [], 0, 0), (28, 3, .invokestatic 155, 0, [], 0, 0), (31, 1, .aload_n 0, 0, [], 0, 0), (32, 1, .iload_n 1, 0, [], 0, 0), (33, 2, .iload 5, 0, [], 0, 0), (35, 1, .iadd, 0, [], 0, 0), (36, 3, .putfield 29, 0, [], 0, 0), (39, 1, .aload_n 0, 0, [], 0, 0), (40, 1, .iload_n 3, 0, [], 0, 0), (41, 1, .aload_n 0, 0, [], 0, 0), (42, 3, .getfield 33, 0, [], 0, 0), (45, 1, .iadd, 0, [], 0, 0), (46, 2, .iload 4, 0, [], 0, 0), (48, 1, .isub, 0, [], 0, 0), (49, 3, .putfield 33, 0, [], 0, 0), (52, 3, .goto 14, 66, [], 0, 0), (55, 1, .aload_n 0, 0, [], 0, 0), (56, 1, .iload_n 2, 0, [], 0, 0), (57, 3, .putfield 29, 0, [], 0, 0), (60, 1, .aload_n 0, 0, [], 0, 0), (61, 2, .iload 4, 0, [], 0, 0), (63, 3, .putfield 33, 0, [], 0, 0), (66, 1, .return_, 0, [], 0, 0)]
theorem tk_GA_keepFewer : ∀ e ∈ tab_GA_keepFewer, sTok "GathersAllFaults$Gatherer" prog_3_method_18_code e := tab_of (by decide +kernel)
def tab_GF_fault : List sT := [(0, 1, .iload_n 2, 0, [], 0, 0), (1, 3, .ifCond .eq 15, 16, [], 0, 0), (4, 1, .iload_n 2, 0, [], 0, 0), (5, 1, .iconst 1, 0, [], 1, 0), (6, 3, .if_icmp .eq 10, 16, [], 0, 0), (9, 1, .aload_n 0, 0, [], 0, 0), (10, 2, .bipush (-2), 0, [], (-2), 0), (12, 3, .invokevirtual 60, 0, [], 0, 0), (15, 1, .ireturn, 0, [], 0, 0), (16, 1, .aload_n 0, 0, [], 0, 0), (17, 3, .getfield 22, 0, [], 0, 0), (20, 1, .aload_n 0, 0, [], 0, 0), (21, 3, .getfield 10, 0, [], 0, 0), (24, 3, .invokevirtual 121, 0, [], 0, 0), (27, 1, .istore_n 3, 0, [], 0, 0), (28, 1, .iload_n 1, 0, [], 0, 0), (29, 3, .ifCond .lt 8, 37, [], 0, 0), (32, 1, .iload_n 1, 0, [], 0, 0), (33, 1, .iload_n 3, 0, [], 0, 0), (34, 3, .if_icmp .lt 9, 43, [], 0, 0), (37, 1, .aload_n 0, 0, [], 0, 0), (38, 1, .iconst (-1), 0, [], (-1), 0), (39, 3, .invokevirtual 60, 0, [], 0, 0), (42, 1, .ireturn, 0, [], 0, 0), (43, 1, .iload_n 2, 0, [], 0, 0), (44, 3, .ifCond .ne 14, 58, [], 0, 0), (47, 1, .aload_n 0, 0, [], 0, 0), (48, 3, .getfield 22, 0, [], 0, 0), (51, 1, .iload_n 1, 0, [], 0, 0), (52, 3, .invokevirtual 125, 0, [], 0, 0), (55, 3, .goto 11, 66, [], 0, 0), (58, 1, .aload_n 0, 0, [], 0, 0), (59, 3, .getfield 22, 0, [], 0, 0), (62, 1, .iload_n 1, 0, [], 0, 0), (63, 3, .invokevirtual 128, 0, [], 0, 0), (66, 1, .ireturn, 0, [], 0, 0)]
theorem tk_GF_fault : ∀ e ∈ tab_GF_fault, sTok "GathersAllFaults" prog_1_method_10_code e := tab_of (by decide +kernel)
def tab_GA_pathAt : List sT := [(0, 1, .aload_n 0, 0, [], 0, 0), (1, 3, .getfield 25, 0, [], 0, 0), (4, 1, .iload_n 1, 0, [], 0, 0), (5, 3, .invokestatic 40, 0, [], 0, 0), (8, 2, .bipush 100, 0, [], 100, 0), (10, 1, .idiv, 0, [], 0, 0), (11, 1, .ireturn, 0, [], 0, 0)]
theorem tk_GA_pathAt : ∀ e ∈ tab_GA_pathAt, sTok "GathersAllFaults$Gatherer" prog_3_method_3_code e := tab_of (by decide +kernel)
def tab_GA_codeAt : List sT := [(0, 1, .aload_n 0, 0, [], 0, 0), (1, 3, .getfield 25, 0, [], 0, 0), (4, 1, .iload_n 1, 0, [], 0, 0), (5, 3, .invokestatic 40, 0, [], 0, 0), (8, 2, .bipush 100, 0, [], 100, 0), (10, 1, .irem, 0, [], 0, 0), (11, 1, .ireturn, 0, [], 0, 0)]
theorem tk_GA_codeAt : ∀ e ∈ tab_GA_codeAt, sTok "GathersAllFaults$Gatherer" prog_3_method_4_code e := tab_of (by decide +kernel)
def tab_GF_coded : List sT := [(0, 1, .iload_n 1, 0, [], 0, 0), (1, 1, .iconst 1, 0, [], 1, 0), (2, 3, .if_icmp .lt 9, 11, [], 0, 0), (5, 1, .iload_n 1, 0, [], 0, 0), (6, 2, .bipush 12, 0, [], 12, 0), (8, 3, .if_icmp .le 10, 18, [], 0, 0), (11, 1, .aload_n 0, 0, [], 0, 0), (12, 2, .bipush (-2), 0, [], (-2), 0), (14, 3, .invokevirtual 60, 0, [], 0, 0), (17, 1, .ireturn, 0, [], 0, 0), (18, 1, .aload_n 0, 0, [], 0, 0), (19, 3, .getfield 22, 0, [], 0, 0), (22, 1, .aload_n 0, 0, [], 0, 0), (23, 3, .getfield 10, 0, [], 0, 0), (26, 3, .invokevirtual 121, 0, [], 0, 0), (29, 1, .pop, 0, [], 0, 0), (30, 1, .aload_n 0, 0, [], 0, 0), (31, 3, .getfield 22, 0, [], 0, 0), (34, 1, .iload_n 1, 0, [], 0, 0), (35, 3, .invokevirtual 131, 0, [], 0, 0), (38, 1, .ireturn, 0, [], 0, 0)]
theorem tk_GF_coded : ∀ e ∈ tab_GF_coded, sTok "GathersAllFaults" prog_1_method_11_code e := tab_of (by decide +kernel)
def tab_GA_countCode : List sT := [(0, 1, .iconst 0, 0, [], 0, 0), (1, 1, .istore_n 2, 0, [], 0, 0), (2, 1, .iconst 0, 0, [], 0, 0), (3, 1, .istore_n 3, 0, [], 0, 0), (4, 1, .iload_n 3, 0, [], 0, 0), (5, 1, .aload_n 0, 0, [], 0, 0), (6, 3, .getfield 29, 0, [], 0, 0), (9, 3, .if_icmp .ge 21, 30, [], 0, 0), (12, 1, .aload_n 0, 0, [], 0, 0), (13, 1, .iload_n 3, 0, [], 0, 0), (14, 3, .invokevirtual 44, 0, [], 0, 0), (17, 1, .iload_n 1, 0, [], 0, 0), (18, 3, .if_icmp .ne 6, 24, [], 0, 0), (21, 3, .iinc 2 1, 0, [], 1, 0), (24, 3, .iinc 3 1, 0, [], 1, 0), (27, 3, .goto (-23), 4, [], 0, 0), (30, 1, .iload_n 2, 0, [], 0, 0), (31, 1, .ireturn, 0, [], 0, 0)]
theorem tk_GA_countCode : ∀ e ∈ tab_GA_countCode, sTok "GathersAllFaults$Gatherer" prog_3_method_5_code e := tab_of (by decide +kernel)
def tab_GF_below : List sT := [(0, 1, .iload_n 1, 0, [], 0, 0), (1, 3, .ifCond .ge 10, 11, [], 0, 0), (4, 1, .aload_n 0, 0, [], 0, 0), (5, 2, .bipush (-4), 0, [], (-4), 0), (7, 3, .invokevirtual 60, 0, [], 0, 0), (10, 1, .ireturn, 0, [], 0, 0), (11, 1, .iload_n 1, 0, [], 0, 0), (12, 2, .ldc 134, 0, [], 99999, 0), (14, 3, .if_icmp .le 10, 24, [], 0, 0), (17, 1, .aload_n 0, 0, [], 0, 0), (18, 2, .bipush (-6), 0, [], (-6), 0), (20, 3, .invokevirtual 60, 0, [], 0, 0), (23, 1, .ireturn, 0, [], 0, 0), (24, 1, .aload_n 0, 0, [], 0, 0), (25, 3, .getfield 22, 0, [], 0, 0), (28, 1, .aload_n 0, 0, [], 0, 0), (29, 3, .getfield 10, 0, [], 0, 0), (32, 3, .invokevirtual 121, 0, [], 0, 0), (35, 1, .pop, 0, [], 0, 0), (36, 1, .aload_n 0, 0, [], 0, 0), (37, 3, .getfield 22, 0, [], 0, 0), (40, 1, .iload_n 1, 0, [], 0, 0), (41, 1, .iconst 0, 0, [], 0, 0), (42, 3, .invokevirtual 135, 0, [], 0, 0), (45, 1, .ireturn, 0, [], 0, 0)]
theorem tk_GF_below : ∀ e ∈ tab_GF_below, sTok "GathersAllFaults" prog_1_method_12_code e := tab_of (by decide +kernel)
def tab_GF_waits : List sT := [(0, 1, .aload_n 0, 0, [], 0, 0), (1, 3, .getfield 22, 0, [], 0, 0), (4, 1, .aload_n 0, 0, [], 0, 0), (5, 3, .getfield 10, 0, [], 0, 0), (8, 3, .invokevirtual 121, 0, [], 0, 0), (11, 1, .pop, 0, [], 0, 0), (12, 1, .aload_n 0, 0, [], 0, 0), (13, 3, .getfield 22, 0, [], 0, 0), (16, 3, .getfield 139, 0, [], 0, 0), (19, 1, .ireturn, 0, [], 0, 0)]
theorem tk_GF_waits : ∀ e ∈ tab_GF_waits, sTok "GathersAllFaults" prog_1_method_13_code e := tab_of (by decide +kernel)
def tab_GF_first : List sT := [(0, 1, .aload_n 0, 0, [], 0, 0), (1, 3, .getfield 22, 0, [], 0, 0), (4, 1, .aload_n 0, 0, [], 0, 0), (5, 3, .getfield 10, 0, [], 0, 0), (8, 3, .invokevirtual 121, 0, [], 0, 0), (11, 3, .ifCond .le 17, 28, [], 0, 0), (14, 1, .aload_n 0, 0, [], 0, 0), (15, 3, .getfield 22, 0, [], 0, 0), (18, 3, .getfield 142, 0, [], 0, 0), (21, 1, .iconst 0, 0, [], 0, 0), (22, 3, .invokestatic 102, 0, [], 0, 0), (25, 3, .goto 5, 30, [], 0, 0), (28, 2, .bipush (-9), 0, [], (-9), 0), (30, 1, .ireturn, 0, [], 0, 0)]
theorem tk_GF_first : ∀ e ∈ tab_GF_first, sTok "GathersAllFaults" prog_1_method_14_code e := tab_of (by decide +kernel)
def tab_GF_limited : List sT := [(0, 1, .iload_n 1, 0, [], 0, 0), (1, 3, .ifCond .ge 10, 11, [], 0, 0), (4, 1, .aload_n 0, 0, [], 0, 0), (5, 2, .bipush (-4), 0, [], (-4), 0), (7, 3, .invokevirtual 60, 0, [], 0, 0), (10, 1, .ireturn, 0, [], 0, 0), (11, 1, .iload_n 1, 0, [], 0, 0), (12, 2, .bipush 99, 0, [], 99, 0), (14, 3, .if_icmp .le 10, 24, [], 0, 0), (17, 1, .aload_n 0, 0, [], 0, 0), (18, 2, .bipush (-6), 0, [], (-6), 0), (20, 3, .invokevirtual 60, 0, [], 0, 0), (23, 1, .ireturn, 0, [], 0, 0), (24, 1, .iload_n 2, 0, [], 0, 0), (25, 3, .ifCond .eq 15, 40, [], 0, 0), (28, 1, .iload_n 2, 0, [], 0, 0), (29, 1, .iconst 1, 0, [], 1, 0), (30, 3, .if_icmp .eq 10, 40, [], 0, 0), (33, 1, .aload_n 0, 0, [], 0, 0), (34, 2, .bipush (-2), 0, [], (-2), 0), (36, 3, .invokevirtual 60, 0, [], 0, 0), (39, 1, .ireturn, 0, [], 0, 0), (40, 1, .iload_n 1, 0, [], 0, 0), (41, 1, .aload_n 0, 0, [], 0, 0), (42, 3, .getfield 22, 0, [], 0, 0), (45, 1, .aload_n 0, 0, [], 0, 0), (46, 3, .getfield 10, 0, [], 0, 0), (49, 3, .invokevirtual 121, 0, [], 0, 0), (52, 3, .invokestatic 145, 0, [], 0, 0), (55, 1, .istore_n 3, 0, [], 0, 0), (56, 1, .iload_n 2, 0, [], 0, 0), (57, 3, .ifCond .ne 5, 62, [], 0, 0), (60, 1, .iload_n 3, 0, [], 0, 0), (61, 1, .ireturn, 0, [], 0, 0), (62, 1, .iload_n 3, 0, [], 0, 0), (63, 3, .ifCond .le 19, 82, [], 0, 0), (66, 1, .aload_n 0, 0, [], 0, 0), (67, 3, .getfield 22, 0, [], 0, 0), (70, 3, .getfield 142, 0, [], 0, 0), (73, 1, .iload_n 3, 0, [], 0, 0), (74, 1, .iconst 1, 0, [], 1, 0), (75, 1, .isub, 0, [], 0, 0), (76, 3, .invokestatic 102, 0, [], 0, 0), (79, 3, .goto 5, 84, [], 0, 0), (82, 2, .bipush (-9), 0, [], (-9), 0), (84, 1, .ireturn, 0, [], 0, 0)]
theorem tk_GF_limited : ∀ e ∈ tab_GF_limited, sTok "GathersAllFaults" prog_1_method_15_code e := tab_of (by decide +kernel)
def tab_GF_total : List sT := [(0, 1, .aload_n 0, 0, [], 0, 0), (1, 3, .getfield 22, 0, [], 0, 0), (4, 1, .aload_n 0, 0, [], 0, 0), (5, 3, .getfield 10, 0, [], 0, 0), (8, 3, .invokevirtual 121, 0, [], 0, 0), (11, 3, .ifCond .le 6, 17, [], 0, 0), (14, 2, .bipush (-9), 0, [], (-9), 0), (16, 1, .ireturn, 0, [], 0, 0), (17, 1, .iconst 0, 0, [], 0, 0), (18, 1, .istore_n 1, 0, [], 0, 0), (19, 1, .iconst 0, 0, [], 0, 0), (20, 1, .istore_n 2, 0, [], 0, 0), (21, 1, .iload_n 2, 0, [], 0, 0), (22, 1, .aload_n 0, 0, [], 0, 0), (23, 3, .getfield 10, 0, [], 0, 0), (26, 3, .getfield 83, 0, [], 0, 0), (29, 3, .if_icmp .ge 37, 66, [], 0, 0), (32, 1, .aload_n 0, 0, [], 0, 0), (33, 3, .getfield 10, 0, [], 0, 0), (36, 3, .getfield 99, 0, [], 0, 0), (39, 1, .iload_n 2, 0, [], 0, 0), (40, 3, .invokestatic 102, 0, [], 0, 0), (43, 3, .ifCond .ne 17, 60, [], 0, 0), (46, 1, .iload_n 1, 0, [], 0, 0), (47, 1, .aload_n 0, 0, [], 0, 0), (48, 3, .getfield 10, 0, [], 0, 0), (51, 3, .getfield 105, 0, [], 0, 0), (54, 1, .iload_n 2, 0, [], 0, 0), (55, 3, .invokestatic 102, 0, [], 0, 0), (58, 1, .iadd, 0, [], 0, 0), (59, 1, .istore_n 1, 0, [], 0, 0), (60, 3, .iinc 2 1, 0, [], 1, 0), (63, 3, .goto (-42), 21, [], 0, 0), (66, 1, .iload_n 1, 0, [], 0, 0), (67, 1, .ireturn, 0, [], 0, 0)]
theorem tk_GF_total : ∀ e ∈ tab_GF_total, sTok "GathersAllFaults" prog_1_method_16_code e := tab_of (by decide +kernel)
def tab_GF_same : List sT := [(0, 1, .aload_n 0, 0, [], 0, 0), (1, 3, .getfield 10, 0, [], 0, 0), (4, 1, .iload_n 1, 0, [], 0, 0), (5, 3, .invokevirtual 96, 0, [], 0, 0), (8, 1, .istore_n 3, 0, [], 0, 0), (9, 1, .aload_n 0, 0, [], 0, 0), (10, 3, .getfield 10, 0, [], 0, 0), (13, 1, .iload_n 2, 0, [], 0, 0), (14, 3, .invokevirtual 96, 0, [], 0, 0), (17, 2, .istore 4, 0, [], 0, 0), (19, 1, .iload_n 3, 0, [], 0, 0), (20, 3, .ifCond .lt 8, 28, [], 0, 0), (23, 2, .iload 4, 0, [], 0, 0), (25, 3, .ifCond .ge 9, 34, [], 0, 0), (28, 1, .aload_n 0, 0, [], 0, 0), (29, 1, .iconst (-1), 0, [], (-1), 0), (30, 3, .invokevirtual 60, 0, [], 0, 0), (33, 1, .ireturn, 0, [], 0, 0), (34, 1, .aload_n 0, 0, [], 0, 0), (35, 3, .getfield 10, 0, [], 0, 0), (38, 1, .iload_n 3, 0, [], 0, 0), (39, 2, .iload 4, 0, [], 0, 0), (41, 1, .iconst 0, 0, [], 0, 0), (42, 3, .invokevirtual 150, 0, [], 0, 0), (45, 3, .ifCond .eq 7, 52, [], 0, 0), (48, 1, .iconst 1, 0, [], 1, 0), (49, 3, .goto 4, 53, [], 0, 0), (52, 1, .iconst 0, 0, [], 0, 0), (53, 1, .ireturn, 0, [], 0, 0)]
theorem tk_GF_same : ∀ e ∈ tab_GF_same, sTok "GathersAllFaults" prog_1_method_17_code e := tab_of (by decide +kernel)
def tab_GF_different : List sT := [(0, 1, .iconst 0, 0, [], 0, 0), (1, 1, .istore_n 1, 0, [], 0, 0), (2, 1, .iconst 0, 0, [], 0, 0), (3, 1, .istore_n 2, 0, [], 0, 0), (4, 1, .iload_n 2, 0, [], 0, 0), (5, 1, .aload_n 0, 0, [], 0, 0), (6, 3, .getfield 10, 0, [], 0, 0), (9, 3, .getfield 83, 0, [], 0, 0), (12, 3, .if_icmp .ge 21, 33, [], 0, 0), (15, 1, .aload_n 0, 0, [], 0, 0), (16, 1, .iload_n 2, 0, [], 0, 0), (17, 3, .invokevirtual 154, 0, [], 0, 0), (20, 1, .iload_n 2, 0, [], 0, 0), (21, 3, .if_icmp .ne 6, 27, [], 0, 0), (24, 3, .iinc 1 1, 0, [], 1, 0), (27, 3, .iinc 2 1, 0, [], 1, 0), (30, 3, .goto (-26), 4, [], 0, 0), (33, 1, .iload_n 1, 0, [], 0, 0), (34, 1, .ireturn, 0, [], 0, 0)]
theorem tk_GF_different : ∀ e ∈ tab_GF_different, sTok "GathersAllFaults" prog_1_method_18_code e := tab_of (by decide +kernel)
def tab_GF_firstAlike : List sT := [(0, 1, .iconst 0, 0, [], 0, 0), (1, 1, .istore_n 2, 0, [], 0, 0), (2, 1, .iload_n 2, 0, [], 0, 0), (3, 1, .iload_n 1, 0, [], 0, 0), (4, 3, .if_icmp .ge 24, 28, [], 0, 0), (7, 1, .aload_n 0, 0, [], 0, 0), (8, 3, .getfield 10, 0, [], 0, 0), (11, 1, .iload_n 2, 0, [], 0, 0), (12, 1, .iload_n 1, 0, [], 0, 0), (13, 1, .iconst 0, 0, [], 0, 0), (14, 3, .invokevirtual 150, 0, [], 0, 0), (17, 3, .ifCond .eq 5, 22, [], 0, 0), (20, 1, .iload_n 2, 0, [], 0, 0), (21, 1, .ireturn, 0, [], 0, 0), (22, 3, .iinc 2 1, 0, [], 1, 0), (25, 3, .goto (-23), 2, [], 0, 0), (28, 1, .iload_n 1, 0, [], 0, 0), (29, 1, .ireturn, 0, [], 0, 0)]
theorem tk_GF_firstAlike : ∀ e ∈ tab_GF_firstAlike, sTok "GathersAllFaults" prog_1_method_39_code e := tab_of (by decide +kernel)
def tab_GF_often : List sT := [(0, 1, .iload_n 1, 0, [], 0, 0), (1, 3, .ifCond .eq 15, 16, [], 0, 0), (4, 1, .iload_n 1, 0, [], 0, 0), (5, 1, .iconst 1, 0, [], 1, 0), (6, 3, .if_icmp .eq 10, 16, [], 0, 0), (9, 1, .aload_n 0, 0, [], 0, 0), (10, 2, .bipush (-2), 0, [], (-2), 0), (12, 3, .invokevirtual 60, 0, [], 0, 0), (15, 1, .ireturn, 0, [], 0, 0), (16, 1, .iconst 0, 0, [], 0, 0), (17, 1, .istore_n 2, 0, [], 0, 0), (18, 1, .iconst 0, 0, [], 0, 0), (19, 1, .istore_n 3, 0, [], 0, 0), (20, 1, .iconst 0, 0, [], 0, 0), (21, 2, .istore 4, 0, [], 0, 0), (23, 2, .iload 4, 0, [], 0, 0), (25, 1, .aload_n 0, 0, [], 0, 0), (26, 3, .getfield 10, 0, [], 0, 0), (29, 3, .getfield 83, 0, [], 0, 0), (32, 3, .if_icmp .ge 29, 61, [], 0, 0), (35, 1, .aload_n 0, 0, [], 0, 0), (36, 2, .iload 4, 0, [], 0, 0), (38, 3, .invokevirtual 157, 0, [], 0, 0), (41, 2, .istore 5, 0, [], 0, 0), (43, 2, .iload 5, 0, [], 0, 0), (45, 1, .iload_n 2, 0, [], 0, 0), (46, 3, .if_icmp .le 9, 55, [], 0, 0), (49, 2, .iload 5, 0, [], 0, 0), (51, 1, .istore_n 2, 0, [], 0, 0), (52, 2, .iload 4, 0, [], 0, 0), (54, 1, .istore_n 3, 0, [], 0, 0), (55, 3, .iinc 4 1, 0, [], 1, 0), (58, 3, .goto (-35), 23, [], 0, 0), (61, 1, .iload_n 1, 0, [], 0, 0), (62, 3, .ifCond .ne 17, 79, [], 0, 0), (65, 1, .aload_n 0, 0, [], 0, 0), (66, 3, .getfield 10, 0, [], 0, 0), (69, 3, .getfield 114, 0, [], 0, 0), (72, 1, .iload_n 3, 0, [], 0, 0), (73, 3, .invokestatic 102, 0, [], 0, 0), (76, 3, .goto 4, 80, [], 0, 0), (79, 1, .iload_n 2, 0, [], 0, 0), (80, 1, .ireturn, 0, [], 0, 0)]
theorem tk_GF_often : ∀ e ∈ tab_GF_often, sTok "GathersAllFaults" prog_1_method_19_code e := tab_of (by decide +kernel)
def tab_GF_countAlike : List sT := [(0, 1, .iconst 0, 0, [], 0, 0), (1, 1, .istore_n 2, 0, [], 0, 0), (2, 1, .iconst 0, 0, [], 0, 0), (3, 1, .istore_n 3, 0, [], 0, 0), (4, 1, .iload_n 3, 0, [], 0, 0), (5, 1, .aload_n 0, 0, [], 0, 0), (6, 3, .getfield 10, 0, [], 0, 0), (9, 3, .getfield 83, 0, [], 0, 0), (12, 3, .if_icmp .ge 25, 37, [], 0, 0), (15, 1, .aload_n 0, 0, [], 0, 0), (16, 3, .getfield 10, 0, [], 0, 0), (19, 1, .iload_n 3, 0, [], 0, 0), (20, 1, .iload_n 1, 0, [], 0, 0), (21, 1, .iconst 0, 0, [], 0, 0), (22, 3, .invokevirtual 150, 0, [], 0, 0), (25, 3, .ifCond .eq 6, 31, [], 0, 0), (28, 3, .iinc 2 1, 0, [], 1, 0), (31, 3, .iinc 3 1, 0, [], 1, 0), (34, 3, .goto (-30), 4, [], 0, 0), (37, 1, .iload_n 2, 0, [], 0, 0), (38, 1, .ireturn, 0, [], 0, 0)]
theorem tk_GF_countAlike : ∀ e ∈ tab_GF_countAlike, sTok "GathersAllFaults" prog_1_method_40_code e := tab_of (by decide +kernel)
def tab_GF_without : List sT := [(0, 1, .aload_n 0, 0, [], 0, 0), (1, 3, .getfield 10, 0, [], 0, 0), (4, 1, .iload_n 1, 0, [], 0, 0), (5, 3, .invokevirtual 96, 0, [], 0, 0), (8, 1, .istore_n 2, 0, [], 0, 0), (9, 1, .iload_n 2, 0, [], 0, 0), (10, 3, .ifCond .ge 9, 19, [], 0, 0), (13, 1, .aload_n 0, 0, [], 0, 0), (14, 1, .iconst (-1), 0, [], (-1), 0), (15, 3, .invokevirtual 60, 0, [], 0, 0), (18, 1, .ireturn, 0, [], 0, 0), (19, 1, .iload_n 2, 0, [], 0, 0), (20, 3, .ifCond .ne 10, 30, [], 0, 0), (23, 1, .aload_n 0, 0, [], 0, 0), (24, 2, .bipush (-3), 0, [], (-3), 0), (26, 3, .invokevirtual 60, 0, [], 0, 0), (29, 1, .ireturn, 0, [], 0, 0), (30, 1, .aload_n 0, 0, [], 0, 0), (31, 3, .getfield 16, 0, [], 0, 0), (34, 1, .aload_n 0, 0, [], 0, 0), (35, 3, .getfield 10, 0, [], 0, 0), (38, 3, .invokevirtual 79, 0, [], 0, 0), (41, 1, .aload_n 0, 0, [], 0, 0), (42, 3, .getfield 16, 0, [], 0, 0), (45, 1, .iload_n 2, 0, [], 0, 0), (46, 3, .invokevirtual 160, 0, [], 0, 0), (49, 1, .aload_n 0, 0, [], 0, 0), (50, 3, .getfield 22, 0, [], 0, 0), (53, 1, .aload_n 0, 0, [], 0, 0), (54, 3, .getfield 16, 0, [], 0, 0), (57, 3, .invokevirtual 121, 0, [], 0, 0), (60, 1, .ireturn, 0, [], 0, 0)]
theorem tk_GF_without : ∀ e ∈ tab_GF_without, sTok "GathersAllFaults" prog_1_method_20_code e := tab_of (by decide +kernel)
def tab_TR_leaveOut : List sT := [(0, 1, .iload_n 1, 0, [], 0, 0), (1, 3, .ifCond .le 11, 12, [], 0, 0), (4, 1, .iload_n 1, 0, [], 0, 0), (5, 1, .aload_n 0, 0, [], 0, 0), (6, 3, .getfield 30, 0, [], 0, 0), (9, 3, .if_icmp .lt 4, 13, [], 0, 0), (12, 1, .return_, 0, [], 0, 0), (13, 1, .aload_n 0, 0, [], 0, 0), (14, 1, .iload_n 1, 0, [], 0, 0), (15, 3, .invokevirtual 50, 0, [], 0, 0), (18, 1, .istore_n 2, 0, [], 0, 0), (19, 1, .aload_n 0, 0, [], 0, 0), (20, 3, .getfield 18, 0, [], 0, 0), (23, 1, .iload_n 2, 0, [], 0, 0), (24, 1, .aload_n 0, 0, [], 0, 0), (25, 3, .getfield 18, 0, [], 0, 0), (28, 1, .iload_n 2, 0, [], 0, 0), (29, 3, .invokestatic 38, 0, [], 0, 0), (32, 1, .iconst 1, 0, [], 1, 0), (33, 1, .isub, 0, [], 0, 0), (34, 3, .invokestatic 42, 0, [], 0, 0), (37, 1, .aload_n 0, 0, [], 0, 0), (38, 1, .iload_n 1, 0, [], 0, 0), (39, 1, .aload_n 0, 0, [], 0, 0), (40, 3, .getfield 24, 0, [], 0, 0), (43, 1, .iload_n 1, 0, [], 0, 0), (44, 3, .invokestatic 38, 0, [], 0, 0), (47, 3, .invokevirtual 46, 0, [], 0, 0), (50, 1, .aload_n 0, 0, [], 0, 0), (51, 3, .invokevirtual 54, 0, [], 0, 0), (54, 1, .return_, 0, [], 0, 0)]
theorem tk_TR_leaveOut : ∀ e ∈ tab_TR_leaveOut, sTok "GathersAllFaults$Tree" prog_6_method_8_code e := tab_of (by decide +kernel)
def tab_TR_parentOf : List sT := [(0, 1, .iconst 0, 0, [], 0, 0), (1, 1, .istore_n 2, 0, [], 0, 0), (2, 1, .iconst 0, 0, [], 0, 0), (3, 1, .istore_n 3, 0, [], 0, 0), (4, 1, .iload_n 3, 0, [], 0, 0), (5, 1, .iload_n 1, 0, [], 0, 0), (6, 3, .if_icmp .ge 25, 31, [], 0, 0), (9, 1, .iload_n 3, 0, [], 0, 0), (10, 1, .aload_n 0, 0, [], 0, 0), (11, 3, .getfield 24, 0, [], 0, 0), (14, 1, .iload_n 3, 0, [], 0, 0), (15, 3, .invokestatic 38, 0, [], 0, 0), (18, 1, .iadd, 0, [], 0, 0), (19, 1, .iload_n 1, 0, [], 0, 0), (20, 3, .if_icmp .le 5, 25, [], 0, 0), (23, 1, .iload_n 3, 0, [], 0, 0), (24, 1, .istore_n 2, 0, [], 0, 0), (25, 3, .iinc 3 1, 0, [], 1, 0), (28, 3, .goto (-24), 4, [], 0, 0), (31, 1, .iload_n 2, 0, [], 0, 0), (32, 1, .ireturn, 0, [], 0, 0)]
theorem tk_TR_parentOf : ∀ e ∈ tab_TR_parentOf, sTok "GathersAllFaults$Tree" prog_6_method_9_code e := tab_of (by decide +kernel)
def tab_GF_mend : List sT := [(0, 1, .iload_n 1, 0, [], 0, 0), (1, 3, .ifCond .eq 15, 16, [], 0, 0), (4, 1, .iload_n 1, 0, [], 0, 0), (5, 1, .iconst 1, 0, [], 1, 0), (6, 3, .if_icmp .eq 10, 16, [], 0, 0), (9, 1, .aload_n 0, 0, [], 0, 0), (10, 2, .bipush (-2), 0, [], (-2), 0), (12, 3, .invokevirtual 60, 0, [], 0, 0), (15, 1, .ireturn, 0, [], 0, 0), (16, 1, .aload_n 0, 0, [], 0, 0), (17, 3, .getfield 22, 0, [], 0, 0), (20, 1, .aload_n 0, 0, [], 0, 0), (21, 3, .getfield 10, 0, [], 0, 0), (24, 3, .invokevirtual 121, 0, [], 0, 0), (27, 1, .istore_n 2, 0, [], 0, 0), (28, 2, .bipush (-9), 0, [], (-9), 0), (30, 1, .istore_n 3, 0, [], 0, 0), (31, 1, .iconst 0, 0, [], 0, 0), (32, 2, .istore 4, 0, [], 0, 0), (34, 2, .iload 4, 0, [], 0, 0), (36, 1, .aload_n 0, 0, [], 0, 0), (37, 3, .getfield 10, 0, [], 0, 0), (40, 3, .getfield 83, 0, [], 0, 0), (43, 3, .if_icmp .ge 89, 132, [], 0, 0), (46, 1, .aload_n 0, 0, [], 0, 0), (47, 3, .getfield 16, 0, [], 0, 0), (50, 1, .aload_n 0, 0, [], 0, 0), (51, 3, .getfield 10, 0, [], 0, 0), (54, 3, .invokevirtual 79, 0, [], 0, 0), (57, 1, .iconst 0, 0, [], 0, 0), (58, 2, .istore 5, 0, [], 0, 0), (60, 2, .iload 5, 0, [], 0, 0), (62, 2, .bipush 20, 0, [], 20, 0), (64, 3, .if_icmp .gt 62, 126, [], 0, 0), (67, 1, .aload_n 0, 0, [], 0, 0), (68, 3, .getfield 16, 0, [], 0, 0), (71, 2, .iload 4, 0, [], 0, 0), (73, 1, .iconst 0, 0, [], 0, 0), (74, 2, .iload 5, 0, [], 0, 0), (76, 3, .invokevirtual 117, 0, [], 0, 0), (79, 1, .aload_n 0, 0, [], 0, 0), (80, 3, .getfield 22, 0, [], 0, 0), (83, 1, .aload_n 0, 0, [], 0, 0), (84, 3, .getfield 16, 0, [], 0, 0), (87, 3, .invokevirtual 121, 0, [], 0, 0), (90, 2, .istore 6, 0, [], 0, 0), (92, 2, .iload 6, 0, [], 0, 0), (94, 1, .iload_n 2, 0, [], 0, 0), (95, 3, .if_icmp .ge 25, 120, [], 0, 0), (98, 2, .iload 6, 0, [], 0, 0), (100, 1, .istore_n 2, 0, [], 0, 0), (101, 2, .bipush 100, 0, [], 100, 0), (103, 1, .aload_n 0, 0, [], 0, 0), (104, 3, .getfield 10, 0, [], 0, 0), (107, 3, .getfield 114, 0, [], 0, 0), (110, 2, .iload 4, 0, [], 0, 0), (112, 3, .invokestatic 102, 0, [], 0, 0), (115, 1, .imul, 0, [], 0, 0), (116, 2, .iload 5, 0, [], 0, 0), (118, 1, .iadd, 0, [], 0, 0), (119, 1, .istore_n 3, 0, [], 0, 0), (120, 3, .iinc 5 1, 0, [], 1, 0), (123, 3, .goto (-63), 60, [], 0, 0), (126, 3, .iinc 4 1, 0, [], 1, 0), (129, 3, .goto (-95), 34, [], 0, 0), (132, 1, .iload_n 1, 0, [], 0, 0), (133, 3, .ifCond .eq 9, 142, [], 0, 0), (136, 1, .iload_n 3, 0, [], 0, 0), (137, 2, .bipush (-9), 0, [], (-9), 0), (139, 3, .if_icmp .ne 7, 146, [], 0, 0), (142, 1, .iload_n 3, 0, [], 0, 0), (143, 3, .goto 4, 147, [], 0, 0), (146, 1, .iload_n 2, 0, [], 0, 0), (147, 1, .ireturn, 0, [], 0, 0)]
theorem tk_GF_mend : ∀ e ∈ tab_GF_mend, sTok "GathersAllFaults" prog_1_method_21_code e := tab_of (by decide +kernel)
def tab_GF_range : List sT := [(0, 1, .aload_n 0, 0, [], 0, 0), (1, 3, .getfield 10, 0, [], 0, 0), (4, 1, .iload_n 1, 0, [], 0, 0), (5, 3, .invokevirtual 96, 0, [], 0, 0), (8, 1, .istore_n 3, 0, [], 0, 0), (9, 1, .iload_n 3, 0, [], 0, 0), (10, 3, .ifCond .ge 9, 19, [], 0, 0), (13, 1, .aload_n 0, 0, [], 0, 0), (14, 1, .iconst (-1), 0, [], (-1), 0), (15, 3, .invokevirtual 60, 0, [], 0, 0), (18, 1, .ireturn, 0, [], 0, 0), (19, 1, .iload_n 2, 0, [], 0, 0), (20, 3, .ifCond .eq 15, 35, [], 0, 0), (23, 1, .iload_n 2, 0, [], 0, 0), (24, 1, .iconst 1, 0, [], 1, 0), (25, 3, .if_icmp .eq 10, 35, [], 0, 0), (28, 1, .aload_n 0, 0, [], 0, 0), (29, 2, .bipush (-2), 0, [], (-2), 0), (31, 3, .invokevirtual 60, 0, [], 0, 0), (34, 1, .ireturn, 0, [], 0, 0), (35, 1, .aload_n 0, 0, [], 0, 0), (36, 3, .getfield 16, 0, [], 0, 0), (39, 1, .aload_n 0, 0, [], 0, 0), (40, 3, .getfield 10, 0, [], 0, 0), (43, 3, .invokevirtual 79, 0, [], 0, 0), (46, 1, .iconst 0, 0, [], 0, 0), (47, 2, .istore 4, 0, [], 0, 0), (49, 2, .iload 4, 0, [], 0, 0), (51, 2, .bipush 99, 0, [], 99, 0), (53, 3, .if_icmp .gt 63, 116, [], 0, 0), (56, 1, .iload_n 2, 0, [], 0, 0), (57, 3, .ifCond .ne 8, 65, [], 0, 0), (60, 2, .iload 4, 0, [], 0, 0), (62, 3, .goto 8, 70, [], 0, 0), (65, 2, .bipush 99, 0, [], 99, 0), (67, 2, .iload 4, 0, [], 0, 0), (69, 1, .isub, 0, [], 0, 0), (70, 2, .istore 5, 0, [], 0, 0), (72, 1, .aload_n 0, 0, [], 0, 0), (73, 3, .getfield 16, 0, [], 0, 0), (76, 1, .iload_n 3, 0, [], 0, 0), (77, 1, .iconst 0, 0, [], 0, 0), (78, 2, .iload 5, 0, [], 0, 0), (80, 3, .invokevirtual 117, 0, [], 0, 0), (83, 1, .aload_n 0, 0, [], 0, 0), (84, 3, .getfield 22, 0, [], 0, 0), (87, 1, .aload_n 0, 0, [], 0, 0), (88, 3, .getfield 16, 0, [], 0, 0), (91, 3, .invokevirtual 121, 0, [], 0, 0), (94, 1, .pop, 0, [], 0, 0), (95, 1, .aload_n 0, 0, [], 0, 0), (96, 3, .getfield 22, 0, [], 0, 0), (99, 1, .iload_n 1, 0, [], 0, 0), (100, 1, .iconst 0, 0, [], 0, 0), (101, 3, .invokevirtual 135, 0, [], 0, 0), (104, 3, .ifCond .ne 6, 110, [], 0, 0), (107, 2, .iload 5, 0, [], 0, 0), (109, 1, .ireturn, 0, [], 0, 0), (110, 3, .iinc 4 1, 0, [], 1, 0), (113, 3, .goto (-64), 49, [], 0, 0), (116, 2, .bipush (-9), 0, [], (-9), 0), (118, 1, .ireturn, 0, [], 0, 0)]
theorem tk_GF_range : ∀ e ∈ tab_GF_range, sTok "GathersAllFaults" prog_1_method_22_code e := tab_of (by decide +kernel)
def tab_GF_loss : List sT := [(0, 1, .iload_n 1, 0, [], 0, 0), (1, 1, .iconst 2, 0, [], 2, 0), (2, 3, .if_icmp .ge 10, 12, [], 0, 0), (5, 1, .aload_n 0, 0, [], 0, 0), (6, 2, .bipush (-4), 0, [], (-4), 0), (8, 3, .invokevirtual 164, 0, [], 0, 0), (11, 1, .lreturn, 0, [], 0, 0), (12, 1, .iload_n 1, 0, [], 0, 0), (13, 2, .bipush 20, 0, [], 20, 0), (15, 3, .if_icmp .le 10, 25, [], 0, 0), (18, 1, .aload_n 0, 0, [], 0, 0), (19, 2, .bipush (-6), 0, [], (-6), 0), (21, 3, .invokevirtual 164, 0, [], 0, 0), (24, 1, .lreturn, 0, [], 0, 0), (25, 1, .iload_n 2, 0, [], 0, 0), (26, 3, .ifCond .eq 15, 41, [], 0, 0), (29, 1, .iload_n 2, 0, [], 0, 0), (30, 1, .iconst 1, 0, [], 1, 0), (31, 3, .if_icmp .eq 10, 41, [], 0, 0), (34, 1, .aload_n 0, 0, [], 0, 0), (35, 2, .bipush (-2), 0, [], (-2), 0), (37, 3, .invokevirtual 164, 0, [], 0, 0), (40, 1, .lreturn, 0, [], 0, 0), (41, 1, .aload_n 0, 0, [], 0, 0), (42, 3, .invokevirtual 168, 0, [], 0, 0), (45, 2, .bipush 6, 0, [], 6, 0), (47, 3, .invokestatic 145, 0, [], 0, 0), (50, 1, .istore_n 3, 0, [], 0, 0), (51, 1, .lconst 0, 0, [], 0, 0), (52, 2, .lstore 4, 0, [], 0, 0), (54, 1, .iconst 0, 0, [], 0, 0), (55, 2, .istore 6, 0, [], 0, 0), (57, 2, .iload 6, 0, [], 0, 0), (59, 1, .iconst 1, 0, [], 1, 0), (60, 1, .iload_n 3, 0, [], 0, 0), (61, 1, .ishl, 0, [], 0, 0), (62, 3, .if_icmp .ge 48, 110, [], 0, 0), (65, 1, .aload_n 0, 0, [], 0, 0), (66, 2, .iload 6, 0, [], 0, 0), (68, 1, .iload_n 3, 0, [], 0, 0), (69, 3, .invokevirtual 172, 0, [], 0, 0), (72, 1, .aload_n 0, 0, [], 0, 0), (73, 3, .getfield 22, 0, [], 0, 0), (76, 1, .aload_n 0, 0, [], 0, 0), (77, 3, .getfield 16, 0, [], 0, 0), (80, 3, .invokevirtual 121, 0, [], 0, 0), (83, 3, .ifCond .ne 21, 104, [], 0, 0), (86, 2, .lload 4, 0, [], 0, 0), (88, 1, .iload_n 1, 0, [], 0, 0), (89, 1, .iconst 1, 0, [], 1, 0), (90, 1, .isub, 0, [], 0, 0), (91, 1, .iload_n 3, 0, [], 0, 0), (92, 2, .iload 6, 0, [], 0, 0), (94, 3, .invokestatic 176, 0, [], 0, 0), (97, 1, .isub, 0, [], 0, 0), (98, 3, .invokestatic 181, 0, [], 0, 0), (101, 1, .ladd, 0, [], 0, 0), (102, 2, .lstore 4, 0, [], 0, 0), (104, 3, .iinc 6 1, 0, [], 1, 0), (107, 3, .goto (-50), 57, [], 0, 0), (110, 2, .lload 4, 0, [], 0, 0), (112, 1, .iload_n 1, 0, [], 0, 0), (113, 1, .iload_n 3, 0, [], 0, 0), (114, 3, .invokestatic 181, 0, [], 0, 0), (117, 1, .iload_n 2, 0, [], 0, 0), (118, 3, .invokestatic 185, 0, [], 0, 0), (121, 1, .lreturn, 0, [], 0, 0)]
theorem tk_GF_loss : ∀ e ∈ tab_GF_loss, sTok "GathersAllFaults" prog_1_method_23_code e := tab_of (by decide +kernel)
def tab_GF_refuseLong : List sT := [(0, 3, .ldc2_w 208, 0, [], 0, 4000000000000000000), (3, 1, .aload_n 0, 0, [], 0, 0), (4, 1, .iload_n 1, 0, [], 0, 0), (5, 3, .invokevirtual 60, 0, [], 0, 0), (8, 1, .i2l, 0, [], 0, 0), (9, 1, .lsub, 0, [], 0, 0), (10, 1, .lreturn, 0, [], 0, 0)]
theorem tk_GF_refuseLong : ∀ e ∈ tab_GF_refuseLong, sTok "GathersAllFaults" prog_1_method_34_code e := tab_of (by decide +kernel)
def tab_GF_numbers : List sT := [(0, 1, .iconst 0, 0, [], 0, 0), (1, 1, .istore_n 1, 0, [], 0, 0), (2, 1, .iconst 0, 0, [], 0, 0), (3, 1, .istore_n 2, 0, [], 0, 0), (4, 1, .iload_n 2, 0, [], 0, 0), (5, 1, .aload_n 0, 0, [], 0, 0), (6, 3, .getfield 10, 0, [], 0, 0), (9, 3, .getfield 83, 0, [], 0, 0), (12, 3, .if_icmp .ge 26, 38, [], 0, 0), (15, 1, .aload_n 0, 0, [], 0, 0), (16, 3, .getfield 10, 0, [], 0, 0), (19, 3, .getfield 99, 0, [], 0, 0), (22, 1, .iload_n 2, 0, [], 0, 0), (23, 3, .invokestatic 102, 0, [], 0, 0), (26, 3, .ifCond .ne 6, 32, [], 0, 0), (29, 3, .iinc 1 1, 0, [], 1, 0), (32, 3, .iinc 2 1, 0, [], 1, 0), (35, 3, .goto (-31), 4, [], 0, 0), (38, 1, .iload_n 1, 0, [], 0, 0), (39, 1, .ireturn, 0, [], 0, 0)]
theorem tk_GF_numbers : ∀ e ∈ tab_GF_numbers, sTok "GathersAllFaults" prog_1_method_41_code e := tab_of (by decide +kernel)
def tab_GF_tryLosing : List sT := [(0, 1, .aload_n 0, 0, [], 0, 0), (1, 3, .getfield 16, 0, [], 0, 0), (4, 1, .aload_n 0, 0, [], 0, 0), (5, 3, .getfield 10, 0, [], 0, 0), (8, 3, .invokevirtual 79, 0, [], 0, 0), (11, 1, .iconst 0, 0, [], 0, 0), (12, 1, .istore_n 3, 0, [], 0, 0), (13, 1, .iconst 0, 0, [], 0, 0), (14, 2, .istore 4, 0, [], 0, 0), (16, 2, .iload 4, 0, [], 0, 0), (18, 1, .aload_n 0, 0, [], 0, 0), (19, 3, .getfield 10, 0, [], 0, 0), (22, 3, .getfield 83, 0, [], 0, 0), (25, 3, .if_icmp .ge 52, 77, [], 0, 0), (28, 1, .iload_n 3, 0, [], 0, 0), (29, 1, .iload_n 2, 0, [], 0, 0), (30, 3, .if_icmp .ge 47, 77, [], 0, 0), (33, 1, .aload_n 0, 0, [], 0, 0), (34, 3, .getfield 10, 0, [], 0, 0), (37, 3, .getfield 99, 0, [], 0, 0), (40, 2, .iload 4, 0, [], 0, 0), (42, 3, .invokestatic 102, 0, [], 0, 0), (45, 3, .ifCond .ne 26, 71, [], 0, 0), (48, 1, .iload_n 1, 0, [], 0, 0), (49, 1, .iload_n 3, 0, [], 0, 0), (50, 1, .ishr, 0, [], 0, 0), (51, 1, .iconst 1, 0, [], 1, 0), (52, 1, .iand, 0, [], 0, 0), (53, 1, .iconst 1, 0, [], 1, 0), (54, 3, .if_icmp .ne 14, 68, [], 0, 0), (57, 1, .aload_n 0, 0, [], 0, 0), (58, 3, .getfield 16, 0, [], 0, 0), (61, 2, .iload 4, 0, [], 0, 0), (63, 1, .iconst 1, 0, [], 1, 0), (64, 1, .iconst 0, 0, [], 0, 0), (65, 3, .invokevirtual 117, 0, [], 0, 0), (68, 3, .iinc 3 1, 0, [], 1, 0), (71, 3, .iinc 4 1, 0, [], 1, 0), (74, 3, .goto (-58), 16, [], 0, 0), (77, 1, .return_, 0, [], 0, 0)]
theorem tk_GF_tryLosing : ∀ e ∈ tab_GF_tryLosing, sTok "GathersAllFaults" prog_1_method_35_code e := tab_of (by decide +kernel)
def tab_JI_bitCount : List sT := [(0, 1, .iload_n 0, 0, [], 0, 0), (1, 1, .iload_n 0, 0, [], 0, 0), (2, 1, .iconst 1, 0, [], 1, 0), (3, 1, .iushr, 0, [], 0, 0), (4, 3, .ldc_w 265, 0, [], 1431655765, 0), (7, 1, .iand, 0, [], 0, 0), (8, 1, .isub, 0, [], 0, 0), (9, 1, .istore_n 0, 0, [], 0, 0), (10, 1, .iload_n 0, 0, [], 0, 0), (11, 3, .ldc_w 266, 0, [], 858993459, 0), (14, 1, .iand, 0, [], 0, 0), (15, 1, .iload_n 0, 0, [], 0, 0), (16, 1, .iconst 2, 0, [], 2, 0), (17, 1, .iushr, 0, [], 0, 0), (18, 3, .ldc_w 266, 0, [], 858993459, 0), (21, 1, .iand, 0, [], 0, 0), (22, 1, .iadd, 0, [], 0, 0), (23, 1, .istore_n 0, 0, [], 0, 0), (24, 1, .iload_n 0, 0, [], 0, 0), (25, 1, .iload_n 0, 0, [], 0, 0), (26, 1, .iconst 4, 0, [], 4, 0), (27, 1, .iushr, 0, [], 0, 0), (28, 1, .iadd, 0, [], 0, 0), (29, 3, .ldc_w 267, 0, [], 252645135, 0), (32, 1, .iand, 0, [], 0, 0), (33, 1, .istore_n 0, 0, [], 0, 0), (34, 1, .iload_n 0, 0, [], 0, 0), (35, 1, .iload_n 0, 0, [], 0, 0), (36, 2, .bipush 8, 0, [], 8, 0), (38, 1, .iushr, 0, [], 0, 0), (39, 1, .iadd, 0, [], 0, 0), (40, 1, .istore_n 0, 0, [], 0, 0), (41, 1, .iload_n 0, 0, [], 0, 0), (42, 1, .iload_n 0, 0, [], 0, 0), (43, 2, .bipush 16, 0, [], 16, 0), (45, 1, .iushr, 0, [], 0, 0), (46, 1, .iadd, 0, [], 0, 0), (47, 1, .istore_n 0, 0, [], 0, 0), (48, 1, .iload_n 0, 0, [], 0, 0), (49, 2, .bipush 63, 0, [], 63, 0), (51, 1, .iand, 0, [], 0, 0), (52, 1, .ireturn, 0, [], 0, 0)]
theorem tk_JI_bitCount : ∀ e ∈ tab_JI_bitCount, sTok "java/lang/Integer" prog_10_method_49_code e := tab_of (by decide +kernel)
def tab_GF_power : List sT := [(0, 1, .lconst 1, 0, [], 0, 1), (1, 1, .lstore_n 2, 0, [], 0, 0), (2, 1, .iconst 0, 0, [], 0, 0), (3, 2, .istore 4, 0, [], 0, 0), (5, 2, .iload 4, 0, [], 0, 0), (7, 1, .iload_n 1, 0, [], 0, 0), (8, 3, .if_icmp .ge 14, 22, [], 0, 0), (11, 1, .lload_n 2, 0, [], 0, 0), (12, 1, .iload_n 0, 0, [], 0, 0), (13, 1, .i2l, 0, [], 0, 0), (14, 1, .lmul, 0, [], 0, 0), (15, 1, .lstore_n 2, 0, [], 0, 0), (16, 3, .iinc 4 1, 0, [], 1, 0), (19, 3, .goto (-14), 5, [], 0, 0), (22, 1, .lload_n 2, 0, [], 0, 0), (23, 1, .lreturn, 0, [], 0, 0)]
theorem tk_GF_power : ∀ e ∈ tab_GF_power, sTok "GathersAllFaults" prog_1_method_44_code e := tab_of (by decide +kernel)
def tab_GF_fraction : List sT := [(0, 1, .lload_n 0, 0, [], 0, 0), (1, 2, .lstore 5, 0, [], 0, 0), (3, 1, .lload_n 2, 0, [], 0, 0), (4, 2, .lstore 7, 0, [], 0, 0), (6, 1, .iconst 0, 0, [], 0, 0), (7, 2, .istore 9, 0, [], 0, 0), (9, 2, .iload 9, 0, [], 0, 0), (11, 3, .sipush 200, 0, [], 200, 0), (14, 3, .if_icmp .ge 31, 45, [], 0, 0), (17, 2, .lload 7, 0, [], 0, 0), (19, 1, .lconst 0, 0, [], 0, 0), (20, 1, .lcmp, 0, [], 0, 0), (21, 3, .ifCond .eq 24, 45, [], 0, 0), (24, 2, .lload 5, 0, [], 0, 0), (26, 2, .lload 7, 0, [], 0, 0), (28, 1, .lrem, 0, [], 0, 0), (29, 2, .lstore 10, 0, [], 0, 0), (31, 2, .lload 7, 0, [], 0, 0), (33, 2, .lstore 5, 0, [], 0, 0), (35, 2, .lload 10, 0, [], 0, 0), (37, 2, .lstore 7, 0, [], 0, 0), (39, 3, .iinc 9 1, 0, [], 1, 0), (42, 3, .goto (-33), 9, [], 0, 0), (45, 2, .iload 4, 0, [], 0, 0), (47, 3, .ifCond .ne 7, 54, [], 0, 0), (50, 1, .lload_n 0, 0, [], 0, 0), (51, 3, .goto 4, 55, [], 0, 0), (54, 1, .lload_n 2, 0, [], 0, 0), (55, 2, .lstore 9, 0, [], 0, 0), (57, 2, .lload 5, 0, [], 0, 0), (59, 1, .lconst 0, 0, [], 0, 0), (60, 1, .lcmp, 0, [], 0, 0), (61, 3, .ifCond .le 11, 72, [], 0, 0), (64, 2, .lload 9, 0, [], 0, 0), (66, 2, .lload 5, 0, [], 0, 0), (68, 1, .ldiv, 0, [], 0, 0), (69, 3, .goto 5, 74, [], 0, 0), (72, 2, .lload 9, 0, [], 0, 0), (74, 1, .lreturn, 0, [], 0, 0)]
theorem tk_GF_fraction : ∀ e ∈ tab_GF_fraction, sTok "GathersAllFaults" prog_1_method_43_code e := tab_of (by decide +kernel)
def tab_GF_mean : List sT := [(0, 1, .iload_n 1, 0, [], 0, 0), (1, 3, .ifCond .eq 15, 16, [], 0, 0), (4, 1, .iload_n 1, 0, [], 0, 0), (5, 1, .iconst 1, 0, [], 1, 0), (6, 3, .if_icmp .eq 10, 16, [], 0, 0), (9, 1, .aload_n 0, 0, [], 0, 0), (10, 2, .bipush (-2), 0, [], (-2), 0), (12, 3, .invokevirtual 164, 0, [], 0, 0), (15, 1, .lreturn, 0, [], 0, 0), (16, 1, .aload_n 0, 0, [], 0, 0), (17, 3, .getfield 22, 0, [], 0, 0), (20, 1, .aload_n 0, 0, [], 0, 0), (21, 3, .getfield 10, 0, [], 0, 0), (24, 3, .invokevirtual 121, 0, [], 0, 0), (27, 1, .i2l, 0, [], 0, 0), (28, 1, .aload_n 0, 0, [], 0, 0), (29, 3, .getfield 10, 0, [], 0, 0), (32, 3, .getfield 83, 0, [], 0, 0), (35, 1, .i2l, 0, [], 0, 0), (36, 1, .iload_n 1, 0, [], 0, 0), (37, 3, .invokestatic 185, 0, [], 0, 0), (40, 1, .lreturn, 0, [], 0, 0)]
theorem tk_GF_mean : ∀ e ∈ tab_GF_mean, sTok "GathersAllFaults" prog_1_method_24_code e := tab_of (by decide +kernel)
def tab_GF_which : List sT := [(0, 1, .aload_n 0, 0, [], 0, 0), (1, 3, .getfield 10, 0, [], 0, 0), (4, 1, .iload_n 1, 0, [], 0, 0), (5, 3, .invokevirtual 96, 0, [], 0, 0), (8, 1, .istore_n 2, 0, [], 0, 0), (9, 1, .iload_n 2, 0, [], 0, 0), (10, 3, .ifCond .ge 9, 19, [], 0, 0), (13, 1, .aload_n 0, 0, [], 0, 0), (14, 1, .iconst (-1), 0, [], (-1), 0), (15, 3, .invokevirtual 60, 0, [], 0, 0), (18, 1, .ireturn, 0, [], 0, 0), (19, 1, .aload_n 0, 0, [], 0, 0), (20, 3, .getfield 16, 0, [], 0, 0), (23, 1, .aload_n 0, 0, [], 0, 0), (24, 3, .getfield 10, 0, [], 0, 0), (27, 3, .invokevirtual 79, 0, [], 0, 0), (30, 1, .iconst 0, 0, [], 0, 0), (31, 1, .istore_n 3, 0, [], 0, 0), (32, 1, .iconst 0, 0, [], 0, 0), (33, 2, .istore 4, 0, [], 0, 0), (35, 2, .iload 4, 0, [], 0, 0), (37, 2, .bipush 16, 0, [], 16, 0), (39, 3, .if_icmp .ge 50, 89, [], 0, 0), (42, 1, .aload_n 0, 0, [], 0, 0), (43, 3, .getfield 16, 0, [], 0, 0), (46, 1, .iload_n 2, 0, [], 0, 0), (47, 1, .iconst 0, 0, [], 0, 0), (48, 2, .iload 4, 0, [], 0, 0), (50, 3, .invokevirtual 117, 0, [], 0, 0), (53, 1, .aload_n 0, 0, [], 0, 0), (54, 3, .getfield 22, 0, [], 0, 0), (57, 1, .aload_n 0, 0, [], 0, 0), (58, 3, .getfield 16, 0, [], 0, 0), (61, 3, .invokevirtual 121, 0, [], 0, 0), (64, 1, .pop, 0, [], 0, 0), (65, 1, .aload_n 0, 0, [], 0, 0), (66, 3, .invokevirtual 189, 0, [], 0, 0), (69, 1, .aload_n 0, 0, [], 0, 0), (70, 3, .getfield 192, 0, [], 0, 0), (73, 3, .if_icmp .ne 10, 83, [], 0, 0), (76, 1, .iload_n 3, 0, [], 0, 0), (77, 1, .iconst 1, 0, [], 1, 0), (78, 2, .iload 4, 0, [], 0, 0), (80, 1, .ishl, 0, [], 0, 0), (81, 1, .ior, 0, [], 0, 0), (82, 1, .istore_n 3, 0, [], 0, 0), (83, 3, .iinc 4 1, 0, [], 1, 0), (86, 3, .goto (-51), 35, [], 0, 0), (89, 1, .iload_n 3, 0, [], 0, 0), (90, 1, .ireturn, 0, [], 0, 0)]
theorem tk_GF_which : ∀ e ∈ tab_GF_which, sTok "GathersAllFaults" prog_1_method_25_code e := tab_of (by decide +kernel)
def tab_GF_firstMistold : List sT := [(0, 1, .iconst 0, 0, [], 0, 0), (1, 1, .istore_n 1, 0, [], 0, 0), (2, 1, .iload_n 1, 0, [], 0, 0), (3, 1, .aload_n 0, 0, [], 0, 0), (4, 3, .getfield 192, 0, [], 0, 0), (7, 3, .if_icmp .ge 41, 48, [], 0, 0), (10, 1, .iload_n 1, 0, [], 0, 0), (11, 1, .aload_n 0, 0, [], 0, 0), (12, 3, .getfield 22, 0, [], 0, 0), (15, 3, .getfield 216, 0, [], 0, 0), (18, 3, .if_icmp .ge 22, 40, [], 0, 0), (21, 1, .aload_n 0, 0, [], 0, 0), (22, 3, .getfield 44, 0, [], 0, 0), (25, 1, .iload_n 1, 0, [], 0, 0), (26, 3, .invokestatic 102, 0, [], 0, 0), (29, 1, .aload_n 0, 0, [], 0, 0), (30, 3, .getfield 22, 0, [], 0, 0), (33, 1, .iload_n 1, 0, [], 0, 0), (34, 3, .invokevirtual 128, 0, [], 0, 0), (37, 3, .if_icmp .eq 5, 42, [], 0, 0), (40, 1, .iload_n 1, 0, [], 0, 0), (41, 1, .ireturn, 0, [], 0, 0), (42, 3, .iinc 1 1, 0, [], 1, 0), (45, 3, .goto (-43), 2, [], 0, 0), (48, 1, .aload_n 0, 0, [], 0, 0), (49, 3, .getfield 192, 0, [], 0, 0), (52, 1, .ireturn, 0, [], 0, 0)]
theorem tk_GF_firstMistold : ∀ e ∈ tab_GF_firstMistold, sTok "GathersAllFaults" prog_1_method_38_code e := tab_of (by decide +kernel)
def tab_GF_row : List sT := [(0, 1, .iload_n 1, 0, [], 0, 0), (1, 3, .ifCond .ge 10, 11, [], 0, 0), (4, 1, .aload_n 0, 0, [], 0, 0), (5, 2, .bipush (-4), 0, [], (-4), 0), (7, 3, .invokevirtual 60, 0, [], 0, 0), (10, 1, .ireturn, 0, [], 0, 0), (11, 1, .iload_n 1, 0, [], 0, 0), (12, 2, .bipush 99, 0, [], 99, 0), (14, 3, .if_icmp .gt 12, 26, [], 0, 0), (17, 1, .aload_n 0, 0, [], 0, 0), (18, 3, .getfield 192, 0, [], 0, 0), (21, 2, .bipush 32, 0, [], 32, 0), (23, 3, .if_icmp .lt 10, 33, [], 0, 0), (26, 1, .aload_n 0, 0, [], 0, 0), (27, 2, .bipush (-6), 0, [], (-6), 0), (29, 3, .invokevirtual 60, 0, [], 0, 0), (32, 1, .ireturn, 0, [], 0, 0), (33, 1, .aload_n 0, 0, [], 0, 0), (34, 3, .getfield 44, 0, [], 0, 0), (37, 1, .aload_n 0, 0, [], 0, 0), (38, 3, .getfield 192, 0, [], 0, 0), (41, 1, .iload_n 1, 0, [], 0, 0), (42, 3, .invokestatic 68, 0, [], 0, 0), (45, 1, .aload_n 0, 0, [], 0, 0), (46, 1, .dup, 0, [], 0, 0), (47, 3, .getfield 192, 0, [], 0, 0), (50, 1, .iconst 1, 0, [], 1, 0), (51, 1, .iadd, 0, [], 0, 0), (52, 3, .putfield 192, 0, [], 0, 0), (55, 1, .aload_n 0, 0, [], 0, 0), (56, 3, .getfield 192, 0, [], 0, 0), (59, 1, .ireturn, 0, [], 0, 0)]
theorem tk_GF_row : ∀ e ∈ tab_GF_row, sTok "GathersAllFaults" prog_1_method_26_code e := tab_of (by decide +kernel)
def tab_GF_judge : List sT := [(0, 1, .aload_n 0, 0, [], 0, 0), (1, 3, .getfield 22, 0, [], 0, 0), (4, 1, .aload_n 0, 0, [], 0, 0), (5, 3, .getfield 10, 0, [], 0, 0), (8, 3, .invokevirtual 121, 0, [], 0, 0), (11, 1, .istore_n 1, 0, [], 0, 0), (12, 1, .aload_n 0, 0, [], 0, 0), (13, 3, .invokevirtual 189, 0, [], 0, 0), (16, 1, .istore_n 2, 0, [], 0, 0), (17, 1, .iload_n 2, 0, [], 0, 0), (18, 1, .aload_n 0, 0, [], 0, 0), (19, 3, .getfield 192, 0, [], 0, 0), (22, 3, .if_icmp .ne 12, 34, [], 0, 0), (25, 1, .iload_n 2, 0, [], 0, 0), (26, 1, .iload_n 1, 0, [], 0, 0), (27, 3, .if_icmp .ne 7, 34, [], 0, 0), (30, 1, .iconst 1, 0, [], 1, 0), (31, 3, .goto 4, 35, [], 0, 0), (34, 1, .iconst 0, 0, [], 0, 0), (35, 1, .istore_n 3, 0, [], 0, 0), (36, 1, .aload_n 0, 0, [], 0, 0), (37, 1, .iconst 0, 0, [], 0, 0), (38, 3, .putfield 192, 0, [], 0, 0), (41, 1, .iload_n 3, 0, [], 0, 0), (42, 3, .ifCond .eq 8, 50, [], 0, 0), (45, 2, .bipush (-9), 0, [], (-9), 0), (47, 3, .goto 4, 51, [], 0, 0), (50, 1, .iload_n 2, 0, [], 0, 0), (51, 1, .ireturn, 0, [], 0, 0)]
theorem tk_GF_judge : ∀ e ∈ tab_GF_judge, sTok "GathersAllFaults" prog_1_method_27_code e := tab_of (by decide +kernel)
def tab_GF_clear : List sT := [(0, 1, .aload_n 0, 0, [], 0, 0), (1, 3, .getfield 192, 0, [], 0, 0), (4, 1, .istore_n 1, 0, [], 0, 0), (5, 1, .aload_n 0, 0, [], 0, 0), (6, 1, .iconst 0, 0, [], 0, 0), (7, 3, .putfield 192, 0, [], 0, 0), (10, 1, .iload_n 1, 0, [], 0, 0), (11, 1, .ireturn, 0, [], 0, 0)]
theorem tk_GF_clear : ∀ e ∈ tab_GF_clear, sTok "GathersAllFaults" prog_1_method_28_code e := tab_of (by decide +kernel)
def tab_GF_lots : List sT := [(0, 1, .iload_n 1, 0, [], 0, 0), (1, 1, .iconst 1, 0, [], 1, 0), (2, 3, .if_icmp .ge 10, 12, [], 0, 0), (5, 1, .aload_n 0, 0, [], 0, 0), (6, 2, .bipush (-4), 0, [], (-4), 0), (8, 3, .invokevirtual 60, 0, [], 0, 0), (11, 1, .ireturn, 0, [], 0, 0), (12, 1, .iload_n 1, 0, [], 0, 0), (13, 2, .bipush 20, 0, [], 20, 0), (15, 3, .if_icmp .le 10, 25, [], 0, 0), (18, 1, .aload_n 0, 0, [], 0, 0), (19, 2, .bipush (-6), 0, [], (-6), 0), (21, 3, .invokevirtual 60, 0, [], 0, 0), (24, 1, .ireturn, 0, [], 0, 0), (25, 1, .iload_n 3, 0, [], 0, 0), (26, 3, .ifCond .eq 15, 41, [], 0, 0), (29, 1, .iload_n 3, 0, [], 0, 0), (30, 1, .iconst 1, 0, [], 1, 0), (31, 3, .if_icmp .eq 10, 41, [], 0, 0), (34, 1, .aload_n 0, 0, [], 0, 0), (35, 2, .bipush (-2), 0, [], (-2), 0), (37, 3, .invokevirtual 60, 0, [], 0, 0), (40, 1, .ireturn, 0, [], 0, 0), (41, 1, .aload_n 0, 0, [], 0, 0), (42, 1, .iload_n 2, 0, [], 0, 0), (43, 3, .putfield 195, 0, [], 0, 0), (46, 1, .iconst 0, 0, [], 0, 0), (47, 2, .istore 4, 0, [], 0, 0), (49, 1, .iconst 0, 0, [], 0, 0), (50, 2, .istore 5, 0, [], 0, 0), (52, 1, .iconst 0, 0, [], 0, 0), (53, 2, .istore 6, 0, [], 0, 0), (55, 2, .iload 6, 0, [], 0, 0), (57, 1, .iload_n 1, 0, [], 0, 0), (58, 3, .if_icmp .ge 41, 99, [], 0, 0), (61, 1, .aload_n 0, 0, [], 0, 0), (62, 3, .invokevirtual 198, 0, [], 0, 0), (65, 1, .aload_n 0, 0, [], 0, 0), (66, 3, .getfield 22, 0, [], 0, 0), (69, 1, .aload_n 0, 0, [], 0, 0), (70, 3, .getfield 16, 0, [], 0, 0), (73, 3, .invokevirtual 121, 0, [], 0, 0), (76, 2, .istore 7, 0, [], 0, 0), (78, 2, .iload 4, 0, [], 0, 0), (80, 2, .iload 7, 0, [], 0, 0), (82, 1, .iadd, 0, [], 0, 0), (83, 2, .istore 4, 0, [], 0, 0), (85, 2, .iload 7, 0, [], 0, 0), (87, 3, .ifCond .ne 6, 93, [], 0, 0), (90, 3, .iinc 5 1, 0, [], 1, 0), (93, 3, .iinc 6 1, 0, [], 1, 0), (96, 3, .goto (-41), 55, [], 0, 0), (99, 1, .iload_n 3, 0, [], 0, 0), (100, 3, .ifCond .ne 8, 108, [], 0, 0), (103, 2, .iload 4, 0, [], 0, 0), (105, 3, .goto 5, 110, [], 0, 0), (108, 2, .iload 5, 0, [], 0, 0), (110, 1, .ireturn, 0, [], 0, 0)]
theorem tk_GF_lots : ∀ e ∈ tab_GF_lots, sTok "GathersAllFaults" prog_1_method_29_code e := tab_of (by decide +kernel)
def tab_GF_tryLots : List sT := [(0, 1, .aload_n 0, 0, [], 0, 0), (1, 3, .getfield 16, 0, [], 0, 0), (4, 1, .aload_n 0, 0, [], 0, 0), (5, 3, .getfield 10, 0, [], 0, 0), (8, 3, .invokevirtual 79, 0, [], 0, 0), (11, 1, .iconst 0, 0, [], 0, 0), (12, 1, .istore_n 1, 0, [], 0, 0), (13, 1, .iload_n 1, 0, [], 0, 0), (14, 1, .iconst 4, 0, [], 4, 0), (15, 3, .if_icmp .ge 57, 72, [], 0, 0), (18, 1, .aload_n 0, 0, [], 0, 0), (19, 1, .aload_n 0, 0, [], 0, 0), (20, 3, .getfield 16, 0, [], 0, 0), (23, 3, .getfield 83, 0, [], 0, 0), (26, 3, .invokevirtual 210, 0, [], 0, 0), (29, 1, .istore_n 2, 0, [], 0, 0), (30, 1, .aload_n 0, 0, [], 0, 0), (31, 1, .iconst 4, 0, [], 4, 0), (32, 3, .invokevirtual 210, 0, [], 0, 0), (35, 3, .ifCond .ne 16, 51, [], 0, 0), (38, 1, .aload_n 0, 0, [], 0, 0), (39, 3, .getfield 16, 0, [], 0, 0), (42, 1, .iload_n 2, 0, [], 0, 0), (43, 1, .iconst 1, 0, [], 1, 0), (44, 1, .iconst 0, 0, [], 0, 0), (45, 3, .invokevirtual 117, 0, [], 0, 0), (48, 3, .goto 18, 66, [], 0, 0), (51, 1, .aload_n 0, 0, [], 0, 0), (52, 3, .getfield 16, 0, [], 0, 0), (55, 1, .iload_n 2, 0, [], 0, 0), (56, 1, .iconst 0, 0, [], 0, 0), (57, 1, .aload_n 0, 0, [], 0, 0), (58, 2, .bipush 100, 0, [], 100, 0), (60, 3, .invokevirtual 210, 0, [], 0, 0), (63, 3, .invokevirtual 117, 0, [], 0, 0), (66, 3, .iinc 1 1, 0, [], 1, 0), (69, 3, .goto (-56), 13, [], 0, 0), (72, 1, .return_, 0, [], 0, 0)]
theorem tk_GF_tryLots : ∀ e ∈ tab_GF_tryLots, sTok "GathersAllFaults" prog_1_method_36_code e := tab_of (by decide +kernel)
def tab_GF_draw : List sT := [(0, 1, .aload_n 0, 0, [], 0, 0), (1, 1, .aload_n 0, 0, [], 0, 0), (2, 3, .getfield 195, 0, [], 0, 0), (5, 2, .ldc 213, 0, [], 1664525, 0), (7, 1, .imul, 0, [], 0, 0), (8, 2, .ldc 214, 0, [], 1013904223, 0), (10, 1, .iadd, 0, [], 0, 0), (11, 3, .putfield 195, 0, [], 0, 0), (14, 1, .aload_n 0, 0, [], 0, 0), (15, 3, .getfield 195, 0, [], 0, 0), (18, 2, .ldc 215, 0, [], 2147483647, 0), (20, 1, .iand, 0, [], 0, 0), (21, 3, .sipush 256, 0, [], 256, 0), (24, 1, .idiv, 0, [], 0, 0), (25, 1, .istore_n 2, 0, [], 0, 0), (26, 1, .iload_n 1, 0, [], 0, 0), (27, 3, .ifCond .le 9, 36, [], 0, 0), (30, 1, .iload_n 2, 0, [], 0, 0), (31, 1, .iload_n 1, 0, [], 0, 0), (32, 1, .irem, 0, [], 0, 0), (33, 3, .goto 4, 37, [], 0, 0), (36, 1, .iconst 0, 0, [], 0, 0), (37, 1, .ireturn, 0, [], 0, 0)]
theorem tk_GF_draw : ∀ e ∈ tab_GF_draw, sTok "GathersAllFaults" prog_1_method_37_code e := tab_of (by decide +kernel)
def tab_GF_image : List sT := [(0, 1, .aload_n 0, 0, [], 0, 0), (1, 3, .getfield 50, 0, [], 0, 0), (4, 1, .aload_n 0, 0, [], 0, 0), (5, 3, .getfield 10, 0, [], 0, 0), (8, 3, .invokevirtual 79, 0, [], 0, 0), (11, 1, .aload_n 0, 0, [], 0, 0), (12, 3, .getfield 56, 0, [], 0, 0), (15, 1, .aload_n 0, 0, [], 0, 0), (16, 3, .getfield 22, 0, [], 0, 0), (19, 3, .getfield 87, 0, [], 0, 0), (22, 3, .invokevirtual 92, 0, [], 0, 0), (25, 1, .aload_n 0, 0, [], 0, 0), (26, 1, .iconst 1, 0, [], 1, 0), (27, 3, .putfield 201, 0, [], 0, 0), (30, 1, .aload_n 0, 0, [], 0, 0), (31, 3, .getfield 10, 0, [], 0, 0), (34, 3, .getfield 83, 0, [], 0, 0), (37, 1, .ireturn, 0, [], 0, 0)]
theorem tk_GF_image : ∀ e ∈ tab_GF_image, sTok "GathersAllFaults" prog_1_method_30_code e := tab_of (by decide +kernel)
def tab_GF_on : List sT := [(0, 1, .aload_n 0, 0, [], 0, 0), (1, 3, .getfield 201, 0, [], 0, 0), (4, 3, .ifCond .ne 10, 14, [], 0, 0), (7, 1, .aload_n 0, 0, [], 0, 0), (8, 2, .bipush (-3), 0, [], (-3), 0), (10, 3, .invokevirtual 60, 0, [], 0, 0), (13, 1, .ireturn, 0, [], 0, 0), (14, 1, .aload_n 0, 0, [], 0, 0), (15, 3, .getfield 10, 0, [], 0, 0), (18, 1, .aload_n 0, 0, [], 0, 0), (19, 3, .getfield 50, 0, [], 0, 0), (22, 3, .invokevirtual 79, 0, [], 0, 0), (25, 1, .aload_n 0, 0, [], 0, 0), (26, 3, .getfield 22, 0, [], 0, 0), (29, 3, .getfield 87, 0, [], 0, 0), (32, 1, .aload_n 0, 0, [], 0, 0), (33, 3, .getfield 56, 0, [], 0, 0), (36, 3, .invokevirtual 92, 0, [], 0, 0), (39, 1, .aload_n 0, 0, [], 0, 0), (40, 3, .getfield 10, 0, [], 0, 0), (43, 3, .getfield 83, 0, [], 0, 0), (46, 1, .ireturn, 0, [], 0, 0)]
theorem tk_GF_on : ∀ e ∈ tab_GF_on, sTok "GathersAllFaults" prog_1_method_31_code e := tab_of (by decide +kernel)
def tab_GF_count : List sT := [(0, 1, .iload_n 1, 0, [], 0, 0), (1, 47, .tableswitch 118 0 7 #[47, 55, 66, 78, 83, 88, 108, 113], 119, [(0, 48), (1, 56), (2, 67), (3, 79), (4, 84), (5, 89), (6, 109), (7, 114)], 0, 0), (48, 1, .aload_n 0, 0, [], 0, 0), (49, 3, .getfield 10, 0, [], 0, 0), (52, 3, .getfield 83, 0, [], 0, 0), (55, 1, .ireturn, 0, [], 0, 0), (56, 1, .aload_n 0, 0, [], 0, 0), (57, 3, .getfield 22, 0, [], 0, 0), (60, 3, .getfield 87, 0, [], 0, 0), (63, 3, .getfield 95, 0, [], 0, 0), (66, 1, .ireturn, 0, [], 0, 0), (67, 1, .aload_n 0, 0, [], 0, 0), (68, 3, .getfield 22, 0, [], 0, 0), (71, 1, .aload_n 0, 0, [], 0, 0), (72, 3, .getfield 10, 0, [], 0, 0), (75, 3, .invokevirtual 121, 0, [], 0, 0), (78, 1, .ireturn, 0, [], 0, 0), (79, 1, .aload_n 0, 0, [], 0, 0), (80, 3, .invokevirtual 168, 0, [], 0, 0), (83, 1, .ireturn, 0, [], 0, 0), (84, 1, .aload_n 0, 0, [], 0, 0), (85, 3, .invokevirtual 205, 0, [], 0, 0), (88, 1, .ireturn, 0, [], 0, 0), (89, 1, .aload_n 0, 0, [], 0, 0), (90, 3, .getfield 22, 0, [], 0, 0), (93, 1, .aload_n 0, 0, [], 0, 0), (94, 3, .getfield 10, 0, [], 0, 0), (97, 3, .invokevirtual 121, 0, [], 0, 0), (100, 1, .pop, 0, [], 0, 0), (101, 1, .aload_n 0, 0, [], 0, 0), (102, 3, .getfield 22, 0, [], 0, 0), (105, 3, .getfield 139, 0, [], 0, 0), (108, 1, .ireturn, 0, [], 0, 0), (109, 1, .aload_n 0, 0, [], 0, 0), (110, 3, .getfield 192, 0, [], 0, 0), (113, 1, .ireturn, 0, [], 0, 0), (114, 1, .aload_n 0, 0, [], 0, 0), (115, 3, .getfield 64, 0, [], 0, 0), (118, 1, .ireturn, 0, [], 0, 0), (119, 1, .iload_n 1, 0, [], 0, 0), (120, 2, .bipush 11, 0, [], 11, 0), (122, 3, .if_icmp .lt 23, 145, [], 0, 0), (125, 1, .iload_n 1, 0, [], 0, 0), (126, 2, .bipush 16, 0, [], 16, 0), (128, 3, .if_icmp .gt 17, 145, [], 0, 0), (131, 1, .aload_n 0, 0, [], 0, 0), (132, 3, .getfield 47, 0, [], 0, 0), (135, 1, .iload_n 1, 0, [], 0, 0), (136, 2, .bipush 10, 0, [], 10, 0), (138, 1, .isub, 0, [], 0, 0), (139, 3, .invokestatic 102, 0, [], 0, 0), (142, 3, .goto 5, 147, [], 0, 0), (145, 2, .bipush (-9), 0, [], (-9), 0), (147, 1, .ireturn, 0, [], 0, 0)]
theorem tk_GF_count : ∀ e ∈ tab_GF_count, sTok "GathersAllFaults" prog_1_method_32_code e := tab_of (by decide +kernel)
def tab_GF_greatestPath : List sT := [(0, 1, .iconst 0, 0, [], 0, 0), (1, 1, .istore_n 1, 0, [], 0, 0), (2, 1, .iconst 0, 0, [], 0, 0), (3, 1, .istore_n 2, 0, [], 0, 0), (4, 1, .iload_n 2, 0, [], 0, 0), (5, 1, .aload_n 0, 0, [], 0, 0), (6, 3, .getfield 10, 0, [], 0, 0), (9, 3, .getfield 83, 0, [], 0, 0), (12, 3, .if_icmp .ge 25, 37, [], 0, 0), (15, 1, .iload_n 1, 0, [], 0, 0), (16, 1, .aload_n 0, 0, [], 0, 0), (17, 3, .getfield 10, 0, [], 0, 0), (20, 3, .getfield 114, 0, [], 0, 0), (23, 1, .iload_n 2, 0, [], 0, 0), (24, 3, .invokestatic 102, 0, [], 0, 0), (27, 3, .invokestatic 217, 0, [], 0, 0), (30, 1, .istore_n 1, 0, [], 0, 0), (31, 3, .iinc 2 1, 0, [], 1, 0), (34, 3, .goto (-30), 4, [], 0, 0), (37, 1, .iload_n 1, 0, [], 0, 0), (38, 1, .ireturn, 0, [], 0, 0)]
theorem tk_GF_greatestPath : ∀ e ∈ tab_GF_greatestPath, sTok "GathersAllFaults" prog_1_method_42_code e := tab_of (by decide +kernel)
end
section
/-! the instructions of the reference, read off their bytes -/
def tab_MO_measures : List sT := [(0, 1, .aload_n 0, 0, [], 0, 0), (1, 3, .getfield 118, 0, [], 0, 0), (4, 1, .iconst 1, 0, [], 1, 0), (5, 1, .isub, 0, [], 0, 0), (6, 1, .istore_n 1, 0, [], 0, 0), (7, 1, .iload_n 1, 0, [], 0, 0), (8, 3, .ifCond .lt 48, 56, [], 0, 0), (11, 1, .iload_n 1, 0, [], 0, 0), (12, 1, .iconst 1, 0, [], 1, 0), (13, 1, .iadd, 0, [], 0, 0), (14, 1, .istore_n 2, 0, [], 0, 0), (15, 1, .iconst 0, 0, [], 0, 0), (16, 1, .istore_n 3, 0, [], 0, 0), (17, 1, .iload_n 3, 0, [], 0, 0), (18, 1, .aload_n 0, 0, [], 0, 0), (19, 1, .iload_n 1, 0, [], 0, 0), (20, 3, .invokevirtual 134, 0, [], 0, 0), (23, 3, .if_icmp .ge 18, 41, [], 0, 0), (26, 1, .iload_n 2, 0, [], 0, 0), (27, 1, .aload_n 0, 0, [], 0, 0), (28, 3, .getfield 22, 0, [], 0, 0), (31, 1, .iload_n 2, 0, [], 0, 0), (32, 1, .iaload, 0, [], 0, 0), (33, 1, .iadd, 0, [], 0, 0), (34, 1, .istore_n 2, 0, [], 0, 0), (35, 3, .iinc 3 1, 0, [], 1, 0), (38, 3, .goto (-21), 17, [], 0, 0), (41, 1, .aload_n 0, 0, [], 0, 0), (42, 3, .getfield 22, 0, [], 0, 0), (45, 1, .iload_n 1, 0, [], 0, 0), (46, 1, .iload_n 2, 0, [], 0, 0), (47, 1, .iload_n 1, 0, [], 0, 0), (48, 1, .isub, 0, [], 0, 0), (49, 1, .iastore, 0, [], 0, 0), (50, 3, .iinc 1 (-1), 0, [], (-1), 0), (53, 3, .goto (-46), 7, [], 0, 0), (56, 1, .aload_n 0, 0, [], 0, 0), (57, 3, .getfield 25, 0, [], 0, 0), (60, 1, .iconst 0, 0, [], 0, 0), (61, 1, .iconst 0, 0, [], 0, 0), (62, 1, .iastore, 0, [], 0, 0), (63, 1, .iconst 0, 0, [], 0, 0), (64, 1, .istore_n 1, 0, [], 0, 0), (65, 1, .iload_n 1, 0, [], 0, 0), (66, 1, .aload_n 0, 0, [], 0, 0), (67, 3, .getfield 118, 0, [], 0, 0), (70, 3, .if_icmp .ge 78, 148, [], 0, 0), (73, 1, .iload_n 1, 0, [], 0, 0), (74, 1, .iconst 1, 0, [], 1, 0), (75, 1, .iadd, 0, [], 0, 0), (76, 1, .istore_n 2, 0, [], 0, 0), (77, 1, .iconst 0, 0, [], 0, 0), (78, 1, .istore_n 3, 0, [], 0, 0), (79, 1, .iload_n 3, 0, [], 0, 0), (80, 1, .aload_n 0, 0, [], 0, 0), (81, 1, .iload_n 1, 0, [], 0, 0), (82, 3, .invokevirtual 134, 0, [], 0, 0), (85, 3, .if_icmp .ge 57, 142, [], 0, 0), (88, 1, .aload_n 0, 0, [], 0, 0), (89, 3, .getfield 25, 0, [], 0, 0), (92, 1, .iload_n 2, 0, [], 0, 0), (93, 2, .bipush 10, 0, [], 10, 0), (95, 1, .aload_n 0, 0, [], 0, 0), (96, 3, .getfield 25, 0, [], 0, 0), (99, 1, .iload_n 1, 0, [], 0, 0), (100, 1, .iaload, 0, [], 0, 0), (101, 1, .imul, 0, [], 0, 0), (102, 1, .aload_n 0, 0, [], 0, 0), (103, 3, .getfield 13, 0, [], 0, 0), (106, 1, .iload_n 1, 0, [], 0, 0), (107, 1, .iaload, 0, [], 0, 0), (108, 1, .iconst 3, 0, [], 3, 0), (109, 3, .if_icmp .ne 10, 119, [], 0, 0), (112, 2, .bipush 6, 0, [], 6, 0), (114, 1, .iload_n 3, 0, [], 0, 0), (115, 1, .iadd, 0, [], 0, 0), (116, 3, .goto 9, 125, [], 0, 0), (119, 1, .aload_n 0, 0, [], 0, 0), (120, 3, .getfield 19, 0, [], 0, 0), (123, 1, .iload_n 2, 0, [], 0, 0), (124, 1, .iaload, 0, [], 0, 0), (125, 1, .iadd, 0, [], 0, 0), (126, 1, .iastore, 0, [], 0, 0), (127, 1, .iload_n 2, 0, [], 0, 0), (128, 1, .aload_n 0, 0, [], 0, 0), (129, 3, .getfield 22, 0, [], 0, 0), (132, 1, .iload_n 2, 0, [], 0, 0), (133, 1, .iaload, 0, [], 0, 0), (134, 1, .iadd, 0, [], 0, 0), (135, 1, .istore_n 2, 0, [], 0, 0), (136, 3, .iinc 3 1, 0, [], 1, 0), (139, 3, .goto (-60), 79, [], 0, 0), (142, 3, .iinc 1 1, 0, [], 1, 0), (145, 3, .goto (-80), 65, [], 0, 0), (148, 1, .return_, 0, [], 0, 0)]
theorem tk_MO_measures : ∀ e ∈ tab_MO_measures, sTok "GathersAllFaultsModel" prog_9_method_9_code e := tab_of (by decide +kernel)
def tab_MO_many : List sT := [(0, 1, .aload_n 0, 0, [], 0, 0), (1, 1, .iload_n 1, 0, [], 0, 0), (2, 3, .invokevirtual 130, 0, [], 0, 0), (5, 3, .ifCond .eq 12, 17, [], 0, 0), (8, 1, .aload_n 0, 0, [], 0, 0), (9, 3, .getfield 16, 0, [], 0, 0), (12, 1, .iload_n 1, 0, [], 0, 0), (13, 1, .iaload, 0, [], 0, 0), (14, 3, .goto 4, 18, [], 0, 0), (17, 1, .iconst 0, 0, [], 0, 0), (18, 1, .ireturn, 0, [], 0, 0)]
theorem tk_MO_many : ∀ e ∈ tab_MO_many, sTok "GathersAllFaultsModel" prog_9_method_8_code e := tab_of (by decide +kernel)
def tab_MO_isHolding : List sT := [(0, 1, .aload_n 0, 0, [], 0, 0), (1, 3, .getfield 13, 0, [], 0, 0), (4, 1, .iload_n 1, 0, [], 0, 0), (5, 1, .iaload, 0, [], 0, 0), (6, 1, .iconst 2, 0, [], 2, 0), (7, 3, .if_icmp .eq 13, 20, [], 0, 0), (10, 1, .aload_n 0, 0, [], 0, 0), (11, 3, .getfield 13, 0, [], 0, 0), (14, 1, .iload_n 1, 0, [], 0, 0), (15, 1, .iaload, 0, [], 0, 0), (16, 1, .iconst 3, 0, [], 3, 0), (17, 3, .if_icmp .ne 7, 24, [], 0, 0), (20, 1, .iconst 1, 0, [], 1, 0), (21, 3, .goto 4, 25, [], 0, 0), (24, 1, .iconst 0, 0, [], 0, 0), (25, 1, .ireturn, 0, [], 0, 0)]
theorem tk_MO_isHolding : ∀ e ∈ tab_MO_isHolding, sTok "GathersAllFaultsModel" prog_9_method_7_code e := tab_of (by decide +kernel)
def tab_MO_letter : List sT := [(0, 1, .iload_n 1, 0, [], 0, 0), (1, 1, .iconst 0, 0, [], 0, 0), (2, 3, .sipush 255, 0, [], 255, 0), (5, 3, .invokestatic 246, 0, [], 0, 0), (8, 1, .istore_n 2, 0, [], 0, 0), (9, 1, .iload_n 2, 0, [], 0, 0), (10, 3, .ifCond .ne 15, 25, [], 0, 0), (13, 1, .aload_n 0, 0, [], 0, 0), (14, 3, .getfield 250, 0, [], 0, 0), (17, 2, .bipush 96, 0, [], 96, 0), (19, 3, .if_icmp .ne 6, 25, [], 0, 0), (22, 2, .bipush (-6), 0, [], (-6), 0), (24, 1, .istore_n 2, 0, [], 0, 0), (25, 1, .iload_n 2, 0, [], 0, 0), (26, 3, .ifCond .eq 9, 35, [], 0, 0), (29, 1, .aload_n 0, 0, [], 0, 0), (30, 1, .iload_n 2, 0, [], 0, 0), (31, 3, .invokevirtual 253, 0, [], 0, 0), (34, 1, .ireturn, 0, [], 0, 0), (35, 1, .aload_n 0, 0, [], 0, 0), (36, 3, .getfield 94, 0, [], 0, 0), (39, 1, .aload_n 0, 0, [], 0, 0), (40, 3, .getfield 250, 0, [], 0, 0), (43, 1, .iload_n 1, 0, [], 0, 0), (44, 1, .iastore, 0, [], 0, 0), (45, 1, .aload_n 0, 0, [], 0, 0), (46, 1, .dup, 0, [], 0, 0), (47, 3, .getfield 250, 0, [], 0, 0), (50, 1, .iconst 1, 0, [], 1, 0), (51, 1, .iadd, 0, [], 0, 0), (52, 3, .putfield 250, 0, [], 0, 0), (55, 1, .aload_n 0, 0, [], 0, 0), (56, 3, .getfield 250, 0, [], 0, 0), (59, 1, .ireturn, 0, [], 0, 0)]
theorem tk_MO_letter : ∀ e ∈ tab_MO_letter, sTok "GathersAllFaultsModel" prog_9_method_41_code e := tab_of (by decide +kernel)
def tab_MO_bound : List sT := [(0, 1, .iload_n 0, 0, [], 0, 0), (1, 1, .iload_n 1, 0, [], 0, 0), (2, 3, .if_icmp .ge 8, 10, [], 0, 0), (5, 2, .bipush (-4), 0, [], (-4), 0), (7, 3, .goto 14, 21, [], 0, 0), (10, 1, .iload_n 0, 0, [], 0, 0), (11, 1, .iload_n 2, 0, [], 0, 0), (12, 3, .if_icmp .le 8, 20, [], 0, 0), (15, 2, .bipush (-6), 0, [], (-6), 0), (17, 3, .goto 4, 21, [], 0, 0), (20, 1, .iconst 0, 0, [], 0, 0), (21, 1, .ireturn, 0, [], 0, 0)]
theorem tk_MO_bound : ∀ e ∈ tab_MO_bound, sTok "GathersAllFaultsModel" prog_9_method_5_code e := tab_of (by decide +kernel)
def tab_MO_no : List sT := [(0, 1, .aload_n 0, 0, [], 0, 0), (1, 3, .getfield 7, 0, [], 0, 0), (4, 1, .iload_n 1, 0, [], 0, 0), (5, 1, .ineg, 0, [], 0, 0), (6, 1, .dup2, 0, [], 0, 0), (7, 1, .iaload, 0, [], 0, 0), (8, 1, .iconst 1, 0, [], 1, 0), (9, 1, .iadd, 0, [], 0, 0), (10, 1, .iastore, 0, [], 0, 0), (11, 1, .iload_n 1, 0, [], 0, 0), (12, 1, .ireturn, 0, [], 0, 0)]
theorem tk_MO_no : ∀ e ∈ tab_MO_no, sTok "GathersAllFaultsModel" prog_9_method_2_code e := tab_of (by decide +kernel)
def tab_MO_value : List sT := [(0, 1, .aload_n 0, 0, [], 0, 0), (1, 1, .iconst 1, 0, [], 1, 0), (2, 1, .iconst 1, 0, [], 1, 0), (3, 3, .invokevirtual 310, 0, [], 0, 0), (6, 1, .aload_n 0, 0, [], 0, 0), (7, 3, .invokevirtual 314, 0, [], 0, 0), (10, 1, .istore_n 1, 0, [], 0, 0), (11, 1, .aload_n 0, 0, [], 0, 0), (12, 1, .iconst 0, 0, [], 0, 0), (13, 3, .putfield 250, 0, [], 0, 0), (16, 1, .iload_n 1, 0, [], 0, 0), (17, 3, .ifCond .eq 19, 36, [], 0, 0), (20, 1, .aload_n 0, 0, [], 0, 0), (21, 3, .getfield 263, 0, [], 0, 0), (24, 3, .ifCond .ge 12, 36, [], 0, 0), (27, 1, .aload_n 0, 0, [], 0, 0), (28, 3, .invokevirtual 125, 0, [], 0, 0), (31, 1, .aload_n 0, 0, [], 0, 0), (32, 3, .getfield 118, 0, [], 0, 0), (35, 1, .ireturn, 0, [], 0, 0), (36, 1, .aload_n 0, 0, [], 0, 0), (37, 1, .iconst 1, 0, [], 1, 0), (38, 1, .iconst 0, 0, [], 0, 0), (39, 3, .invokevirtual 310, 0, [], 0, 0), (42, 1, .iload_n 1, 0, [], 0, 0), (43, 3, .ifCond .eq 14, 57, [], 0, 0), (46, 3, .sipush (-2000), 0, [], (-2000), 0), (49, 1, .aload_n 0, 0, [], 0, 0), (50, 3, .getfield 263, 0, [], 0, 0), (53, 1, .isub, 0, [], 0, 0), (54, 3, .goto 11, 65, [], 0, 0), (57, 3, .sipush (-1000), 0, [], (-1000), 0), (60, 1, .aload_n 0, 0, [], 0, 0), (61, 3, .getfield 256, 0, [], 0, 0), (64, 1, .isub, 0, [], 0, 0), (65, 1, .ireturn, 0, [], 0, 0)]
theorem tk_MO_value : ∀ e ∈ tab_MO_value, sTok "GathersAllFaultsModel" prog_9_method_55_code e := tab_of (by decide +kernel)
def tab_MO_passesValue : List sT := [(0, 1, .aload_n 0, 0, [], 0, 0), (1, 3, .sipush 460, 0, [], 460, 0), (4, 1, .iload_n 1, 0, [], 0, 0), (5, 1, .imul, 0, [], 0, 0), (6, 3, .putfield 357, 0, [], 0, 0), (9, 1, .aload_n 0, 0, [], 0, 0), (10, 1, .iload_n 2, 0, [], 0, 0), (11, 3, .putfield 353, 0, [], 0, 0), (14, 1, .aload_n 0, 0, [], 0, 0), (15, 1, .aload_n 0, 0, [], 0, 0), (16, 3, .getfield 13, 0, [], 0, 0), (19, 3, .invokevirtual 360, 0, [], 0, 0), (22, 1, .aload_n 0, 0, [], 0, 0), (23, 1, .aload_n 0, 0, [], 0, 0), (24, 3, .getfield 16, 0, [], 0, 0), (27, 3, .invokevirtual 360, 0, [], 0, 0), (30, 1, .aload_n 0, 0, [], 0, 0), (31, 1, .aload_n 0, 0, [], 0, 0), (32, 3, .getfield 19, 0, [], 0, 0), (35, 3, .invokevirtual 360, 0, [], 0, 0), (38, 1, .aload_n 0, 0, [], 0, 0), (39, 1, .aload_n 0, 0, [], 0, 0), (40, 1, .aload_n 0, 0, [], 0, 0), (41, 3, .getfield 118, 0, [], 0, 0), (44, 3, .invokevirtual 364, 0, [], 0, 0), (47, 3, .putfield 118, 0, [], 0, 0), (50, 1, .iload_n 2, 0, [], 0, 0), (51, 3, .ifCond .ne 7, 58, [], 0, 0), (54, 1, .aload_n 0, 0, [], 0, 0), (55, 3, .invokevirtual 125, 0, [], 0, 0), (58, 1, .return_, 0, [], 0, 0)]
theorem tk_MO_passesValue : ∀ e ∈ tab_MO_passesValue, sTok "GathersAllFaultsModel" prog_9_method_69_code e := tab_of (by decide +kernel)
def tab_MO_passes : List sT := [(0, 1, .iconst 0, 0, [], 0, 0), (1, 1, .istore_n 2, 0, [], 0, 0), (2, 1, .iload_n 2, 0, [], 0, 0), (3, 1, .aload_n 1, 0, [], 0, 0), (4, 1, .arraylength, 0, [], 0, 0), (5, 3, .if_icmp .ge 53, 58, [], 0, 0), (8, 1, .aload_n 0, 0, [], 0, 0), (9, 3, .getfield 353, 0, [], 0, 0), (12, 3, .ifCond .eq 18, 30, [], 0, 0), (15, 1, .aload_n 0, 0, [], 0, 0), (16, 3, .getfield 112, 0, [], 0, 0), (19, 1, .aload_n 0, 0, [], 0, 0), (20, 3, .getfield 357, 0, [], 0, 0), (23, 1, .aload_n 1, 0, [], 0, 0), (24, 1, .iload_n 2, 0, [], 0, 0), (25, 1, .iaload, 0, [], 0, 0), (26, 1, .iastore, 0, [], 0, 0), (27, 3, .goto 15, 42, [], 0, 0), (30, 1, .aload_n 1, 0, [], 0, 0), (31, 1, .iload_n 2, 0, [], 0, 0), (32, 1, .aload_n 0, 0, [], 0, 0), (33, 3, .getfield 112, 0, [], 0, 0), (36, 1, .aload_n 0, 0, [], 0, 0), (37, 3, .getfield 357, 0, [], 0, 0), (40, 1, .iaload, 0, [], 0, 0), (41, 1, .iastore, 0, [], 0, 0), (42, 1, .aload_n 0, 0, [], 0, 0), (43, 1, .dup, 0, [], 0, 0), (44, 3, .getfield 357, 0, [], 0, 0), (47, 1, .iconst 1, 0, [], 1, 0), (48, 1, .iadd, 0, [], 0, 0), (49, 3, .putfield 357, 0, [], 0, 0), (52, 3, .iinc 2 1, 0, [], 1, 0), (55, 3, .goto (-53), 2, [], 0, 0), (58, 1, .return_, 0, [], 0, 0)]
theorem tk_MO_passes : ∀ e ∈ tab_MO_passes, sTok "GathersAllFaultsModel" prog_9_method_67_code e := tab_of (by decide +kernel)
def tab_MO_passOne : List sT := [(0, 1, .aload_n 0, 0, [], 0, 0), (1, 3, .getfield 353, 0, [], 0, 0), (4, 3, .ifCond .eq 7, 11, [], 0, 0), (7, 1, .iload_n 1, 0, [], 0, 0), (8, 3, .goto 12, 20, [], 0, 0), (11, 1, .aload_n 0, 0, [], 0, 0), (12, 3, .getfield 112, 0, [], 0, 0), (15, 1, .aload_n 0, 0, [], 0, 0), (16, 3, .getfield 357, 0, [], 0, 0), (19, 1, .iaload, 0, [], 0, 0), (20, 1, .istore_n 2, 0, [], 0, 0), (21, 1, .aload_n 0, 0, [], 0, 0), (22, 3, .getfield 353, 0, [], 0, 0), (25, 3, .ifCond .eq 13, 38, [], 0, 0), (28, 1, .aload_n 0, 0, [], 0, 0), (29, 3, .getfield 112, 0, [], 0, 0), (32, 1, .aload_n 0, 0, [], 0, 0), (33, 3, .getfield 357, 0, [], 0, 0), (36, 1, .iload_n 1, 0, [], 0, 0), (37, 1, .iastore, 0, [], 0, 0), (38, 1, .aload_n 0, 0, [], 0, 0), (39, 1, .dup, 0, [], 0, 0), (40, 3, .getfield 357, 0, [], 0, 0), (43, 1, .iconst 1, 0, [], 1, 0), (44, 1, .iadd, 0, [], 0, 0), (45, 3, .putfield 357, 0, [], 0, 0), (48, 1, .iload_n 2, 0, [], 0, 0), (49, 1, .ireturn, 0, [], 0, 0)]
theorem tk_MO_passOne : ∀ e ∈ tab_MO_passOne, sTok "GathersAllFaultsModel" prog_9_method_68_code e := tab_of (by decide +kernel)
def tab_MO_readsValue : List sT := [(0, 1, .aload_n 0, 0, [], 0, 0), (1, 1, .iconst 0, 0, [], 0, 0), (2, 3, .putfield 256, 0, [], 0, 0), (5, 1, .aload_n 0, 0, [], 0, 0), (6, 1, .iconst (-1), 0, [], (-1), 0), (7, 3, .putfield 263, 0, [], 0, 0), (10, 1, .aload_n 0, 0, [], 0, 0), (11, 1, .iconst 0, 0, [], 0, 0), (12, 3, .putfield 266, 0, [], 0, 0), (15, 1, .aload_n 0, 0, [], 0, 0), (16, 1, .iconst 0, 0, [], 0, 0), (17, 3, .putfield 118, 0, [], 0, 0), (20, 1, .aload_n 0, 0, [], 0, 0), (21, 1, .iconst 0, 0, [], 0, 0), (22, 3, .putfield 272, 0, [], 0, 0), (25, 1, .aload_n 0, 0, [], 0, 0), (26, 3, .invokevirtual 298, 0, [], 0, 0), (29, 1, .istore_n 1, 0, [], 0, 0), (30, 1, .iload_n 1, 0, [], 0, 0), (31, 3, .ifCond .eq 18, 49, [], 0, 0), (34, 1, .aload_n 0, 0, [], 0, 0), (35, 3, .getfield 266, 0, [], 0, 0), (38, 3, .ifCond .le 11, 49, [], 0, 0), (41, 1, .aload_n 0, 0, [], 0, 0), (42, 3, .invokevirtual 307, 0, [], 0, 0), (45, 1, .istore_n 1, 0, [], 0, 0), (46, 3, .goto (-16), 30, [], 0, 0), (49, 1, .iload_n 1, 0, [], 0, 0), (50, 3, .ifCond .eq 18, 68, [], 0, 0), (53, 1, .aload_n 0, 0, [], 0, 0), (54, 3, .getfield 256, 0, [], 0, 0), (57, 1, .aload_n 0, 0, [], 0, 0), (58, 3, .getfield 250, 0, [], 0, 0), (61, 3, .if_icmp .ne 7, 68, [], 0, 0), (64, 1, .iconst 1, 0, [], 1, 0), (65, 3, .goto 4, 69, [], 0, 0), (68, 1, .iconst 0, 0, [], 0, 0), (69, 1, .ireturn, 0, [], 0, 0)]
theorem tk_MO_readsValue : ∀ e ∈ tab_MO_readsValue, sTok "GathersAllFaultsModel" prog_9_method_54_code e := tab_of (by decide +kernel)
def tab_MO_readsPart : List sT := [(0, 1, .aload_n 0, 0, [], 0, 0), (1, 3, .invokevirtual 259, 0, [], 0, 0), (4, 1, .istore_n 1, 0, [], 0, 0), (5, 1, .iload_n 1, 0, [], 0, 0), (6, 2, .bipush 48, 0, [], 48, 0), (8, 2, .bipush 57, 0, [], 57, 0), (10, 3, .invokestatic 213, 0, [], 0, 0), (13, 3, .ifCond .eq 8, 21, [], 0, 0), (16, 1, .aload_n 0, 0, [], 0, 0), (17, 3, .invokevirtual 281, 0, [], 0, 0), (20, 1, .ireturn, 0, [], 0, 0), (21, 1, .iload_n 1, 0, [], 0, 0), (22, 2, .bipush 63, 0, [], 63, 0), (24, 3, .if_icmp .ne 13, 37, [], 0, 0), (27, 1, .aload_n 0, 0, [], 0, 0), (28, 1, .iconst 1, 0, [], 1, 0), (29, 1, .iconst 0, 0, [], 0, 0), (30, 3, .invokevirtual 275, 0, [], 0, 0), (33, 1, .pop, 0, [], 0, 0), (34, 3, .goto 44, 78, [], 0, 0), (37, 1, .iload_n 1, 0, [], 0, 0), (38, 2, .bipush 40, 0, [], 40, 0), (40, 3, .if_icmp .eq 9, 49, [], 0, 0), (43, 1, .iload_n 1, 0, [], 0, 0), (44, 2, .bipush 91, 0, [], 91, 0), (46, 3, .if_icmp .ne 30, 76, [], 0, 0), (49, 1, .iload_n 1, 0, [], 0, 0), (50, 2, .bipush 40, 0, [], 40, 0), (52, 3, .if_icmp .ne 7, 59, [], 0, 0), (55, 1, .iconst 2, 0, [], 2, 0), (56, 3, .goto 4, 60, [], 0, 0), (59, 1, .iconst 3, 0, [], 3, 0), (60, 1, .istore_n 2, 0, [], 0, 0), (61, 1, .aload_n 0, 0, [], 0, 0), (62, 1, .aload_n 0, 0, [], 0, 0), (63, 1, .iload_n 2, 0, [], 0, 0), (64, 1, .iconst 0, 0, [], 0, 0), (65, 3, .invokevirtual 275, 0, [], 0, 0), (68, 1, .iload_n 2, 0, [], 0, 0), (69, 1, .iconst 0, 0, [], 0, 0), (70, 3, .invokevirtual 285, 0, [], 0, 0), (73, 3, .goto 5, 78, [], 0, 0), (76, 1, .iconst 0, 0, [], 0, 0), (77, 1, .ireturn, 0, [], 0, 0), (78, 1, .aload_n 0, 0, [], 0, 0), (79, 1, .dup, 0, [], 0, 0), (80, 3, .getfield 256, 0, [], 0, 0), (83, 1, .iconst 1, 0, [], 1, 0), (84, 1, .iadd, 0, [], 0, 0), (85, 3, .putfield 256, 0, [], 0, 0), (88, 1, .iconst 1, 0, [], 1, 0), (89, 1, .ireturn, 0, [], 0, 0)]
theorem tk_MO_readsPart : ∀ e ∈ tab_MO_readsPart, sTok "GathersAllFaultsModel" prog_9_method_50_code e := tab_of (by decide +kernel)
def tab_MO_sign : List sT := [(0, 1, .aload_n 0, 0, [], 0, 0), (1, 3, .getfield 256, 0, [], 0, 0), (4, 1, .aload_n 0, 0, [], 0, 0), (5, 3, .getfield 250, 0, [], 0, 0), (8, 3, .if_icmp .ge 15, 23, [], 0, 0), (11, 1, .aload_n 0, 0, [], 0, 0), (12, 3, .getfield 94, 0, [], 0, 0), (15, 1, .aload_n 0, 0, [], 0, 0), (16, 3, .getfield 256, 0, [], 0, 0), (19, 1, .iaload, 0, [], 0, 0), (20, 3, .goto 4, 24, [], 0, 0), (23, 1, .iconst (-1), 0, [], (-1), 0), (24, 1, .ireturn, 0, [], 0, 0)]
theorem tk_MO_sign : ∀ e ∈ tab_MO_sign, sTok "GathersAllFaultsModel" prog_9_method_42_code e := tab_of (by decide +kernel)
def tab_MO_isIn : List sT := [(0, 1, .iload_n 0, 0, [], 0, 0), (1, 1, .iload_n 1, 0, [], 0, 0), (2, 3, .if_icmp .lt 12, 14, [], 0, 0), (5, 1, .iload_n 0, 0, [], 0, 0), (6, 1, .iload_n 2, 0, [], 0, 0), (7, 3, .if_icmp .gt 7, 14, [], 0, 0), (10, 1, .iconst 1, 0, [], 1, 0), (11, 3, .goto 4, 15, [], 0, 0), (14, 1, .iconst 0, 0, [], 0, 0), (15, 1, .ireturn, 0, [], 0, 0)]
theorem tk_MO_isIn : ∀ e ∈ tab_MO_isIn, sTok "GathersAllFaultsModel" prog_9_method_4_code e := tab_of (by decide +kernel)
def tab_MO_readsNumber : List sT := [(0, 1, .aload_n 0, 0, [], 0, 0), (1, 1, .iconst 0, 0, [], 0, 0), (2, 1, .iconst 0, 0, [], 0, 0), (3, 3, .invokevirtual 275, 0, [], 0, 0), (6, 1, .istore_n 1, 0, [], 0, 0), (7, 1, .aload_n 0, 0, [], 0, 0), (8, 3, .getfield 16, 0, [], 0, 0), (11, 1, .iload_n 1, 0, [], 0, 0), (12, 1, .aload_n 0, 0, [], 0, 0), (13, 3, .invokevirtual 278, 0, [], 0, 0), (16, 1, .iastore, 0, [], 0, 0), (17, 1, .aload_n 0, 0, [], 0, 0), (18, 3, .invokevirtual 278, 0, [], 0, 0), (21, 1, .istore_n 2, 0, [], 0, 0), (22, 1, .iload_n 2, 0, [], 0, 0), (23, 3, .ifCond .lt 20, 43, [], 0, 0), (26, 1, .aload_n 0, 0, [], 0, 0), (27, 3, .getfield 16, 0, [], 0, 0), (30, 1, .iload_n 1, 0, [], 0, 0), (31, 2, .bipush 10, 0, [], 10, 0), (33, 1, .aload_n 0, 0, [], 0, 0), (34, 3, .getfield 16, 0, [], 0, 0), (37, 1, .iload_n 1, 0, [], 0, 0), (38, 1, .iaload, 0, [], 0, 0), (39, 1, .imul, 0, [], 0, 0), (40, 1, .iload_n 2, 0, [], 0, 0), (41, 1, .iadd, 0, [], 0, 0), (42, 1, .iastore, 0, [], 0, 0), (43, 1, .iconst 1, 0, [], 1, 0), (44, 1, .ireturn, 0, [], 0, 0)]
theorem tk_MO_readsNumber : ∀ e ∈ tab_MO_readsNumber, sTok "GathersAllFaultsModel" prog_9_method_49_code e := tab_of (by decide +kernel)
def tab_MO_beginsPart : List sT := [(0, 1, .aload_n 0, 0, [], 0, 0), (1, 3, .getfield 118, 0, [], 0, 0), (4, 2, .bipush 20, 0, [], 20, 0), (6, 3, .if_icmp .ge 10, 16, [], 0, 0), (9, 1, .aload_n 0, 0, [], 0, 0), (10, 3, .getfield 118, 0, [], 0, 0), (13, 3, .goto 5, 18, [], 0, 0), (16, 2, .bipush 20, 0, [], 20, 0), (18, 1, .istore_n 3, 0, [], 0, 0), (19, 1, .aload_n 0, 0, [], 0, 0), (20, 3, .getfield 266, 0, [], 0, 0), (23, 3, .ifCond .le 37, 60, [], 0, 0), (26, 1, .aload_n 0, 0, [], 0, 0), (27, 3, .getfield 100, 0, [], 0, 0), (30, 1, .aload_n 0, 0, [], 0, 0), (31, 3, .getfield 266, 0, [], 0, 0), (34, 1, .iconst 1, 0, [], 1, 0), (35, 1, .isub, 0, [], 0, 0), (36, 1, .iaload, 0, [], 0, 0), (37, 1, .iconst 3, 0, [], 3, 0), (38, 3, .if_icmp .ne 22, 60, [], 0, 0), (41, 1, .aload_n 0, 0, [], 0, 0), (42, 3, .getfield 106, 0, [], 0, 0), (45, 1, .aload_n 0, 0, [], 0, 0), (46, 3, .getfield 266, 0, [], 0, 0), (49, 1, .iconst 1, 0, [], 1, 0), (50, 1, .isub, 0, [], 0, 0), (51, 1, .iaload, 0, [], 0, 0), (52, 1, .iconst 4, 0, [], 4, 0), (53, 3, .if_icmp .lt 7, 60, [], 0, 0), (56, 1, .iconst 1, 0, [], 1, 0), (57, 3, .goto 4, 61, [], 0, 0), (60, 1, .iconst 0, 0, [], 0, 0), (61, 2, .istore 4, 0, [], 0, 0), (63, 1, .aload_n 0, 0, [], 0, 0), (64, 3, .getfield 118, 0, [], 0, 0), (67, 2, .bipush 20, 0, [], 20, 0), (69, 3, .if_icmp .ge 16, 85, [], 0, 0), (72, 1, .aload_n 0, 0, [], 0, 0), (73, 3, .getfield 266, 0, [], 0, 0), (76, 1, .iconst 4, 0, [], 4, 0), (77, 3, .if_icmp .gt 8, 85, [], 0, 0), (80, 2, .iload 4, 0, [], 0, 0), (82, 3, .ifCond .eq 11, 93, [], 0, 0), (85, 1, .aload_n 0, 0, [], 0, 0), (86, 1, .aload_n 0, 0, [], 0, 0), (87, 3, .getfield 256, 0, [], 0, 0), (90, 3, .invokevirtual 269, 0, [], 0, 0), (93, 1, .aload_n 0, 0, [], 0, 0), (94, 3, .getfield 266, 0, [], 0, 0), (97, 3, .ifCond .le 18, 115, [], 0, 0), (100, 1, .aload_n 0, 0, [], 0, 0), (101, 3, .getfield 106, 0, [], 0, 0), (104, 1, .aload_n 0, 0, [], 0, 0), (105, 3, .getfield 266, 0, [], 0, 0), (108, 1, .iconst 1, 0, [], 1, 0), (109, 1, .isub, 0, [], 0, 0), (110, 1, .dup2, 0, [], 0, 0), (111, 1, .iaload, 0, [], 0, 0), (112, 1, .iconst 1, 0, [], 1, 0), (113, 1, .iadd, 0, [], 0, 0), (114, 1, .iastore, 0, [], 0, 0), (115, 1, .aload_n 0, 0, [], 0, 0), (116, 3, .getfield 13, 0, [], 0, 0), (119, 1, .iload_n 3, 0, [], 0, 0), (120, 1, .iload_n 1, 0, [], 0, 0), (121, 1, .iastore, 0, [], 0, 0), (122, 1, .aload_n 0, 0, [], 0, 0), (123, 3, .getfield 16, 0, [], 0, 0), (126, 1, .iload_n 3, 0, [], 0, 0), (127, 1, .iload_n 2, 0, [], 0, 0), (128, 1, .iastore, 0, [], 0, 0), (129, 1, .aload_n 0, 0, [], 0, 0), (130, 3, .getfield 19, 0, [], 0, 0), (133, 1, .iload_n 3, 0, [], 0, 0), (134, 1, .aload_n 0, 0, [], 0, 0), (135, 3, .getfield 272, 0, [], 0, 0), (138, 1, .iastore, 0, [], 0, 0), (139, 1, .aload_n 0, 0, [], 0, 0), (140, 1, .dup, 0, [], 0, 0), (141, 3, .getfield 118, 0, [], 0, 0), (144, 1, .iconst 1, 0, [], 1, 0), (145, 1, .iadd, 0, [], 0, 0), (146, 3, .putfield 118, 0, [], 0, 0), (149, 1, .iload_n 3, 0, [], 0, 0), (150, 1, .ireturn, 0, [], 0, 0)]
theorem tk_MO_beginsPart : ∀ e ∈ tab_MO_beginsPart, sTok "GathersAllFaultsModel" prog_9_method_48_code e := tab_of (by decide +kernel)
def tab_MO_isBad : List sT := [(0, 1, .aload_n 0, 0, [], 0, 0), (1, 1, .aload_n 0, 0, [], 0, 0), (2, 3, .getfield 263, 0, [], 0, 0), (5, 3, .ifCond .ge 7, 12, [], 0, 0), (8, 1, .iload_n 1, 0, [], 0, 0), (9, 3, .goto 7, 16, [], 0, 0), (12, 1, .aload_n 0, 0, [], 0, 0), (13, 3, .getfield 263, 0, [], 0, 0), (16, 3, .putfield 263, 0, [], 0, 0), (19, 1, .return_, 0, [], 0, 0)]
theorem tk_MO_isBad : ∀ e ∈ tab_MO_isBad, sTok "GathersAllFaultsModel" prog_9_method_44_code e := tab_of (by decide +kernel)
def tab_MO_digit : List sT := [(0, 1, .aload_n 0, 0, [], 0, 0), (1, 3, .invokevirtual 259, 0, [], 0, 0), (4, 2, .bipush 48, 0, [], 48, 0), (6, 2, .bipush 57, 0, [], 57, 0), (8, 3, .invokestatic 213, 0, [], 0, 0), (11, 3, .ifCond .ne 6, 17, [], 0, 0), (14, 2, .bipush (-9), 0, [], (-9), 0), (16, 1, .ireturn, 0, [], 0, 0), (17, 1, .aload_n 0, 0, [], 0, 0), (18, 1, .dup, 0, [], 0, 0), (19, 3, .getfield 256, 0, [], 0, 0), (22, 1, .iconst 1, 0, [], 1, 0), (23, 1, .iadd, 0, [], 0, 0), (24, 3, .putfield 256, 0, [], 0, 0), (27, 1, .aload_n 0, 0, [], 0, 0), (28, 3, .getfield 94, 0, [], 0, 0), (31, 1, .aload_n 0, 0, [], 0, 0), (32, 3, .getfield 256, 0, [], 0, 0), (35, 1, .iconst 1, 0, [], 1, 0), (36, 1, .isub, 0, [], 0, 0), (37, 1, .iaload, 0, [], 0, 0), (38, 2, .bipush 48, 0, [], 48, 0), (40, 1, .isub, 0, [], 0, 0), (41, 1, .ireturn, 0, [], 0, 0)]
theorem tk_MO_digit : ∀ e ∈ tab_MO_digit, sTok "GathersAllFaultsModel" prog_9_method_45_code e := tab_of (by decide +kernel)
def tab_MO_opens : List sT := [(0, 1, .aload_n 0, 0, [], 0, 0), (1, 3, .getfield 97, 0, [], 0, 0), (4, 1, .aload_n 0, 0, [], 0, 0), (5, 3, .getfield 266, 0, [], 0, 0), (8, 1, .iload_n 1, 0, [], 0, 0), (9, 1, .iastore, 0, [], 0, 0), (10, 1, .aload_n 0, 0, [], 0, 0), (11, 3, .getfield 100, 0, [], 0, 0), (14, 1, .aload_n 0, 0, [], 0, 0), (15, 3, .getfield 266, 0, [], 0, 0), (18, 1, .iload_n 2, 0, [], 0, 0), (19, 1, .iastore, 0, [], 0, 0), (20, 1, .aload_n 0, 0, [], 0, 0), (21, 3, .getfield 103, 0, [], 0, 0), (24, 1, .aload_n 0, 0, [], 0, 0), (25, 3, .getfield 266, 0, [], 0, 0), (28, 1, .iconst 0, 0, [], 0, 0), (29, 1, .iastore, 0, [], 0, 0), (30, 1, .aload_n 0, 0, [], 0, 0), (31, 3, .getfield 106, 0, [], 0, 0), (34, 1, .aload_n 0, 0, [], 0, 0), (35, 3, .getfield 266, 0, [], 0, 0), (38, 1, .iconst 0, 0, [], 0, 0), (39, 1, .iastore, 0, [], 0, 0), (40, 1, .aload_n 0, 0, [], 0, 0), (41, 3, .getfield 109, 0, [], 0, 0), (44, 1, .aload_n 0, 0, [], 0, 0), (45, 3, .getfield 266, 0, [], 0, 0), (48, 1, .iload_n 3, 0, [], 0, 0), (49, 3, .ifCond .eq 7, 56, [], 0, 0), (52, 1, .iconst 1, 0, [], 1, 0), (53, 3, .goto 4, 57, [], 0, 0), (56, 1, .iconst 0, 0, [], 0, 0), (57, 1, .iastore, 0, [], 0, 0), (58, 1, .aload_n 0, 0, [], 0, 0), (59, 1, .dup, 0, [], 0, 0), (60, 3, .getfield 266, 0, [], 0, 0), (63, 1, .iconst 1, 0, [], 1, 0), (64, 1, .iadd, 0, [], 0, 0), (65, 3, .putfield 266, 0, [], 0, 0), (68, 1, .return_, 0, [], 0, 0)]
theorem tk_MO_opens : ∀ e ∈ tab_MO_opens, sTok "GathersAllFaultsModel" prog_9_method_47_code e := tab_of (by decide +kernel)
def tab_MO_readsInside : List sT := [(0, 1, .aload_n 0, 0, [], 0, 0), (1, 1, .iconst 0, 0, [], 0, 0), (2, 3, .putfield 272, 0, [], 0, 0), (5, 1, .aload_n 0, 0, [], 0, 0), (6, 3, .getfield 100, 0, [], 0, 0), (9, 1, .aload_n 0, 0, [], 0, 0), (10, 3, .getfield 266, 0, [], 0, 0), (13, 1, .iconst 1, 0, [], 1, 0), (14, 1, .isub, 0, [], 0, 0), (15, 1, .iaload, 0, [], 0, 0), (16, 1, .iconst 2, 0, [], 2, 0), (17, 3, .if_icmp .ne 25, 42, [], 0, 0), (20, 1, .aload_n 0, 0, [], 0, 0), (21, 2, .bipush 41, 0, [], 41, 0), (23, 3, .invokevirtual 301, 0, [], 0, 0), (26, 3, .ifCond .ne 10, 36, [], 0, 0), (29, 1, .aload_n 0, 0, [], 0, 0), (30, 3, .invokevirtual 304, 0, [], 0, 0), (33, 3, .ifCond .eq 7, 40, [], 0, 0), (36, 1, .iconst 1, 0, [], 1, 0), (37, 3, .goto 4, 41, [], 0, 0), (40, 1, .iconst 0, 0, [], 0, 0), (41, 1, .ireturn, 0, [], 0, 0), (42, 1, .aload_n 0, 0, [], 0, 0), (43, 2, .bipush 93, 0, [], 93, 0), (45, 3, .invokevirtual 301, 0, [], 0, 0), (48, 3, .ifCond .eq 5, 53, [], 0, 0), (51, 1, .iconst 1, 0, [], 1, 0), (52, 1, .ireturn, 0, [], 0, 0), (53, 1, .aload_n 0, 0, [], 0, 0), (54, 3, .getfield 106, 0, [], 0, 0), (57, 1, .aload_n 0, 0, [], 0, 0), (58, 3, .getfield 266, 0, [], 0, 0), (61, 1, .iconst 1, 0, [], 1, 0), (62, 1, .isub, 0, [], 0, 0), (63, 1, .iaload, 0, [], 0, 0), (64, 3, .ifCond .eq 12, 76, [], 0, 0), (67, 1, .aload_n 0, 0, [], 0, 0), (68, 2, .bipush 44, 0, [], 44, 0), (70, 3, .invokevirtual 289, 0, [], 0, 0), (73, 3, .ifCond .eq 14, 87, [], 0, 0), (76, 1, .aload_n 0, 0, [], 0, 0), (77, 3, .invokevirtual 298, 0, [], 0, 0), (80, 3, .ifCond .eq 7, 87, [], 0, 0), (83, 1, .iconst 1, 0, [], 1, 0), (84, 3, .goto 4, 88, [], 0, 0), (87, 1, .iconst 0, 0, [], 0, 0), (88, 1, .ireturn, 0, [], 0, 0)]
theorem tk_MO_readsInside : ∀ e ∈ tab_MO_readsInside, sTok "GathersAllFaultsModel" prog_9_method_53_code e := tab_of (by decide +kernel)
def tab_MO_closes : List sT := [(0, 1, .aload_n 0, 0, [], 0, 0), (1, 1, .iload_n 1, 0, [], 0, 0), (2, 3, .invokevirtual 289, 0, [], 0, 0), (5, 3, .ifCond .ne 5, 10, [], 0, 0), (8, 1, .iconst 0, 0, [], 0, 0), (9, 1, .ireturn, 0, [], 0, 0), (10, 1, .aload_n 0, 0, [], 0, 0), (11, 1, .dup, 0, [], 0, 0), (12, 3, .getfield 266, 0, [], 0, 0), (15, 1, .iconst 1, 0, [], 1, 0), (16, 1, .isub, 0, [], 0, 0), (17, 3, .putfield 266, 0, [], 0, 0), (20, 1, .aload_n 0, 0, [], 0, 0), (21, 3, .getfield 16, 0, [], 0, 0), (24, 1, .aload_n 0, 0, [], 0, 0), (25, 3, .getfield 97, 0, [], 0, 0), (28, 1, .aload_n 0, 0, [], 0, 0), (29, 3, .getfield 266, 0, [], 0, 0), (32, 1, .iaload, 0, [], 0, 0), (33, 1, .aload_n 0, 0, [], 0, 0), (34, 3, .getfield 106, 0, [], 0, 0), (37, 1, .aload_n 0, 0, [], 0, 0), (38, 3, .getfield 266, 0, [], 0, 0), (41, 1, .iaload, 0, [], 0, 0), (42, 1, .iastore, 0, [], 0, 0), (43, 1, .iconst 1, 0, [], 1, 0), (44, 1, .ireturn, 0, [], 0, 0)]
theorem tk_MO_closes : ∀ e ∈ tab_MO_closes, sTok "GathersAllFaultsModel" prog_9_method_51_code e := tab_of (by decide +kernel)
def tab_MO_reads : List sT := [(0, 1, .aload_n 0, 0, [], 0, 0), (1, 3, .invokevirtual 259, 0, [], 0, 0), (4, 1, .iload_n 1, 0, [], 0, 0), (5, 3, .if_icmp .eq 5, 10, [], 0, 0), (8, 1, .iconst 0, 0, [], 0, 0), (9, 1, .ireturn, 0, [], 0, 0), (10, 1, .aload_n 0, 0, [], 0, 0), (11, 1, .dup, 0, [], 0, 0), (12, 3, .getfield 256, 0, [], 0, 0), (15, 1, .iconst 1, 0, [], 1, 0), (16, 1, .iadd, 0, [], 0, 0), (17, 3, .putfield 256, 0, [], 0, 0), (20, 1, .iconst 1, 0, [], 1, 0), (21, 1, .ireturn, 0, [], 0, 0)]
theorem tk_MO_reads : ∀ e ∈ tab_MO_reads, sTok "GathersAllFaultsModel" prog_9_method_43_code e := tab_of (by decide +kernel)
def tab_MO_readsField : List sT := [(0, 1, .aload_n 0, 0, [], 0, 0), (1, 3, .getfield 256, 0, [], 0, 0), (4, 1, .istore_n 1, 0, [], 0, 0), (5, 1, .aload_n 0, 0, [], 0, 0), (6, 1, .aload_n 0, 0, [], 0, 0), (7, 3, .invokevirtual 292, 0, [], 0, 0), (10, 3, .putfield 272, 0, [], 0, 0), (13, 1, .aload_n 0, 0, [], 0, 0), (14, 3, .getfield 272, 0, [], 0, 0), (17, 3, .ifCond .ge 5, 22, [], 0, 0), (20, 1, .iconst 0, 0, [], 0, 0), (21, 1, .ireturn, 0, [], 0, 0), (22, 1, .aload_n 0, 0, [], 0, 0), (23, 3, .getfield 103, 0, [], 0, 0), (26, 1, .aload_n 0, 0, [], 0, 0), (27, 3, .getfield 266, 0, [], 0, 0), (30, 1, .iconst 1, 0, [], 1, 0), (31, 1, .isub, 0, [], 0, 0), (32, 1, .iaload, 0, [], 0, 0), (33, 1, .aload_n 0, 0, [], 0, 0), (34, 3, .getfield 272, 0, [], 0, 0), (37, 3, .invokestatic 295, 0, [], 0, 0), (40, 3, .ifCond .eq 8, 48, [], 0, 0), (43, 1, .aload_n 0, 0, [], 0, 0), (44, 1, .iload_n 1, 0, [], 0, 0), (45, 3, .invokevirtual 269, 0, [], 0, 0), (48, 1, .aload_n 0, 0, [], 0, 0), (49, 3, .getfield 103, 0, [], 0, 0), (52, 1, .aload_n 0, 0, [], 0, 0), (53, 3, .getfield 266, 0, [], 0, 0), (56, 1, .iconst 1, 0, [], 1, 0), (57, 1, .isub, 0, [], 0, 0), (58, 1, .dup2, 0, [], 0, 0), (59, 1, .iaload, 0, [], 0, 0), (60, 1, .iconst 1, 0, [], 1, 0), (61, 1, .aload_n 0, 0, [], 0, 0), (62, 3, .getfield 272, 0, [], 0, 0), (65, 1, .ishl, 0, [], 0, 0), (66, 1, .ior, 0, [], 0, 0), (67, 1, .iastore, 0, [], 0, 0), (68, 1, .aload_n 0, 0, [], 0, 0), (69, 3, .invokevirtual 298, 0, [], 0, 0), (72, 1, .ireturn, 0, [], 0, 0)]
theorem tk_MO_readsField : ∀ e ∈ tab_MO_readsField, sTok "GathersAllFaultsModel" prog_9_method_52_code e := tab_of (by decide +kernel)
def tab_MO_nameNow : List sT := [(0, 1, .aload_n 0, 0, [], 0, 0), (1, 3, .invokevirtual 259, 0, [], 0, 0), (4, 2, .bipush 97, 0, [], 97, 0), (6, 2, .bipush 101, 0, [], 101, 0), (8, 3, .invokestatic 213, 0, [], 0, 0), (11, 3, .ifCond .ne 6, 17, [], 0, 0), (14, 2, .bipush (-9), 0, [], (-9), 0), (16, 1, .ireturn, 0, [], 0, 0), (17, 1, .aload_n 0, 0, [], 0, 0), (18, 1, .dup, 0, [], 0, 0), (19, 3, .getfield 256, 0, [], 0, 0), (22, 1, .iconst 1, 0, [], 1, 0), (23, 1, .iadd, 0, [], 0, 0), (24, 3, .putfield 256, 0, [], 0, 0), (27, 1, .aload_n 0, 0, [], 0, 0), (28, 3, .getfield 94, 0, [], 0, 0), (31, 1, .aload_n 0, 0, [], 0, 0), (32, 3, .getfield 256, 0, [], 0, 0), (35, 1, .iconst 1, 0, [], 1, 0), (36, 1, .isub, 0, [], 0, 0), (37, 1, .iaload, 0, [], 0, 0), (38, 2, .bipush 97, 0, [], 97, 0), (40, 1, .isub, 0, [], 0, 0), (41, 1, .iconst 1, 0, [], 1, 0), (42, 1, .iadd, 0, [], 0, 0), (43, 1, .ireturn, 0, [], 0, 0)]
theorem tk_MO_nameNow : ∀ e ∈ tab_MO_nameNow, sTok "GathersAllFaultsModel" prog_9_method_46_code e := tab_of (by decide +kernel)
def tab_MO_has : List sT := [(0, 1, .iload_n 0, 0, [], 0, 0), (1, 1, .iload_n 1, 0, [], 0, 0), (2, 1, .ishr, 0, [], 0, 0), (3, 1, .iconst 1, 0, [], 1, 0), (4, 1, .iand, 0, [], 0, 0), (5, 1, .iconst 1, 0, [], 1, 0), (6, 3, .if_icmp .ne 7, 13, [], 0, 0), (9, 1, .iconst 1, 0, [], 1, 0), (10, 3, .goto 4, 14, [], 0, 0), (13, 1, .iconst 0, 0, [], 0, 0), (14, 1, .ireturn, 0, [], 0, 0)]
theorem tk_MO_has : ∀ e ∈ tab_MO_has, sTok "GathersAllFaultsModel" prog_9_method_6_code e := tab_of (by decide +kernel)
def tab_MO_check : List sT := [(0, 1, .aload_n 0, 0, [], 0, 0), (1, 1, .iconst 1, 0, [], 1, 0), (2, 1, .iconst 1, 0, [], 1, 0), (3, 3, .invokevirtual 347, 0, [], 0, 0), (6, 1, .aload_n 0, 0, [], 0, 0), (7, 3, .invokevirtual 350, 0, [], 0, 0), (10, 1, .istore_n 1, 0, [], 0, 0), (11, 1, .aload_n 0, 0, [], 0, 0), (12, 1, .iconst 0, 0, [], 0, 0), (13, 3, .putfield 250, 0, [], 0, 0), (16, 1, .iload_n 1, 0, [], 0, 0), (17, 3, .ifCond .eq 15, 32, [], 0, 0), (20, 1, .aload_n 0, 0, [], 0, 0), (21, 3, .getfield 263, 0, [], 0, 0), (24, 3, .ifCond .ge 8, 32, [], 0, 0), (27, 1, .aload_n 0, 0, [], 0, 0), (28, 3, .getfield 122, 0, [], 0, 0), (31, 1, .ireturn, 0, [], 0, 0), (32, 1, .aload_n 0, 0, [], 0, 0), (33, 1, .iconst 1, 0, [], 1, 0), (34, 1, .iconst 0, 0, [], 0, 0), (35, 3, .invokevirtual 347, 0, [], 0, 0), (38, 1, .iload_n 1, 0, [], 0, 0), (39, 3, .ifCond .eq 14, 53, [], 0, 0), (42, 3, .sipush (-2000), 0, [], (-2000), 0), (45, 1, .aload_n 0, 0, [], 0, 0), (46, 3, .getfield 263, 0, [], 0, 0), (49, 1, .isub, 0, [], 0, 0), (50, 3, .goto 11, 61, [], 0, 0), (53, 3, .sipush (-1000), 0, [], (-1000), 0), (56, 1, .aload_n 0, 0, [], 0, 0), (57, 3, .getfield 256, 0, [], 0, 0), (60, 1, .isub, 0, [], 0, 0), (61, 1, .ireturn, 0, [], 0, 0)]
theorem tk_MO_check : ∀ e ∈ tab_MO_check, sTok "GathersAllFaultsModel" prog_9_method_66_code e := tab_of (by decide +kernel)
def tab_MO_passesCheck : List sT := [(0, 1, .aload_n 0, 0, [], 0, 0), (1, 3, .sipush 460, 0, [], 460, 0), (4, 1, .iload_n 1, 0, [], 0, 0), (5, 1, .imul, 0, [], 0, 0), (6, 2, .bipush 64, 0, [], 64, 0), (8, 1, .iadd, 0, [], 0, 0), (9, 3, .putfield 357, 0, [], 0, 0), (12, 1, .aload_n 0, 0, [], 0, 0), (13, 1, .iload_n 2, 0, [], 0, 0), (14, 3, .putfield 353, 0, [], 0, 0), (17, 1, .aload_n 0, 0, [], 0, 0), (18, 1, .aload_n 0, 0, [], 0, 0), (19, 3, .getfield 28, 0, [], 0, 0), (22, 3, .invokevirtual 360, 0, [], 0, 0), (25, 1, .aload_n 0, 0, [], 0, 0), (26, 1, .aload_n 0, 0, [], 0, 0), (27, 3, .getfield 31, 0, [], 0, 0), (30, 3, .invokevirtual 360, 0, [], 0, 0), (33, 1, .aload_n 0, 0, [], 0, 0), (34, 1, .aload_n 0, 0, [], 0, 0), (35, 3, .getfield 34, 0, [], 0, 0), (38, 3, .invokevirtual 360, 0, [], 0, 0), (41, 1, .aload_n 0, 0, [], 0, 0), (42, 1, .aload_n 0, 0, [], 0, 0), (43, 3, .getfield 37, 0, [], 0, 0), (46, 3, .invokevirtual 360, 0, [], 0, 0), (49, 1, .aload_n 0, 0, [], 0, 0), (50, 1, .aload_n 0, 0, [], 0, 0), (51, 3, .getfield 40, 0, [], 0, 0), (54, 3, .invokevirtual 360, 0, [], 0, 0), (57, 1, .aload_n 0, 0, [], 0, 0), (58, 1, .aload_n 0, 0, [], 0, 0), (59, 3, .getfield 43, 0, [], 0, 0), (62, 3, .invokevirtual 360, 0, [], 0, 0), (65, 1, .aload_n 0, 0, [], 0, 0), (66, 1, .aload_n 0, 0, [], 0, 0), (67, 3, .getfield 46, 0, [], 0, 0), (70, 3, .invokevirtual 360, 0, [], 0, 0), (73, 1, .aload_n 0, 0, [], 0, 0), (74, 1, .aload_n 0, 0, [], 0, 0), (75, 3, .getfield 49, 0, [], 0, 0), (78, 3, .invokevirtual 360, 0, [], 0, 0), (81, 1, .aload_n 0, 0, [], 0, 0), (82, 1, .aload_n 0, 0, [], 0, 0), (83, 3, .getfield 52, 0, [], 0, 0), (86, 3, .invokevirtual 360, 0, [], 0, 0), (89, 1, .aload_n 0, 0, [], 0, 0), (90, 1, .aload_n 0, 0, [], 0, 0), (91, 3, .getfield 55, 0, [], 0, 0), (94, 3, .invokevirtual 360, 0, [], 0, 0), (97, 1, .aload_n 0, 0, [], 0, 0), (98, 1, .aload_n 0, 0, [], 0, 0), (99, 3, .getfield 58, 0, [], 0, 0), (102, 3, .invokevirtual 360, 0, [], 0, 0), (105, 1, .aload_n 0, 0, [], 0, 0), (106, 1, .aload_n 0, 0, [], 0, 0), (107, 3, .getfield 61, 0, [], 0, 0), (110, 3, .invokevirtual 360, 0, [], 0, 0), (113, 1, .aload_n 0, 0, [], 0, 0), (114, 1, .aload_n 0, 0, [], 0, 0), (115, 3, .getfield 64, 0, [], 0, 0), (118, 3, .invokevirtual 360, 0, [], 0, 0), (121, 1, .aload_n 0, 0, [], 0, 0), (122, 1, .aload_n 0, 0, [], 0, 0), (123, 1, .aload_n 0, 0, [], 0, 0), (124, 3, .getfield 122, 0, [], 0, 0), (127, 3, .invokevirtual 364, 0, [], 0, 0), (130, 3, .putfield 122, 0, [], 0, 0), (133, 1, .aload_n 0, 0, [], 0, 0), (134, 1, .aload_n 0, 0, [], 0, 0), (135, 1, .aload_n 0, 0, [], 0, 0), (136, 3, .getfield 169, 0, [], 0, 0), (139, 3, .invokevirtual 364, 0, [], 0, 0), (142, 3, .putfield 169, 0, [], 0, 0), (145, 1, .aload_n 0, 0, [], 0, 0), (146, 1, .aload_n 0, 0, [], 0, 0), (147, 1, .aload_n 0, 0, [], 0, 0), (148, 3, .getfield 197, 0, [], 0, 0), (151, 3, .invokevirtual 364, 0, [], 0, 0), (154, 3, .putfield 197, 0, [], 0, 0), (157, 1, .return_, 0, [], 0, 0)]
theorem tk_MO_passesCheck : ∀ e ∈ tab_MO_passesCheck, sTok "GathersAllFaultsModel" prog_9_method_70_code e := tab_of (by decide +kernel)
def tab_MO_readsAllCheck : List sT := [(0, 1, .aload_n 0, 0, [], 0, 0), (1, 1, .iconst 0, 0, [], 0, 0), (2, 3, .putfield 256, 0, [], 0, 0), (5, 1, .aload_n 0, 0, [], 0, 0), (6, 1, .iconst (-1), 0, [], (-1), 0), (7, 3, .putfield 263, 0, [], 0, 0), (10, 1, .aload_n 0, 0, [], 0, 0), (11, 1, .iconst 0, 0, [], 0, 0), (12, 3, .putfield 266, 0, [], 0, 0), (15, 1, .aload_n 0, 0, [], 0, 0), (16, 1, .iconst 0, 0, [], 0, 0), (17, 3, .putfield 122, 0, [], 0, 0), (20, 1, .aload_n 0, 0, [], 0, 0), (21, 1, .iconst 0, 0, [], 0, 0), (22, 3, .putfield 320, 0, [], 0, 0), (25, 1, .aload_n 0, 0, [], 0, 0), (26, 1, .iconst 0, 0, [], 0, 0), (27, 3, .putfield 169, 0, [], 0, 0), (30, 1, .aload_n 0, 0, [], 0, 0), (31, 1, .iconst 0, 0, [], 0, 0), (32, 3, .putfield 197, 0, [], 0, 0), (35, 1, .aload_n 0, 0, [], 0, 0), (36, 3, .invokevirtual 332, 0, [], 0, 0), (39, 1, .istore_n 1, 0, [], 0, 0), (40, 1, .iload_n 1, 0, [], 0, 0), (41, 3, .ifCond .eq 18, 59, [], 0, 0), (44, 1, .aload_n 0, 0, [], 0, 0), (45, 3, .getfield 266, 0, [], 0, 0), (48, 3, .ifCond .le 11, 59, [], 0, 0), (51, 1, .aload_n 0, 0, [], 0, 0), (52, 3, .invokevirtual 344, 0, [], 0, 0), (55, 1, .istore_n 1, 0, [], 0, 0), (56, 3, .goto (-16), 40, [], 0, 0), (59, 1, .iload_n 1, 0, [], 0, 0), (60, 3, .ifCond .eq 18, 78, [], 0, 0), (63, 1, .aload_n 0, 0, [], 0, 0), (64, 3, .getfield 256, 0, [], 0, 0), (67, 1, .aload_n 0, 0, [], 0, 0), (68, 3, .getfield 250, 0, [], 0, 0), (71, 3, .if_icmp .ne 7, 78, [], 0, 0), (74, 1, .iconst 1, 0, [], 1, 0), (75, 3, .goto 4, 79, [], 0, 0), (78, 1, .iconst 0, 0, [], 0, 0), (79, 1, .ireturn, 0, [], 0, 0)]
theorem tk_MO_readsAllCheck : ∀ e ∈ tab_MO_readsAllCheck, sTok "GathersAllFaultsModel" prog_9_method_65_code e := tab_of (by decide +kernel)
def tab_MO_readsCheck : List sT := [(0, 1, .aload_n 0, 0, [], 0, 0), (1, 3, .invokevirtual 259, 0, [], 0, 0), (4, 1, .istore_n 1, 0, [], 0, 0), (5, 1, .aload_n 0, 0, [], 0, 0), (6, 3, .invokevirtual 317, 0, [], 0, 0), (9, 1, .istore_n 2, 0, [], 0, 0), (10, 1, .iload_n 1, 0, [], 0, 0), (11, 2, .bipush 42, 0, [], 42, 0), (13, 3, .if_icmp .eq 53, 66, [], 0, 0), (16, 1, .iload_n 1, 0, [], 0, 0), (17, 2, .bipush 35, 0, [], 35, 0), (19, 3, .if_icmp .eq 47, 66, [], 0, 0), (22, 1, .iload_n 1, 0, [], 0, 0), (23, 2, .bipush 33, 0, [], 33, 0), (25, 3, .if_icmp .eq 41, 66, [], 0, 0), (28, 1, .iload_n 1, 0, [], 0, 0), (29, 2, .bipush 126, 0, [], 126, 0), (31, 3, .if_icmp .eq 35, 66, [], 0, 0), (34, 1, .iload_n 1, 0, [], 0, 0), (35, 2, .bipush 123, 0, [], 123, 0), (37, 3, .if_icmp .eq 29, 66, [], 0, 0), (40, 1, .iload_n 1, 0, [], 0, 0), (41, 2, .bipush 64, 0, [], 64, 0), (43, 3, .if_icmp .eq 23, 66, [], 0, 0), (46, 1, .iload_n 1, 0, [], 0, 0), (47, 2, .bipush 38, 0, [], 38, 0), (49, 3, .if_icmp .eq 17, 66, [], 0, 0), (52, 1, .iload_n 1, 0, [], 0, 0), (53, 2, .bipush 47, 0, [], 47, 0), (55, 3, .if_icmp .eq 11, 66, [], 0, 0), (58, 1, .iload_n 1, 0, [], 0, 0), (59, 2, .bipush 94, 0, [], 94, 0), (61, 3, .if_icmp .eq 5, 66, [], 0, 0), (64, 1, .iconst 0, 0, [], 0, 0), (65, 1, .ireturn, 0, [], 0, 0), (66, 1, .aload_n 0, 0, [], 0, 0), (67, 1, .iload_n 1, 0, [], 0, 0), (68, 3, .invokevirtual 323, 0, [], 0, 0), (71, 1, .istore_n 3, 0, [], 0, 0), (72, 1, .iload_n 1, 0, [], 0, 0), (73, 2, .bipush 35, 0, [], 35, 0), (75, 3, .if_icmp .ne 12, 87, [], 0, 0), (78, 1, .aload_n 0, 0, [], 0, 0), (79, 1, .iload_n 3, 0, [], 0, 0), (80, 1, .iconst 2, 0, [], 2, 0), (81, 3, .invokevirtual 326, 0, [], 0, 0), (84, 3, .ifCond .eq 18, 102, [], 0, 0), (87, 1, .iload_n 1, 0, [], 0, 0), (88, 2, .bipush 64, 0, [], 64, 0), (90, 3, .if_icmp .ne 14, 104, [], 0, 0), (93, 1, .aload_n 0, 0, [], 0, 0), (94, 1, .iload_n 3, 0, [], 0, 0), (95, 1, .iconst 1, 0, [], 1, 0), (96, 3, .invokevirtual 326, 0, [], 0, 0), (99, 3, .ifCond .ne 5, 104, [], 0, 0), (102, 1, .iconst 0, 0, [], 0, 0), (103, 1, .ireturn, 0, [], 0, 0), (104, 1, .iload_n 1, 0, [], 0, 0), (105, 2, .bipush 42, 0, [], 42, 0), (107, 3, .if_icmp .eq 15, 122, [], 0, 0), (110, 1, .iload_n 1, 0, [], 0, 0), (111, 2, .bipush 35, 0, [], 35, 0), (113, 3, .if_icmp .eq 9, 122, [], 0, 0), (116, 1, .iload_n 1, 0, [], 0, 0), (117, 2, .bipush 94, 0, [], 94, 0), (119, 3, .if_icmp .ne 11, 130, [], 0, 0), (122, 1, .aload_n 0, 0, [], 0, 0), (123, 1, .iload_n 3, 0, [], 0, 0), (124, 3, .invokevirtual 329, 0, [], 0, 0), (127, 3, .goto 10, 137, [], 0, 0), (130, 1, .aload_n 0, 0, [], 0, 0), (131, 1, .iload_n 3, 0, [], 0, 0), (132, 1, .iload_n 1, 0, [], 0, 0), (133, 1, .iload_n 2, 0, [], 0, 0), (134, 3, .invokevirtual 285, 0, [], 0, 0), (137, 1, .iconst 1, 0, [], 1, 0), (138, 1, .ireturn, 0, [], 0, 0)]
theorem tk_MO_readsCheck : ∀ e ∈ tab_MO_readsCheck, sTok "GathersAllFaultsModel" prog_9_method_60_code e := tab_of (by decide +kernel)
def tab_MO_isInside : List sT := [(0, 1, .aload_n 0, 0, [], 0, 0), (1, 3, .getfield 266, 0, [], 0, 0), (4, 3, .ifCond .le 54, 58, [], 0, 0), (7, 1, .aload_n 0, 0, [], 0, 0), (8, 3, .getfield 109, 0, [], 0, 0), (11, 1, .aload_n 0, 0, [], 0, 0), (12, 3, .getfield 266, 0, [], 0, 0), (15, 1, .iconst 1, 0, [], 1, 0), (16, 1, .isub, 0, [], 0, 0), (17, 1, .iaload, 0, [], 0, 0), (18, 1, .iconst 1, 0, [], 1, 0), (19, 3, .if_icmp .eq 35, 54, [], 0, 0), (22, 1, .aload_n 0, 0, [], 0, 0), (23, 3, .getfield 100, 0, [], 0, 0), (26, 1, .aload_n 0, 0, [], 0, 0), (27, 3, .getfield 266, 0, [], 0, 0), (30, 1, .iconst 1, 0, [], 1, 0), (31, 1, .isub, 0, [], 0, 0), (32, 1, .iaload, 0, [], 0, 0), (33, 2, .bipush 123, 0, [], 123, 0), (35, 3, .if_icmp .eq 19, 54, [], 0, 0), (38, 1, .aload_n 0, 0, [], 0, 0), (39, 3, .getfield 100, 0, [], 0, 0), (42, 1, .aload_n 0, 0, [], 0, 0), (43, 3, .getfield 266, 0, [], 0, 0), (46, 1, .iconst 1, 0, [], 1, 0), (47, 1, .isub, 0, [], 0, 0), (48, 1, .iaload, 0, [], 0, 0), (49, 2, .bipush 64, 0, [], 64, 0), (51, 3, .if_icmp .ne 7, 58, [], 0, 0), (54, 1, .iconst 1, 0, [], 1, 0), (55, 3, .goto 4, 59, [], 0, 0), (58, 1, .iconst 0, 0, [], 0, 0), (59, 1, .ireturn, 0, [], 0, 0)]
theorem tk_MO_isInside : ∀ e ∈ tab_MO_isInside, sTok "GathersAllFaultsModel" prog_9_method_56_code e := tab_of (by decide +kernel)
def tab_MO_beginsCheck : List sT := [(0, 1, .aload_n 0, 0, [], 0, 0), (1, 3, .getfield 122, 0, [], 0, 0), (4, 2, .bipush 24, 0, [], 24, 0), (6, 3, .if_icmp .ge 10, 16, [], 0, 0), (9, 1, .aload_n 0, 0, [], 0, 0), (10, 3, .getfield 122, 0, [], 0, 0), (13, 3, .goto 5, 18, [], 0, 0), (16, 2, .bipush 24, 0, [], 24, 0), (18, 1, .istore_n 2, 0, [], 0, 0), (19, 1, .aload_n 0, 0, [], 0, 0), (20, 3, .getfield 122, 0, [], 0, 0), (23, 2, .bipush 24, 0, [], 24, 0), (25, 3, .if_icmp .ge 24, 49, [], 0, 0), (28, 1, .iload_n 1, 0, [], 0, 0), (29, 2, .bipush 94, 0, [], 94, 0), (31, 3, .if_icmp .ne 26, 57, [], 0, 0), (34, 1, .aload_n 0, 0, [], 0, 0), (35, 3, .invokevirtual 317, 0, [], 0, 0), (38, 3, .ifCond .eq 11, 49, [], 0, 0), (41, 1, .aload_n 0, 0, [], 0, 0), (42, 3, .getfield 320, 0, [], 0, 0), (45, 1, .iconst 3, 0, [], 3, 0), (46, 3, .if_icmp .ne 11, 57, [], 0, 0), (49, 1, .aload_n 0, 0, [], 0, 0), (50, 1, .aload_n 0, 0, [], 0, 0), (51, 3, .getfield 256, 0, [], 0, 0), (54, 3, .invokevirtual 269, 0, [], 0, 0), (57, 1, .aload_n 0, 0, [], 0, 0), (58, 1, .dup, 0, [], 0, 0), (59, 3, .getfield 320, 0, [], 0, 0), (62, 1, .iload_n 1, 0, [], 0, 0), (63, 2, .bipush 94, 0, [], 94, 0), (65, 3, .if_icmp .ne 7, 72, [], 0, 0), (68, 1, .iconst 1, 0, [], 1, 0), (69, 3, .goto 4, 73, [], 0, 0), (72, 1, .iconst 0, 0, [], 0, 0), (73, 1, .iadd, 0, [], 0, 0), (74, 3, .putfield 320, 0, [], 0, 0), (77, 1, .aload_n 0, 0, [], 0, 0), (78, 3, .getfield 28, 0, [], 0, 0), (81, 1, .iload_n 2, 0, [], 0, 0), (82, 1, .iload_n 1, 0, [], 0, 0), (83, 1, .iastore, 0, [], 0, 0), (84, 1, .aload_n 0, 0, [], 0, 0), (85, 3, .getfield 31, 0, [], 0, 0), (88, 1, .iload_n 2, 0, [], 0, 0), (89, 1, .iconst 0, 0, [], 0, 0), (90, 1, .iastore, 0, [], 0, 0), (91, 1, .aload_n 0, 0, [], 0, 0), (92, 3, .getfield 34, 0, [], 0, 0), (95, 1, .iload_n 2, 0, [], 0, 0), (96, 1, .iconst 0, 0, [], 0, 0), (97, 1, .iastore, 0, [], 0, 0), (98, 1, .aload_n 0, 0, [], 0, 0), (99, 3, .getfield 37, 0, [], 0, 0), (102, 1, .iload_n 2, 0, [], 0, 0), (103, 1, .iconst 0, 0, [], 0, 0), (104, 1, .iastore, 0, [], 0, 0), (105, 1, .aload_n 0, 0, [], 0, 0), (106, 3, .getfield 40, 0, [], 0, 0), (109, 1, .iload_n 2, 0, [], 0, 0), (110, 1, .iconst 0, 0, [], 0, 0), (111, 1, .iastore, 0, [], 0, 0), (112, 1, .aload_n 0, 0, [], 0, 0), (113, 1, .dup, 0, [], 0, 0), (114, 3, .getfield 122, 0, [], 0, 0), (117, 1, .iconst 1, 0, [], 1, 0), (118, 1, .iadd, 0, [], 0, 0), (119, 3, .putfield 122, 0, [], 0, 0), (122, 1, .aload_n 0, 0, [], 0, 0), (123, 1, .dup, 0, [], 0, 0), (124, 3, .getfield 256, 0, [], 0, 0), (127, 1, .iconst 1, 0, [], 1, 0), (128, 1, .iadd, 0, [], 0, 0), (129, 3, .putfield 256, 0, [], 0, 0), (132, 1, .iload_n 2, 0, [], 0, 0), (133, 1, .ireturn, 0, [], 0, 0)]
theorem tk_MO_beginsCheck : ∀ e ∈ tab_MO_beginsCheck, sTok "GathersAllFaultsModel" prog_9_method_57_code e := tab_of (by decide +kernel)
def tab_MO_readsBounds : List sT := [(0, 1, .aload_n 0, 0, [], 0, 0), (1, 3, .getfield 256, 0, [], 0, 0), (4, 1, .iconst 1, 0, [], 1, 0), (5, 1, .isub, 0, [], 0, 0), (6, 1, .istore_n 3, 0, [], 0, 0), (7, 1, .iconst 0, 0, [], 0, 0), (8, 2, .istore 4, 0, [], 0, 0), (10, 1, .iconst 0, 0, [], 0, 0), (11, 2, .istore 5, 0, [], 0, 0), (13, 2, .iload 5, 0, [], 0, 0), (15, 1, .iconst 2, 0, [], 2, 0), (16, 1, .iload_n 2, 0, [], 0, 0), (17, 1, .imul, 0, [], 0, 0), (18, 3, .if_icmp .ge 68, 86, [], 0, 0), (21, 1, .aload_n 0, 0, [], 0, 0), (22, 3, .invokevirtual 278, 0, [], 0, 0), (25, 2, .istore 6, 0, [], 0, 0), (27, 2, .iload 6, 0, [], 0, 0), (29, 3, .ifCond .ge 5, 34, [], 0, 0), (32, 1, .iconst 0, 0, [], 0, 0), (33, 1, .ireturn, 0, [], 0, 0), (34, 2, .iload 5, 0, [], 0, 0), (36, 1, .iload_n 2, 0, [], 0, 0), (37, 3, .if_icmp .ne 8, 45, [], 0, 0), (40, 2, .iload 6, 0, [], 0, 0), (42, 3, .goto 11, 53, [], 0, 0), (45, 2, .bipush 10, 0, [], 10, 0), (47, 2, .iload 4, 0, [], 0, 0), (49, 1, .imul, 0, [], 0, 0), (50, 2, .iload 6, 0, [], 0, 0), (52, 1, .iadd, 0, [], 0, 0), (53, 2, .istore 4, 0, [], 0, 0), (55, 2, .iload 5, 0, [], 0, 0), (57, 1, .iload_n 2, 0, [], 0, 0), (58, 3, .if_icmp .ge 14, 72, [], 0, 0), (61, 1, .aload_n 0, 0, [], 0, 0), (62, 3, .getfield 31, 0, [], 0, 0), (65, 1, .iload_n 1, 0, [], 0, 0), (66, 2, .iload 4, 0, [], 0, 0), (68, 1, .iastore, 0, [], 0, 0), (69, 3, .goto 11, 80, [], 0, 0), (72, 1, .aload_n 0, 0, [], 0, 0), (73, 3, .getfield 34, 0, [], 0, 0), (76, 1, .iload_n 1, 0, [], 0, 0), (77, 2, .iload 4, 0, [], 0, 0), (79, 1, .iastore, 0, [], 0, 0), (80, 3, .iinc 5 1, 0, [], 1, 0), (83, 3, .goto (-70), 13, [], 0, 0), (86, 1, .aload_n 0, 0, [], 0, 0), (87, 3, .getfield 31, 0, [], 0, 0), (90, 1, .iload_n 1, 0, [], 0, 0), (91, 1, .iaload, 0, [], 0, 0), (92, 1, .aload_n 0, 0, [], 0, 0), (93, 3, .getfield 34, 0, [], 0, 0), (96, 1, .iload_n 1, 0, [], 0, 0), (97, 1, .iaload, 0, [], 0, 0), (98, 3, .if_icmp .le 8, 106, [], 0, 0), (101, 1, .aload_n 0, 0, [], 0, 0), (102, 1, .iload_n 3, 0, [], 0, 0), (103, 3, .invokevirtual 269, 0, [], 0, 0), (106, 1, .iconst 1, 0, [], 1, 0), (107, 1, .ireturn, 0, [], 0, 0)]
theorem tk_MO_readsBounds : ∀ e ∈ tab_MO_readsBounds, sTok "GathersAllFaultsModel" prog_9_method_58_code e := tab_of (by decide +kernel)
def tab_MO_endsCheck : List sT := [(0, 1, .iload_n 1, 0, [], 0, 0), (1, 1, .istore_n 2, 0, [], 0, 0), (2, 1, .aload_n 0, 0, [], 0, 0), (3, 3, .getfield 266, 0, [], 0, 0), (6, 3, .ifCond .le 7, 13, [], 0, 0), (9, 1, .iconst 1, 0, [], 1, 0), (10, 3, .goto 4, 14, [], 0, 0), (13, 1, .iconst 0, 0, [], 0, 0), (14, 1, .istore_n 3, 0, [], 0, 0), (15, 1, .iload_n 3, 0, [], 0, 0), (16, 3, .ifCond .eq 139, 155, [], 0, 0), (19, 1, .aload_n 0, 0, [], 0, 0), (20, 3, .getfield 266, 0, [], 0, 0), (23, 1, .iconst 1, 0, [], 1, 0), (24, 1, .isub, 0, [], 0, 0), (25, 2, .istore 4, 0, [], 0, 0), (27, 1, .aload_n 0, 0, [], 0, 0), (28, 3, .getfield 97, 0, [], 0, 0), (31, 2, .iload 4, 0, [], 0, 0), (33, 1, .iaload, 0, [], 0, 0), (34, 2, .istore 5, 0, [], 0, 0), (36, 1, .aload_n 0, 0, [], 0, 0), (37, 3, .getfield 100, 0, [], 0, 0), (40, 2, .iload 4, 0, [], 0, 0), (42, 1, .iaload, 0, [], 0, 0), (43, 2, .bipush 123, 0, [], 123, 0), (45, 3, .if_icmp .ne 17, 62, [], 0, 0), (48, 1, .aload_n 0, 0, [], 0, 0), (49, 3, .getfield 52, 0, [], 0, 0), (52, 1, .aload_n 0, 0, [], 0, 0), (53, 3, .getfield 106, 0, [], 0, 0), (56, 2, .iload 4, 0, [], 0, 0), (58, 1, .iaload, 0, [], 0, 0), (59, 1, .iload_n 2, 0, [], 0, 0), (60, 1, .iastore, 0, [], 0, 0), (61, 1, .return_, 0, [], 0, 0), (62, 1, .aload_n 0, 0, [], 0, 0), (63, 3, .getfield 106, 0, [], 0, 0), (66, 2, .iload 4, 0, [], 0, 0), (68, 1, .iaload, 0, [], 0, 0), (69, 3, .ifCond .ne 14, 83, [], 0, 0), (72, 1, .aload_n 0, 0, [], 0, 0), (73, 3, .getfield 37, 0, [], 0, 0), (76, 2, .iload 5, 0, [], 0, 0), (78, 1, .iload_n 2, 0, [], 0, 0), (79, 1, .iastore, 0, [], 0, 0), (80, 3, .goto 11, 91, [], 0, 0), (83, 1, .aload_n 0, 0, [], 0, 0), (84, 3, .getfield 40, 0, [], 0, 0), (87, 2, .iload 5, 0, [], 0, 0), (89, 1, .iload_n 2, 0, [], 0, 0), (90, 1, .iastore, 0, [], 0, 0), (91, 1, .aload_n 0, 0, [], 0, 0), (92, 3, .getfield 106, 0, [], 0, 0), (95, 2, .iload 4, 0, [], 0, 0), (97, 1, .dup2, 0, [], 0, 0), (98, 1, .iaload, 0, [], 0, 0), (99, 1, .iconst 1, 0, [], 1, 0), (100, 1, .iadd, 0, [], 0, 0), (101, 1, .iastore, 0, [], 0, 0), (102, 1, .aload_n 0, 0, [], 0, 0), (103, 3, .getfield 100, 0, [], 0, 0), (106, 2, .iload 4, 0, [], 0, 0), (108, 1, .iaload, 0, [], 0, 0), (109, 2, .bipush 47, 0, [], 47, 0), (111, 3, .if_icmp .ne 15, 126, [], 0, 0), (114, 1, .aload_n 0, 0, [], 0, 0), (115, 3, .getfield 106, 0, [], 0, 0), (118, 2, .iload 4, 0, [], 0, 0), (120, 1, .iaload, 0, [], 0, 0), (121, 1, .iconst 1, 0, [], 1, 0), (122, 3, .if_icmp .ne 4, 126, [], 0, 0), (125, 1, .return_, 0, [], 0, 0), (126, 1, .aload_n 0, 0, [], 0, 0), (127, 1, .dup, 0, [], 0, 0), (128, 3, .getfield 266, 0, [], 0, 0), (131, 1, .iconst 1, 0, [], 1, 0), (132, 1, .isub, 0, [], 0, 0), (133, 3, .putfield 266, 0, [], 0, 0), (136, 2, .iload 5, 0, [], 0, 0), (138, 1, .istore_n 2, 0, [], 0, 0), (139, 1, .aload_n 0, 0, [], 0, 0), (140, 3, .getfield 266, 0, [], 0, 0), (143, 3, .ifCond .le 7, 150, [], 0, 0), (146, 1, .iconst 1, 0, [], 1, 0), (147, 3, .goto 4, 151, [], 0, 0), (150, 1, .iconst 0, 0, [], 0, 0), (151, 1, .istore_n 3, 0, [], 0, 0), (152, 3, .goto (-137), 15, [], 0, 0), (155, 1, .return_, 0, [], 0, 0)]
theorem tk_MO_endsCheck : ∀ e ∈ tab_MO_endsCheck, sTok "GathersAllFaultsModel" prog_9_method_59_code e := tab_of (by decide +kernel)
def tab_MO_readsInCheck : List sT := [(0, 1, .aload_n 0, 0, [], 0, 0), (1, 3, .getfield 100, 0, [], 0, 0), (4, 1, .aload_n 0, 0, [], 0, 0), (5, 3, .getfield 266, 0, [], 0, 0), (8, 1, .iconst 1, 0, [], 1, 0), (9, 1, .isub, 0, [], 0, 0), (10, 1, .iaload, 0, [], 0, 0), (11, 2, .bipush 123, 0, [], 123, 0), (13, 3, .if_icmp .eq 8, 21, [], 0, 0), (16, 1, .aload_n 0, 0, [], 0, 0), (17, 3, .invokevirtual 332, 0, [], 0, 0), (20, 1, .ireturn, 0, [], 0, 0), (21, 1, .aload_n 0, 0, [], 0, 0), (22, 3, .invokevirtual 259, 0, [], 0, 0), (25, 2, .bipush 60, 0, [], 60, 0), (27, 3, .if_icmp .eq 12, 39, [], 0, 0), (30, 1, .aload_n 0, 0, [], 0, 0), (31, 3, .invokevirtual 259, 0, [], 0, 0), (34, 2, .bipush 61, 0, [], 61, 0), (36, 3, .if_icmp .ne 8, 44, [], 0, 0), (39, 1, .aload_n 0, 0, [], 0, 0), (40, 3, .invokevirtual 335, 0, [], 0, 0), (43, 1, .ireturn, 0, [], 0, 0), (44, 1, .aload_n 0, 0, [], 0, 0), (45, 3, .invokevirtual 338, 0, [], 0, 0), (48, 3, .ifCond .ne 28, 76, [], 0, 0), (51, 1, .aload_n 0, 0, [], 0, 0), (52, 3, .getfield 103, 0, [], 0, 0), (55, 1, .aload_n 0, 0, [], 0, 0), (56, 3, .getfield 266, 0, [], 0, 0), (59, 1, .iconst 1, 0, [], 1, 0), (60, 1, .isub, 0, [], 0, 0), (61, 1, .iaload, 0, [], 0, 0), (62, 1, .iconst 0, 0, [], 0, 0), (63, 3, .invokestatic 295, 0, [], 0, 0), (66, 3, .ifCond .ne 14, 80, [], 0, 0), (69, 1, .aload_n 0, 0, [], 0, 0), (70, 3, .invokevirtual 341, 0, [], 0, 0), (73, 3, .ifCond .eq 7, 80, [], 0, 0), (76, 1, .iconst 1, 0, [], 1, 0), (77, 3, .goto 4, 81, [], 0, 0), (80, 1, .iconst 0, 0, [], 0, 0), (81, 1, .ireturn, 0, [], 0, 0)]
theorem tk_MO_readsInCheck : ∀ e ∈ tab_MO_readsInCheck, sTok "GathersAllFaultsModel" prog_9_method_64_code e := tab_of (by decide +kernel)
def tab_MO_readsWaiter : List sT := [(0, 1, .aload_n 0, 0, [], 0, 0), (1, 3, .getfield 256, 0, [], 0, 0), (4, 1, .istore_n 1, 0, [], 0, 0), (5, 1, .aload_n 0, 0, [], 0, 0), (6, 3, .invokevirtual 259, 0, [], 0, 0), (9, 1, .istore_n 2, 0, [], 0, 0), (10, 1, .aload_n 0, 0, [], 0, 0), (11, 1, .dup, 0, [], 0, 0), (12, 3, .getfield 256, 0, [], 0, 0), (15, 1, .iconst 1, 0, [], 1, 0), (16, 1, .iadd, 0, [], 0, 0), (17, 3, .putfield 256, 0, [], 0, 0), (20, 1, .aload_n 0, 0, [], 0, 0), (21, 3, .invokevirtual 292, 0, [], 0, 0), (24, 1, .istore_n 3, 0, [], 0, 0), (25, 1, .iload_n 3, 0, [], 0, 0), (26, 3, .ifCond .ge 8, 34, [], 0, 0), (29, 2, .bipush (-9), 0, [], (-9), 0), (31, 3, .goto 7, 38, [], 0, 0), (34, 1, .aload_n 0, 0, [], 0, 0), (35, 3, .invokevirtual 292, 0, [], 0, 0), (38, 2, .istore 4, 0, [], 0, 0), (40, 2, .iload 4, 0, [], 0, 0), (42, 3, .ifCond .ge 5, 47, [], 0, 0), (45, 1, .iconst 0, 0, [], 0, 0), (46, 1, .ireturn, 0, [], 0, 0), (47, 1, .aload_n 0, 0, [], 0, 0), (48, 3, .getfield 266, 0, [], 0, 0), (51, 1, .iconst 1, 0, [], 1, 0), (52, 1, .isub, 0, [], 0, 0), (53, 2, .istore 5, 0, [], 0, 0), (55, 1, .aload_n 0, 0, [], 0, 0), (56, 3, .getfield 103, 0, [], 0, 0), (59, 2, .iload 5, 0, [], 0, 0), (61, 1, .dup2, 0, [], 0, 0), (62, 1, .iaload, 0, [], 0, 0), (63, 1, .iconst 1, 0, [], 1, 0), (64, 1, .ior, 0, [], 0, 0), (65, 1, .iastore, 0, [], 0, 0), (66, 1, .aload_n 0, 0, [], 0, 0), (67, 3, .getfield 103, 0, [], 0, 0), (70, 2, .iload 5, 0, [], 0, 0), (72, 1, .iaload, 0, [], 0, 0), (73, 1, .iload_n 3, 0, [], 0, 0), (74, 3, .invokestatic 295, 0, [], 0, 0), (77, 3, .ifCond .eq 18, 95, [], 0, 0), (80, 1, .aload_n 0, 0, [], 0, 0), (81, 3, .getfield 103, 0, [], 0, 0), (84, 2, .iload 5, 0, [], 0, 0), (86, 1, .iaload, 0, [], 0, 0), (87, 2, .iload 4, 0, [], 0, 0), (89, 3, .invokestatic 295, 0, [], 0, 0), (92, 3, .ifCond .ne 8, 100, [], 0, 0), (95, 1, .aload_n 0, 0, [], 0, 0), (96, 1, .iload_n 1, 0, [], 0, 0), (97, 3, .invokevirtual 269, 0, [], 0, 0), (100, 1, .aload_n 0, 0, [], 0, 0), (101, 3, .getfield 55, 0, [], 0, 0), (104, 1, .aload_n 0, 0, [], 0, 0), (105, 3, .getfield 197, 0, [], 0, 0), (108, 1, .aload_n 0, 0, [], 0, 0), (109, 3, .getfield 97, 0, [], 0, 0), (112, 2, .iload 5, 0, [], 0, 0), (114, 1, .iaload, 0, [], 0, 0), (115, 1, .iastore, 0, [], 0, 0), (116, 1, .aload_n 0, 0, [], 0, 0), (117, 3, .getfield 58, 0, [], 0, 0), (120, 1, .aload_n 0, 0, [], 0, 0), (121, 3, .getfield 197, 0, [], 0, 0), (124, 1, .iload_n 2, 0, [], 0, 0), (125, 1, .iastore, 0, [], 0, 0), (126, 1, .aload_n 0, 0, [], 0, 0), (127, 3, .getfield 61, 0, [], 0, 0), (130, 1, .aload_n 0, 0, [], 0, 0), (131, 3, .getfield 197, 0, [], 0, 0), (134, 1, .iload_n 3, 0, [], 0, 0), (135, 1, .iastore, 0, [], 0, 0), (136, 1, .aload_n 0, 0, [], 0, 0), (137, 3, .getfield 64, 0, [], 0, 0), (140, 1, .aload_n 0, 0, [], 0, 0), (141, 3, .getfield 197, 0, [], 0, 0), (144, 2, .iload 4, 0, [], 0, 0), (146, 1, .iastore, 0, [], 0, 0), (147, 1, .aload_n 0, 0, [], 0, 0), (148, 1, .dup, 0, [], 0, 0), (149, 3, .getfield 197, 0, [], 0, 0), (152, 1, .iconst 1, 0, [], 1, 0), (153, 1, .iadd, 0, [], 0, 0), (154, 3, .putfield 197, 0, [], 0, 0), (157, 1, .iconst 1, 0, [], 1, 0), (158, 1, .ireturn, 0, [], 0, 0)]
theorem tk_MO_readsWaiter : ∀ e ∈ tab_MO_readsWaiter, sTok "GathersAllFaultsModel" prog_9_method_62_code e := tab_of (by decide +kernel)
def tab_MO_closesRecord : List sT := [(0, 1, .aload_n 0, 0, [], 0, 0), (1, 2, .bipush 125, 0, [], 125, 0), (3, 3, .invokevirtual 289, 0, [], 0, 0), (6, 3, .ifCond .ne 5, 11, [], 0, 0), (9, 1, .iconst 0, 0, [], 0, 0), (10, 1, .ireturn, 0, [], 0, 0), (11, 1, .aload_n 0, 0, [], 0, 0), (12, 1, .dup, 0, [], 0, 0), (13, 3, .getfield 266, 0, [], 0, 0), (16, 1, .iconst 1, 0, [], 1, 0), (17, 1, .isub, 0, [], 0, 0), (18, 3, .putfield 266, 0, [], 0, 0), (21, 1, .aload_n 0, 0, [], 0, 0), (22, 1, .aload_n 0, 0, [], 0, 0), (23, 3, .getfield 97, 0, [], 0, 0), (26, 1, .aload_n 0, 0, [], 0, 0), (27, 3, .getfield 266, 0, [], 0, 0), (30, 1, .iaload, 0, [], 0, 0), (31, 3, .invokevirtual 329, 0, [], 0, 0), (34, 1, .iconst 1, 0, [], 1, 0), (35, 1, .ireturn, 0, [], 0, 0)]
theorem tk_MO_closesRecord : ∀ e ∈ tab_MO_closesRecord, sTok "GathersAllFaultsModel" prog_9_method_63_code e := tab_of (by decide +kernel)
def tab_MO_readsCheckField : List sT := [(0, 1, .aload_n 0, 0, [], 0, 0), (1, 3, .getfield 256, 0, [], 0, 0), (4, 1, .istore_n 1, 0, [], 0, 0), (5, 1, .aload_n 0, 0, [], 0, 0), (6, 2, .bipush 46, 0, [], 46, 0), (8, 3, .invokevirtual 289, 0, [], 0, 0), (11, 3, .ifCond .eq 7, 18, [], 0, 0), (14, 1, .iconst 1, 0, [], 1, 0), (15, 3, .goto 4, 19, [], 0, 0), (18, 1, .iconst 0, 0, [], 0, 0), (19, 1, .istore_n 2, 0, [], 0, 0), (20, 1, .aload_n 0, 0, [], 0, 0), (21, 3, .invokevirtual 292, 0, [], 0, 0), (24, 1, .istore_n 3, 0, [], 0, 0), (25, 1, .iload_n 3, 0, [], 0, 0), (26, 3, .ifCond .ge 5, 31, [], 0, 0), (29, 1, .iconst 0, 0, [], 0, 0), (30, 1, .ireturn, 0, [], 0, 0), (31, 1, .aload_n 0, 0, [], 0, 0), (32, 3, .getfield 266, 0, [], 0, 0), (35, 1, .iconst 1, 0, [], 1, 0), (36, 1, .isub, 0, [], 0, 0), (37, 2, .istore 4, 0, [], 0, 0), (39, 1, .aload_n 0, 0, [], 0, 0), (40, 3, .getfield 103, 0, [], 0, 0), (43, 2, .iload 4, 0, [], 0, 0), (45, 1, .iaload, 0, [], 0, 0), (46, 1, .iload_n 3, 0, [], 0, 0), (47, 3, .invokestatic 295, 0, [], 0, 0), (50, 3, .ifCond .eq 8, 58, [], 0, 0), (53, 1, .aload_n 0, 0, [], 0, 0), (54, 1, .iload_n 1, 0, [], 0, 0), (55, 3, .invokevirtual 269, 0, [], 0, 0), (58, 1, .aload_n 0, 0, [], 0, 0), (59, 3, .getfield 103, 0, [], 0, 0), (62, 2, .iload 4, 0, [], 0, 0), (64, 1, .dup2, 0, [], 0, 0), (65, 1, .iaload, 0, [], 0, 0), (66, 1, .iconst 1, 0, [], 1, 0), (67, 1, .iload_n 3, 0, [], 0, 0), (68, 1, .ishl, 0, [], 0, 0), (69, 1, .ior, 0, [], 0, 0), (70, 1, .iastore, 0, [], 0, 0), (71, 1, .aload_n 0, 0, [], 0, 0), (72, 3, .getfield 169, 0, [], 0, 0), (75, 2, .bipush 24, 0, [], 24, 0), (77, 3, .if_icmp .ge 10, 87, [], 0, 0), (80, 1, .aload_n 0, 0, [], 0, 0), (81, 3, .getfield 169, 0, [], 0, 0), (84, 3, .goto 5, 89, [], 0, 0), (87, 2, .bipush 24, 0, [], 24, 0), (89, 2, .istore 5, 0, [], 0, 0), (91, 1, .aload_n 0, 0, [], 0, 0), (92, 3, .getfield 43, 0, [], 0, 0), (95, 2, .iload 5, 0, [], 0, 0), (97, 1, .aload_n 0, 0, [], 0, 0), (98, 3, .getfield 97, 0, [], 0, 0), (101, 2, .iload 4, 0, [], 0, 0), (103, 1, .iaload, 0, [], 0, 0), (104, 1, .iastore, 0, [], 0, 0), (105, 1, .aload_n 0, 0, [], 0, 0), (106, 3, .getfield 46, 0, [], 0, 0), (109, 2, .iload 5, 0, [], 0, 0), (111, 1, .iload_n 3, 0, [], 0, 0), (112, 1, .iastore, 0, [], 0, 0), (113, 1, .aload_n 0, 0, [], 0, 0), (114, 3, .getfield 49, 0, [], 0, 0), (117, 2, .iload 5, 0, [], 0, 0), (119, 1, .iload_n 2, 0, [], 0, 0), (120, 1, .iastore, 0, [], 0, 0), (121, 1, .aload_n 0, 0, [], 0, 0), (122, 3, .getfield 106, 0, [], 0, 0), (125, 2, .iload 4, 0, [], 0, 0), (127, 2, .iload 5, 0, [], 0, 0), (129, 1, .iastore, 0, [], 0, 0), (130, 1, .aload_n 0, 0, [], 0, 0), (131, 1, .dup, 0, [], 0, 0), (132, 3, .getfield 169, 0, [], 0, 0), (135, 1, .iconst 1, 0, [], 1, 0), (136, 1, .iadd, 0, [], 0, 0), (137, 3, .putfield 169, 0, [], 0, 0), (140, 1, .aload_n 0, 0, [], 0, 0), (141, 3, .invokevirtual 332, 0, [], 0, 0), (144, 1, .ireturn, 0, [], 0, 0)]
theorem tk_MO_readsCheckField : ∀ e ∈ tab_MO_readsCheckField, sTok "GathersAllFaultsModel" prog_9_method_61_code e := tab_of (by decide +kernel)
def tab_MO_image : List sT := [(0, 1, .aload_n 0, 0, [], 0, 0), (1, 1, .iconst 1, 0, [], 1, 0), (2, 3, .putfield 367, 0, [], 0, 0), (5, 1, .aload_n 0, 0, [], 0, 0), (6, 1, .iconst 0, 0, [], 0, 0), (7, 1, .iconst 1, 0, [], 1, 0), (8, 3, .invokevirtual 310, 0, [], 0, 0), (11, 1, .aload_n 0, 0, [], 0, 0), (12, 1, .iconst 0, 0, [], 0, 0), (13, 1, .iconst 1, 0, [], 1, 0), (14, 3, .invokevirtual 347, 0, [], 0, 0), (17, 1, .aload_n 0, 0, [], 0, 0), (18, 3, .getfield 118, 0, [], 0, 0), (21, 1, .ireturn, 0, [], 0, 0)]
theorem tk_MO_image : ∀ e ∈ tab_MO_image, sTok "GathersAllFaultsModel" prog_9_method_73_code e := tab_of (by decide +kernel)
def tab_MO_on : List sT := [(0, 1, .aload_n 0, 0, [], 0, 0), (1, 3, .getfield 367, 0, [], 0, 0), (4, 3, .ifCond .ne 10, 14, [], 0, 0), (7, 1, .aload_n 0, 0, [], 0, 0), (8, 2, .bipush (-3), 0, [], (-3), 0), (10, 3, .invokevirtual 253, 0, [], 0, 0), (13, 1, .ireturn, 0, [], 0, 0), (14, 1, .aload_n 0, 0, [], 0, 0), (15, 1, .iconst 0, 0, [], 0, 0), (16, 1, .iconst 0, 0, [], 0, 0), (17, 3, .invokevirtual 310, 0, [], 0, 0), (20, 1, .aload_n 0, 0, [], 0, 0), (21, 1, .iconst 0, 0, [], 0, 0), (22, 1, .iconst 0, 0, [], 0, 0), (23, 3, .invokevirtual 347, 0, [], 0, 0), (26, 1, .aload_n 0, 0, [], 0, 0), (27, 3, .getfield 118, 0, [], 0, 0), (30, 1, .ireturn, 0, [], 0, 0)]
theorem tk_MO_on : ∀ e ∈ tab_MO_on, sTok "GathersAllFaultsModel" prog_9_method_74_code e := tab_of (by decide +kernel)
def tab_MO_part : List sT := [(0, 1, .aload_n 0, 0, [], 0, 0), (1, 1, .iload_n 1, 0, [], 0, 0), (2, 3, .invokevirtual 146, 0, [], 0, 0), (5, 1, .istore_n 3, 0, [], 0, 0), (6, 1, .iload_n 3, 0, [], 0, 0), (7, 3, .ifCond .ge 9, 16, [], 0, 0), (10, 1, .aload_n 0, 0, [], 0, 0), (11, 1, .iconst (-1), 0, [], (-1), 0), (12, 3, .invokevirtual 253, 0, [], 0, 0), (15, 1, .ireturn, 0, [], 0, 0), (16, 1, .iload_n 2, 0, [], 0, 0), (17, 31, .tableswitch 68 0 3 #[31, 38, 59, 66], 85, [(0, 48), (1, 55), (2, 76), (3, 83)], 0, 0), (48, 1, .aload_n 0, 0, [], 0, 0), (49, 3, .getfield 13, 0, [], 0, 0), (52, 1, .iload_n 3, 0, [], 0, 0), (53, 1, .iaload, 0, [], 0, 0), (54, 1, .ireturn, 0, [], 0, 0), (55, 1, .aload_n 0, 0, [], 0, 0), (56, 3, .getfield 13, 0, [], 0, 0), (59, 1, .iload_n 3, 0, [], 0, 0), (60, 1, .iaload, 0, [], 0, 0), (61, 1, .iconst 1, 0, [], 1, 0), (62, 3, .if_icmp .ne 7, 69, [], 0, 0), (65, 1, .iconst 0, 0, [], 0, 0), (66, 3, .goto 9, 75, [], 0, 0), (69, 1, .aload_n 0, 0, [], 0, 0), (70, 3, .getfield 16, 0, [], 0, 0), (73, 1, .iload_n 3, 0, [], 0, 0), (74, 1, .iaload, 0, [], 0, 0), (75, 1, .ireturn, 0, [], 0, 0), (76, 1, .aload_n 0, 0, [], 0, 0), (77, 3, .getfield 22, 0, [], 0, 0), (80, 1, .iload_n 3, 0, [], 0, 0), (81, 1, .iaload, 0, [], 0, 0), (82, 1, .ireturn, 0, [], 0, 0), (83, 1, .iload_n 3, 0, [], 0, 0), (84, 1, .ireturn, 0, [], 0, 0), (85, 1, .aload_n 0, 0, [], 0, 0), (86, 2, .bipush (-2), 0, [], (-2), 0), (88, 3, .invokevirtual 253, 0, [], 0, 0), (91, 1, .ireturn, 0, [], 0, 0)]
theorem tk_MO_part : ∀ e ∈ tab_MO_part, sTok "GathersAllFaultsModel" prog_9_method_75_code e := tab_of (by decide +kernel)
def tab_MO_partAt : List sT := [(0, 1, .iconst 0, 0, [], 0, 0), (1, 1, .istore_n 2, 0, [], 0, 0), (2, 1, .iload_n 2, 0, [], 0, 0), (3, 1, .aload_n 0, 0, [], 0, 0), (4, 3, .getfield 118, 0, [], 0, 0), (7, 3, .if_icmp .ge 21, 28, [], 0, 0), (10, 1, .aload_n 0, 0, [], 0, 0), (11, 3, .getfield 25, 0, [], 0, 0), (14, 1, .iload_n 2, 0, [], 0, 0), (15, 1, .iaload, 0, [], 0, 0), (16, 1, .iload_n 1, 0, [], 0, 0), (17, 3, .if_icmp .ne 5, 22, [], 0, 0), (20, 1, .iload_n 2, 0, [], 0, 0), (21, 1, .ireturn, 0, [], 0, 0), (22, 3, .iinc 2 1, 0, [], 1, 0), (25, 3, .goto (-23), 2, [], 0, 0), (28, 2, .bipush (-9), 0, [], (-9), 0), (30, 1, .ireturn, 0, [], 0, 0)]
theorem tk_MO_partAt : ∀ e ∈ tab_MO_partAt, sTok "GathersAllFaultsModel" prog_9_method_10_code e := tab_of (by decide +kernel)
def tab_MO_path : List sT := [(0, 1, .iload_n 1, 0, [], 0, 0), (1, 1, .iconst 0, 0, [], 0, 0), (2, 1, .aload_n 0, 0, [], 0, 0), (3, 3, .getfield 118, 0, [], 0, 0), (6, 1, .iconst 1, 0, [], 1, 0), (7, 1, .isub, 0, [], 0, 0), (8, 3, .invokestatic 213, 0, [], 0, 0), (11, 3, .ifCond .eq 12, 23, [], 0, 0), (14, 1, .aload_n 0, 0, [], 0, 0), (15, 3, .getfield 25, 0, [], 0, 0), (18, 1, .iload_n 1, 0, [], 0, 0), (19, 1, .iaload, 0, [], 0, 0), (20, 3, .goto 8, 28, [], 0, 0), (23, 1, .aload_n 0, 0, [], 0, 0), (24, 1, .iconst (-1), 0, [], (-1), 0), (25, 3, .invokevirtual 253, 0, [], 0, 0), (28, 1, .ireturn, 0, [], 0, 0)]
theorem tk_MO_path : ∀ e ∈ tab_MO_path, sTok "GathersAllFaultsModel" prog_9_method_76_code e := tab_of (by decide +kernel)
def tab_MO_puts : List sT := [(0, 1, .aload_n 0, 0, [], 0, 0), (1, 1, .iload_n 1, 0, [], 0, 0), (2, 3, .invokevirtual 146, 0, [], 0, 0), (5, 1, .istore_n 3, 0, [], 0, 0), (6, 1, .iload_n 3, 0, [], 0, 0), (7, 3, .ifCond .ge 7, 14, [], 0, 0), (10, 1, .iconst (-1), 0, [], (-1), 0), (11, 3, .goto 10, 21, [], 0, 0), (14, 1, .iload_n 2, 0, [], 0, 0), (15, 1, .iconst 0, 0, [], 0, 0), (16, 2, .bipush 99, 0, [], 99, 0), (18, 3, .invokestatic 246, 0, [], 0, 0), (21, 2, .istore 4, 0, [], 0, 0), (23, 2, .iload 4, 0, [], 0, 0), (25, 3, .ifCond .eq 10, 35, [], 0, 0), (28, 1, .aload_n 0, 0, [], 0, 0), (29, 2, .iload 4, 0, [], 0, 0), (31, 3, .invokevirtual 253, 0, [], 0, 0), (34, 1, .ireturn, 0, [], 0, 0), (35, 1, .aload_n 0, 0, [], 0, 0), (36, 3, .getfield 22, 0, [], 0, 0), (39, 1, .iload_n 3, 0, [], 0, 0), (40, 1, .iaload, 0, [], 0, 0), (41, 2, .istore 5, 0, [], 0, 0), (43, 1, .aload_n 0, 0, [], 0, 0), (44, 1, .iload_n 3, 0, [], 0, 0), (45, 1, .iconst 0, 0, [], 0, 0), (46, 1, .iload_n 2, 0, [], 0, 0), (47, 3, .invokevirtual 370, 0, [], 0, 0), (50, 2, .iload 5, 0, [], 0, 0), (52, 1, .ireturn, 0, [], 0, 0)]
theorem tk_MO_puts : ∀ e ∈ tab_MO_puts, sTok "GathersAllFaultsModel" prog_9_method_77_code e := tab_of (by decide +kernel)
def tab_MO_putsAt : List sT := [(0, 1, .aload_n 0, 0, [], 0, 0), (1, 1, .iload_n 1, 0, [], 0, 0), (2, 1, .iconst 1, 0, [], 1, 0), (3, 1, .iadd, 0, [], 0, 0), (4, 1, .aload_n 0, 0, [], 0, 0), (5, 3, .getfield 22, 0, [], 0, 0), (8, 1, .iload_n 1, 0, [], 0, 0), (9, 1, .iaload, 0, [], 0, 0), (10, 1, .iconst 1, 0, [], 1, 0), (11, 1, .isub, 0, [], 0, 0), (12, 3, .invokevirtual 142, 0, [], 0, 0), (15, 1, .aload_n 0, 0, [], 0, 0), (16, 3, .getfield 13, 0, [], 0, 0), (19, 1, .iload_n 1, 0, [], 0, 0), (20, 1, .iload_n 2, 0, [], 0, 0), (21, 1, .iastore, 0, [], 0, 0), (22, 1, .aload_n 0, 0, [], 0, 0), (23, 3, .getfield 16, 0, [], 0, 0), (26, 1, .iload_n 1, 0, [], 0, 0), (27, 1, .iload_n 3, 0, [], 0, 0), (28, 1, .iastore, 0, [], 0, 0), (29, 1, .aload_n 0, 0, [], 0, 0), (30, 3, .invokevirtual 125, 0, [], 0, 0), (33, 1, .return_, 0, [], 0, 0)]
theorem tk_MO_putsAt : ∀ e ∈ tab_MO_putsAt, sTok "GathersAllFaultsModel" prog_9_method_14_code e := tab_of (by decide +kernel)
def tab_MO_takesOut : List sT := [(0, 1, .aload_n 0, 0, [], 0, 0), (1, 1, .dup, 0, [], 0, 0), (2, 3, .getfield 118, 0, [], 0, 0), (5, 1, .iload_n 2, 0, [], 0, 0), (6, 1, .isub, 0, [], 0, 0), (7, 3, .putfield 118, 0, [], 0, 0), (10, 1, .iload_n 1, 0, [], 0, 0), (11, 1, .istore_n 3, 0, [], 0, 0), (12, 1, .iload_n 3, 0, [], 0, 0), (13, 1, .aload_n 0, 0, [], 0, 0), (14, 3, .getfield 118, 0, [], 0, 0), (17, 3, .if_icmp .ge 51, 68, [], 0, 0), (20, 1, .aload_n 0, 0, [], 0, 0), (21, 3, .getfield 13, 0, [], 0, 0), (24, 1, .iload_n 3, 0, [], 0, 0), (25, 1, .aload_n 0, 0, [], 0, 0), (26, 3, .getfield 13, 0, [], 0, 0), (29, 1, .iload_n 3, 0, [], 0, 0), (30, 1, .iload_n 2, 0, [], 0, 0), (31, 1, .iadd, 0, [], 0, 0), (32, 1, .iaload, 0, [], 0, 0), (33, 1, .iastore, 0, [], 0, 0), (34, 1, .aload_n 0, 0, [], 0, 0), (35, 3, .getfield 16, 0, [], 0, 0), (38, 1, .iload_n 3, 0, [], 0, 0), (39, 1, .aload_n 0, 0, [], 0, 0), (40, 3, .getfield 16, 0, [], 0, 0), (43, 1, .iload_n 3, 0, [], 0, 0), (44, 1, .iload_n 2, 0, [], 0, 0), (45, 1, .iadd, 0, [], 0, 0), (46, 1, .iaload, 0, [], 0, 0), (47, 1, .iastore, 0, [], 0, 0), (48, 1, .aload_n 0, 0, [], 0, 0), (49, 3, .getfield 19, 0, [], 0, 0), (52, 1, .iload_n 3, 0, [], 0, 0), (53, 1, .aload_n 0, 0, [], 0, 0), (54, 3, .getfield 19, 0, [], 0, 0), (57, 1, .iload_n 3, 0, [], 0, 0), (58, 1, .iload_n 2, 0, [], 0, 0), (59, 1, .iadd, 0, [], 0, 0), (60, 1, .iaload, 0, [], 0, 0), (61, 1, .iastore, 0, [], 0, 0), (62, 3, .iinc 3 1, 0, [], 1, 0), (65, 3, .goto (-53), 12, [], 0, 0), (68, 1, .return_, 0, [], 0, 0)]
theorem tk_MO_takesOut : ∀ e ∈ tab_MO_takesOut, sTok "GathersAllFaultsModel" prog_9_method_13_code e := tab_of (by decide +kernel)
def tab_MO_drops : List sT := [(0, 1, .aload_n 0, 0, [], 0, 0), (1, 1, .iload_n 1, 0, [], 0, 0), (2, 3, .invokevirtual 146, 0, [], 0, 0), (5, 1, .istore_n 2, 0, [], 0, 0), (6, 1, .iload_n 2, 0, [], 0, 0), (7, 3, .ifCond .ge 9, 16, [], 0, 0), (10, 1, .aload_n 0, 0, [], 0, 0), (11, 1, .iconst (-1), 0, [], (-1), 0), (12, 3, .invokevirtual 253, 0, [], 0, 0), (15, 1, .ireturn, 0, [], 0, 0), (16, 1, .aload_n 0, 0, [], 0, 0), (17, 3, .getfield 22, 0, [], 0, 0), (20, 1, .iload_n 2, 0, [], 0, 0), (21, 1, .iaload, 0, [], 0, 0), (22, 1, .istore_n 3, 0, [], 0, 0), (23, 1, .aload_n 0, 0, [], 0, 0), (24, 1, .iload_n 2, 0, [], 0, 0), (25, 1, .iconst 1, 0, [], 1, 0), (26, 1, .iconst 0, 0, [], 0, 0), (27, 3, .invokevirtual 370, 0, [], 0, 0), (30, 1, .iload_n 3, 0, [], 0, 0), (31, 1, .ireturn, 0, [], 0, 0)]
theorem tk_MO_drops : ∀ e ∈ tab_MO_drops, sTok "GathersAllFaultsModel" prog_9_method_78_code e := tab_of (by decide +kernel)
def tab_MO_faults : List sT := [(0, 1, .aload_n 0, 0, [], 0, 0), (1, 3, .invokevirtual 376, 0, [], 0, 0), (4, 1, .ireturn, 0, [], 0, 0)]
theorem tk_MO_faults : ∀ e ∈ tab_MO_faults, sTok "GathersAllFaultsModel" prog_9_method_80_code e := tab_of (by decide +kernel)
def tab_MO_manyNow : List sT := [(0, 1, .aload_n 0, 0, [], 0, 0), (1, 3, .invokevirtual 373, 0, [], 0, 0), (4, 1, .aload_n 0, 0, [], 0, 0), (5, 3, .getfield 159, 0, [], 0, 0), (8, 1, .ireturn, 0, [], 0, 0)]
theorem tk_MO_manyNow : ∀ e ∈ tab_MO_manyNow, sTok "GathersAllFaultsModel" prog_9_method_79_code e := tab_of (by decide +kernel)
def tab_MO_findFaults : List sT := [(0, 1, .aload_n 0, 0, [], 0, 0), (1, 1, .iconst 0, 0, [], 0, 0), (2, 3, .putfield 159, 0, [], 0, 0), (5, 1, .aload_n 0, 0, [], 0, 0), (6, 1, .iconst 0, 0, [], 0, 0), (7, 3, .putfield 185, 0, [], 0, 0), (10, 1, .aload_n 0, 0, [], 0, 0), (11, 1, .iconst 0, 0, [], 0, 0), (12, 3, .putfield 156, 0, [], 0, 0), (15, 1, .aload_n 0, 0, [], 0, 0), (16, 1, .iconst 0, 0, [], 0, 0), (17, 1, .iconst 0, 0, [], 0, 0), (18, 3, .invokevirtual 210, 0, [], 0, 0), (21, 1, .aload_n 0, 0, [], 0, 0), (22, 3, .getfield 156, 0, [], 0, 0), (25, 3, .ifCond .le 32, 57, [], 0, 0), (28, 1, .aload_n 0, 0, [], 0, 0), (29, 1, .aload_n 0, 0, [], 0, 0), (30, 3, .getfield 73, 0, [], 0, 0), (33, 1, .aload_n 0, 0, [], 0, 0), (34, 3, .getfield 156, 0, [], 0, 0), (37, 1, .iconst 1, 0, [], 1, 0), (38, 1, .isub, 0, [], 0, 0), (39, 1, .iaload, 0, [], 0, 0), (40, 1, .aload_n 0, 0, [], 0, 0), (41, 3, .getfield 76, 0, [], 0, 0), (44, 1, .aload_n 0, 0, [], 0, 0), (45, 3, .getfield 156, 0, [], 0, 0), (48, 1, .iconst 1, 0, [], 1, 0), (49, 1, .isub, 0, [], 0, 0), (50, 1, .iaload, 0, [], 0, 0), (51, 3, .invokevirtual 243, 0, [], 0, 0), (54, 3, .goto (-33), 21, [], 0, 0), (57, 1, .return_, 0, [], 0, 0)]
theorem tk_MO_findFaults : ∀ e ∈ tab_MO_findFaults, sTok "GathersAllFaultsModel" prog_9_method_40_code e := tab_of (by decide +kernel)
def tab_MO_looks : List sT := [(0, 1, .aload_n 0, 0, [], 0, 0), (1, 3, .getfield 73, 0, [], 0, 0), (4, 1, .aload_n 0, 0, [], 0, 0), (5, 3, .getfield 156, 0, [], 0, 0), (8, 1, .iload_n 1, 0, [], 0, 0), (9, 1, .iastore, 0, [], 0, 0), (10, 1, .aload_n 0, 0, [], 0, 0), (11, 3, .getfield 76, 0, [], 0, 0), (14, 1, .aload_n 0, 0, [], 0, 0), (15, 3, .getfield 156, 0, [], 0, 0), (18, 1, .iload_n 2, 0, [], 0, 0), (19, 1, .iastore, 0, [], 0, 0), (20, 1, .aload_n 0, 0, [], 0, 0), (21, 3, .getfield 79, 0, [], 0, 0), (24, 1, .aload_n 0, 0, [], 0, 0), (25, 3, .getfield 156, 0, [], 0, 0), (28, 1, .iconst 0, 0, [], 0, 0), (29, 1, .iastore, 0, [], 0, 0), (30, 1, .aload_n 0, 0, [], 0, 0), (31, 1, .dup, 0, [], 0, 0), (32, 3, .getfield 156, 0, [], 0, 0), (35, 1, .iconst 1, 0, [], 1, 0), (36, 1, .iadd, 0, [], 0, 0), (37, 3, .putfield 156, 0, [], 0, 0), (40, 1, .return_, 0, [], 0, 0)]
theorem tk_MO_looks : ∀ e ∈ tab_MO_looks, sTok "GathersAllFaultsModel" prog_9_method_20_code e := tab_of (by decide +kernel)
def tab_MO_goesOn : List sT := [(0, 1, .aload_n 0, 0, [], 0, 0), (1, 3, .getfield 28, 0, [], 0, 0), (4, 1, .iload_n 1, 0, [], 0, 0), (5, 1, .iaload, 0, [], 0, 0), (6, 74, .lookupswitch 136 #[(33, 83), (35, 74), (38, 110), (47, 119), (64, 101), (94, 128), (123, 92), (126, 83)], 142, [(33, 89), (35, 80), (38, 116), (47, 125), (64, 107), (94, 134), (123, 98), (126, 89)], 0, 0), (80, 1, .aload_n 0, 0, [], 0, 0), (81, 1, .iload_n 1, 0, [], 0, 0), (82, 1, .iload_n 2, 0, [], 0, 0), (83, 3, .invokevirtual 225, 0, [], 0, 0), (86, 3, .goto 66, 152, [], 0, 0), (89, 1, .aload_n 0, 0, [], 0, 0), (90, 1, .iload_n 1, 0, [], 0, 0), (91, 1, .iload_n 2, 0, [], 0, 0), (92, 3, .invokevirtual 228, 0, [], 0, 0), (95, 3, .goto 57, 152, [], 0, 0), (98, 1, .aload_n 0, 0, [], 0, 0), (99, 1, .iload_n 1, 0, [], 0, 0), (100, 1, .iload_n 2, 0, [], 0, 0), (101, 3, .invokevirtual 231, 0, [], 0, 0), (104, 3, .goto 48, 152, [], 0, 0), (107, 1, .aload_n 0, 0, [], 0, 0), (108, 1, .iload_n 1, 0, [], 0, 0), (109, 1, .iload_n 2, 0, [], 0, 0), (110, 3, .invokevirtual 234, 0, [], 0, 0), (113, 3, .goto 39, 152, [], 0, 0), (116, 1, .aload_n 0, 0, [], 0, 0), (117, 1, .iload_n 1, 0, [], 0, 0), (118, 1, .iload_n 2, 0, [], 0, 0), (119, 3, .invokevirtual 237, 0, [], 0, 0), (122, 3, .goto 30, 152, [], 0, 0), (125, 1, .aload_n 0, 0, [], 0, 0), (126, 1, .iload_n 1, 0, [], 0, 0), (127, 1, .iload_n 2, 0, [], 0, 0), (128, 3, .invokevirtual 240, 0, [], 0, 0), (131, 3, .goto 21, 152, [], 0, 0), (134, 1, .aload_n 0, 0, [], 0, 0), (135, 1, .iconst 0, 0, [], 0, 0), (136, 3, .invokevirtual 165, 0, [], 0, 0), (139, 3, .goto 13, 152, [], 0, 0), (142, 1, .aload_n 0, 0, [], 0, 0), (143, 1, .dup, 0, [], 0, 0), (144, 3, .getfield 156, 0, [], 0, 0), (147, 1, .iconst 1, 0, [], 1, 0), (148, 1, .isub, 0, [], 0, 0), (149, 3, .putfield 156, 0, [], 0, 0), (152, 1, .return_, 0, [], 0, 0)]
theorem tk_MO_goesOn : ∀ e ∈ tab_MO_goesOn, sTok "GathersAllFaultsModel" prog_9_method_39_code e := tab_of (by decide +kernel)
def tab_MO_findsNumber : List sT := [(0, 1, .aload_n 0, 0, [], 0, 0), (1, 1, .dup, 0, [], 0, 0), (2, 3, .getfield 156, 0, [], 0, 0), (5, 1, .iconst 1, 0, [], 1, 0), (6, 1, .isub, 0, [], 0, 0), (7, 3, .putfield 156, 0, [], 0, 0), (10, 1, .aload_n 0, 0, [], 0, 0), (11, 3, .getfield 13, 0, [], 0, 0), (14, 1, .iload_n 2, 0, [], 0, 0), (15, 1, .iaload, 0, [], 0, 0), (16, 3, .ifCond .eq 17, 33, [], 0, 0), (19, 1, .aload_n 0, 0, [], 0, 0), (20, 1, .aload_n 0, 0, [], 0, 0), (21, 3, .getfield 25, 0, [], 0, 0), (24, 1, .iload_n 2, 0, [], 0, 0), (25, 1, .iaload, 0, [], 0, 0), (26, 1, .iconst 1, 0, [], 1, 0), (27, 3, .invokevirtual 162, 0, [], 0, 0), (30, 3, .goto 58, 88, [], 0, 0), (33, 1, .aload_n 0, 0, [], 0, 0), (34, 3, .getfield 16, 0, [], 0, 0), (37, 1, .iload_n 2, 0, [], 0, 0), (38, 1, .iaload, 0, [], 0, 0), (39, 1, .aload_n 0, 0, [], 0, 0), (40, 3, .getfield 31, 0, [], 0, 0), (43, 1, .iload_n 1, 0, [], 0, 0), (44, 1, .iaload, 0, [], 0, 0), (45, 3, .if_icmp .ge 17, 62, [], 0, 0), (48, 1, .aload_n 0, 0, [], 0, 0), (49, 1, .aload_n 0, 0, [], 0, 0), (50, 3, .getfield 25, 0, [], 0, 0), (53, 1, .iload_n 2, 0, [], 0, 0), (54, 1, .iaload, 0, [], 0, 0), (55, 1, .iconst 2, 0, [], 2, 0), (56, 3, .invokevirtual 162, 0, [], 0, 0), (59, 3, .goto 29, 88, [], 0, 0), (62, 1, .aload_n 0, 0, [], 0, 0), (63, 3, .getfield 16, 0, [], 0, 0), (66, 1, .iload_n 2, 0, [], 0, 0), (67, 1, .iaload, 0, [], 0, 0), (68, 1, .aload_n 0, 0, [], 0, 0), (69, 3, .getfield 34, 0, [], 0, 0), (72, 1, .iload_n 1, 0, [], 0, 0), (73, 1, .iaload, 0, [], 0, 0), (74, 3, .if_icmp .le 14, 88, [], 0, 0), (77, 1, .aload_n 0, 0, [], 0, 0), (78, 1, .aload_n 0, 0, [], 0, 0), (79, 3, .getfield 25, 0, [], 0, 0), (82, 1, .iload_n 2, 0, [], 0, 0), (83, 1, .iaload, 0, [], 0, 0), (84, 1, .iconst 3, 0, [], 3, 0), (85, 3, .invokevirtual 162, 0, [], 0, 0), (88, 1, .return_, 0, [], 0, 0)]
theorem tk_MO_findsNumber : ∀ e ∈ tab_MO_findsNumber, sTok "GathersAllFaultsModel" prog_9_method_23_code e := tab_of (by decide +kernel)
def tab_MO_finds : List sT := [(0, 1, .aload_n 0, 0, [], 0, 0), (1, 3, .getfield 67, 0, [], 0, 0), (4, 1, .aload_n 0, 0, [], 0, 0), (5, 3, .getfield 159, 0, [], 0, 0), (8, 1, .iload_n 1, 0, [], 0, 0), (9, 1, .iastore, 0, [], 0, 0), (10, 1, .aload_n 0, 0, [], 0, 0), (11, 3, .getfield 70, 0, [], 0, 0), (14, 1, .aload_n 0, 0, [], 0, 0), (15, 3, .getfield 159, 0, [], 0, 0), (18, 1, .iload_n 2, 0, [], 0, 0), (19, 1, .iastore, 0, [], 0, 0), (20, 1, .aload_n 0, 0, [], 0, 0), (21, 1, .dup, 0, [], 0, 0), (22, 3, .getfield 159, 0, [], 0, 0), (25, 1, .iconst 1, 0, [], 1, 0), (26, 1, .iadd, 0, [], 0, 0), (27, 3, .putfield 159, 0, [], 0, 0), (30, 1, .return_, 0, [], 0, 0)]
theorem tk_MO_finds : ∀ e ∈ tab_MO_finds, sTok "GathersAllFaultsModel" prog_9_method_21_code e := tab_of (by decide +kernel)
def tab_MO_findsThere : List sT := [(0, 1, .aload_n 0, 0, [], 0, 0), (1, 3, .getfield 13, 0, [], 0, 0), (4, 1, .iload_n 2, 0, [], 0, 0), (5, 1, .iaload, 0, [], 0, 0), (6, 1, .iconst 1, 0, [], 1, 0), (7, 3, .if_icmp .eq 14, 21, [], 0, 0), (10, 1, .aload_n 0, 0, [], 0, 0), (11, 1, .aload_n 0, 0, [], 0, 0), (12, 3, .getfield 37, 0, [], 0, 0), (15, 1, .iload_n 1, 0, [], 0, 0), (16, 1, .iaload, 0, [], 0, 0), (17, 3, .invokevirtual 165, 0, [], 0, 0), (20, 1, .return_, 0, [], 0, 0), (21, 1, .aload_n 0, 0, [], 0, 0), (22, 1, .dup, 0, [], 0, 0), (23, 3, .getfield 156, 0, [], 0, 0), (26, 1, .iconst 1, 0, [], 1, 0), (27, 1, .isub, 0, [], 0, 0), (28, 3, .putfield 156, 0, [], 0, 0), (31, 1, .aload_n 0, 0, [], 0, 0), (32, 3, .getfield 28, 0, [], 0, 0), (35, 1, .iload_n 1, 0, [], 0, 0), (36, 1, .iaload, 0, [], 0, 0), (37, 2, .bipush 33, 0, [], 33, 0), (39, 3, .if_icmp .ne 14, 53, [], 0, 0), (42, 1, .aload_n 0, 0, [], 0, 0), (43, 1, .aload_n 0, 0, [], 0, 0), (44, 3, .getfield 25, 0, [], 0, 0), (47, 1, .iload_n 2, 0, [], 0, 0), (48, 1, .iaload, 0, [], 0, 0), (49, 1, .iconst 4, 0, [], 4, 0), (50, 3, .invokevirtual 162, 0, [], 0, 0), (53, 1, .return_, 0, [], 0, 0)]
theorem tk_MO_findsThere : ∀ e ∈ tab_MO_findsThere, sTok "GathersAllFaultsModel" prog_9_method_24_code e := tab_of (by decide +kernel)
def tab_MO_looksAs : List sT := [(0, 1, .aload_n 0, 0, [], 0, 0), (1, 3, .getfield 73, 0, [], 0, 0), (4, 1, .aload_n 0, 0, [], 0, 0), (5, 3, .getfield 156, 0, [], 0, 0), (8, 1, .iconst 1, 0, [], 1, 0), (9, 1, .isub, 0, [], 0, 0), (10, 1, .iload_n 1, 0, [], 0, 0), (11, 1, .iastore, 0, [], 0, 0), (12, 1, .aload_n 0, 0, [], 0, 0), (13, 3, .getfield 79, 0, [], 0, 0), (16, 1, .aload_n 0, 0, [], 0, 0), (17, 3, .getfield 156, 0, [], 0, 0), (20, 1, .iconst 1, 0, [], 1, 0), (21, 1, .isub, 0, [], 0, 0), (22, 1, .iconst 0, 0, [], 0, 0), (23, 1, .iastore, 0, [], 0, 0), (24, 1, .return_, 0, [], 0, 0)]
theorem tk_MO_looksAs : ∀ e ∈ tab_MO_looksAs, sTok "GathersAllFaultsModel" prog_9_method_22_code e := tab_of (by decide +kernel)
def tab_MO_findsRecord : List sT := [(0, 1, .aload_n 0, 0, [], 0, 0), (1, 3, .getfield 79, 0, [], 0, 0), (4, 1, .aload_n 0, 0, [], 0, 0), (5, 3, .getfield 156, 0, [], 0, 0), (8, 1, .iconst 1, 0, [], 1, 0), (9, 1, .isub, 0, [], 0, 0), (10, 1, .iaload, 0, [], 0, 0), (11, 1, .istore_n 3, 0, [], 0, 0), (12, 1, .iload_n 3, 0, [], 0, 0), (13, 3, .ifCond .ne 35, 48, [], 0, 0), (16, 1, .aload_n 0, 0, [], 0, 0), (17, 3, .getfield 13, 0, [], 0, 0), (20, 1, .iload_n 2, 0, [], 0, 0), (21, 1, .iaload, 0, [], 0, 0), (22, 1, .iconst 2, 0, [], 2, 0), (23, 3, .if_icmp .eq 25, 48, [], 0, 0), (26, 1, .aload_n 0, 0, [], 0, 0), (27, 1, .dup, 0, [], 0, 0), (28, 3, .getfield 156, 0, [], 0, 0), (31, 1, .iconst 1, 0, [], 1, 0), (32, 1, .isub, 0, [], 0, 0), (33, 3, .putfield 156, 0, [], 0, 0), (36, 1, .aload_n 0, 0, [], 0, 0), (37, 1, .aload_n 0, 0, [], 0, 0), (38, 3, .getfield 25, 0, [], 0, 0), (41, 1, .iload_n 2, 0, [], 0, 0), (42, 1, .iaload, 0, [], 0, 0), (43, 1, .iconst 5, 0, [], 5, 0), (44, 3, .invokevirtual 162, 0, [], 0, 0), (47, 1, .return_, 0, [], 0, 0), (48, 1, .iload_n 3, 0, [], 0, 0), (49, 3, .ifCond .ne 18, 67, [], 0, 0), (52, 1, .aload_n 0, 0, [], 0, 0), (53, 3, .getfield 82, 0, [], 0, 0), (56, 1, .aload_n 0, 0, [], 0, 0), (57, 3, .getfield 156, 0, [], 0, 0), (60, 1, .iconst 1, 0, [], 1, 0), (61, 1, .isub, 0, [], 0, 0), (62, 1, .aload_n 0, 0, [], 0, 0), (63, 3, .getfield 159, 0, [], 0, 0), (66, 1, .iastore, 0, [], 0, 0), (67, 1, .aload_n 0, 0, [], 0, 0), (68, 1, .iload_n 1, 0, [], 0, 0), (69, 1, .iload_n 3, 0, [], 0, 0), (70, 3, .invokevirtual 204, 0, [], 0, 0), (73, 2, .istore 4, 0, [], 0, 0), (75, 2, .iload 4, 0, [], 0, 0), (77, 3, .ifCond .ge 10, 87, [], 0, 0), (80, 1, .aload_n 0, 0, [], 0, 0), (81, 1, .iload_n 1, 0, [], 0, 0), (82, 1, .iload_n 2, 0, [], 0, 0), (83, 3, .invokevirtual 207, 0, [], 0, 0), (86, 1, .return_, 0, [], 0, 0), (87, 1, .aload_n 0, 0, [], 0, 0), (88, 3, .getfield 79, 0, [], 0, 0), (91, 1, .aload_n 0, 0, [], 0, 0), (92, 3, .getfield 156, 0, [], 0, 0), (95, 1, .iconst 1, 0, [], 1, 0), (96, 1, .isub, 0, [], 0, 0), (97, 1, .dup2, 0, [], 0, 0), (98, 1, .iaload, 0, [], 0, 0), (99, 1, .iconst 1, 0, [], 1, 0), (100, 1, .iadd, 0, [], 0, 0), (101, 1, .iastore, 0, [], 0, 0), (102, 1, .aload_n 0, 0, [], 0, 0), (103, 1, .iload_n 2, 0, [], 0, 0), (104, 1, .aload_n 0, 0, [], 0, 0), (105, 3, .getfield 46, 0, [], 0, 0), (108, 2, .iload 4, 0, [], 0, 0), (110, 1, .iaload, 0, [], 0, 0), (111, 3, .invokevirtual 179, 0, [], 0, 0), (114, 2, .istore 5, 0, [], 0, 0), (116, 2, .iload 5, 0, [], 0, 0), (118, 3, .ifCond .lt 19, 137, [], 0, 0), (121, 1, .aload_n 0, 0, [], 0, 0), (122, 1, .aload_n 0, 0, [], 0, 0), (123, 3, .getfield 52, 0, [], 0, 0), (126, 2, .iload 4, 0, [], 0, 0), (128, 1, .iaload, 0, [], 0, 0), (129, 2, .iload 5, 0, [], 0, 0), (131, 3, .invokevirtual 210, 0, [], 0, 0), (134, 3, .goto 36, 170, [], 0, 0), (137, 1, .aload_n 0, 0, [], 0, 0), (138, 3, .getfield 49, 0, [], 0, 0), (141, 2, .iload 4, 0, [], 0, 0), (143, 1, .iaload, 0, [], 0, 0), (144, 3, .ifCond .ne 26, 170, [], 0, 0), (147, 1, .aload_n 0, 0, [], 0, 0), (148, 2, .bipush 10, 0, [], 10, 0), (150, 1, .aload_n 0, 0, [], 0, 0), (151, 3, .getfield 25, 0, [], 0, 0), (154, 1, .iload_n 2, 0, [], 0, 0), (155, 1, .iaload, 0, [], 0, 0), (156, 1, .imul, 0, [], 0, 0), (157, 1, .aload_n 0, 0, [], 0, 0), (158, 3, .getfield 46, 0, [], 0, 0), (161, 2, .iload 4, 0, [], 0, 0), (163, 1, .iaload, 0, [], 0, 0), (164, 1, .iadd, 0, [], 0, 0), (165, 2, .bipush 6, 0, [], 6, 0), (167, 3, .invokevirtual 162, 0, [], 0, 0), (170, 1, .return_, 0, [], 0, 0)]
theorem tk_MO_findsRecord : ∀ e ∈ tab_MO_findsRecord, sTok "GathersAllFaultsModel" prog_9_method_32_code e := tab_of (by decide +kernel)
def tab_MO_fieldAt : List sT := [(0, 1, .iload_n 2, 0, [], 0, 0), (1, 1, .istore_n 3, 0, [], 0, 0), (2, 1, .iconst 0, 0, [], 0, 0), (3, 2, .istore 4, 0, [], 0, 0), (5, 2, .iload 4, 0, [], 0, 0), (7, 1, .aload_n 0, 0, [], 0, 0), (8, 3, .getfield 169, 0, [], 0, 0), (11, 3, .if_icmp .ge 33, 44, [], 0, 0), (14, 1, .aload_n 0, 0, [], 0, 0), (15, 3, .getfield 43, 0, [], 0, 0), (18, 2, .iload 4, 0, [], 0, 0), (20, 1, .iaload, 0, [], 0, 0), (21, 1, .iload_n 1, 0, [], 0, 0), (22, 3, .if_icmp .eq 6, 28, [], 0, 0), (25, 3, .goto 13, 38, [], 0, 0), (28, 1, .iload_n 3, 0, [], 0, 0), (29, 3, .ifCond .ne 6, 35, [], 0, 0), (32, 2, .iload 4, 0, [], 0, 0), (34, 1, .ireturn, 0, [], 0, 0), (35, 3, .iinc 3 (-1), 0, [], (-1), 0), (38, 3, .iinc 4 1, 0, [], 1, 0), (41, 3, .goto (-36), 5, [], 0, 0), (44, 2, .bipush (-9), 0, [], (-9), 0), (46, 1, .ireturn, 0, [], 0, 0)]
theorem tk_MO_fieldAt : ∀ e ∈ tab_MO_fieldAt, sTok "GathersAllFaultsModel" prog_9_method_25_code e := tab_of (by decide +kernel)
def tab_MO_endsRecord : List sT := [(0, 1, .aload_n 0, 0, [], 0, 0), (1, 3, .getfield 82, 0, [], 0, 0), (4, 1, .aload_n 0, 0, [], 0, 0), (5, 3, .getfield 156, 0, [], 0, 0), (8, 1, .iconst 1, 0, [], 1, 0), (9, 1, .isub, 0, [], 0, 0), (10, 1, .iaload, 0, [], 0, 0), (11, 1, .istore_n 3, 0, [], 0, 0), (12, 1, .aload_n 0, 0, [], 0, 0), (13, 1, .dup, 0, [], 0, 0), (14, 3, .getfield 156, 0, [], 0, 0), (17, 1, .iconst 1, 0, [], 1, 0), (18, 1, .isub, 0, [], 0, 0), (19, 3, .putfield 156, 0, [], 0, 0), (22, 1, .aload_n 0, 0, [], 0, 0), (23, 1, .iload_n 1, 0, [], 0, 0), (24, 1, .iload_n 2, 0, [], 0, 0), (25, 3, .invokevirtual 194, 0, [], 0, 0), (28, 1, .iconst 0, 0, [], 0, 0), (29, 2, .istore 4, 0, [], 0, 0), (31, 2, .iload 4, 0, [], 0, 0), (33, 1, .aload_n 0, 0, [], 0, 0), (34, 3, .getfield 197, 0, [], 0, 0), (37, 3, .if_icmp .ge 28, 65, [], 0, 0), (40, 1, .aload_n 0, 0, [], 0, 0), (41, 3, .getfield 55, 0, [], 0, 0), (44, 2, .iload 4, 0, [], 0, 0), (46, 1, .iaload, 0, [], 0, 0), (47, 1, .iload_n 1, 0, [], 0, 0), (48, 3, .if_icmp .ne 11, 59, [], 0, 0), (51, 1, .aload_n 0, 0, [], 0, 0), (52, 2, .iload 4, 0, [], 0, 0), (54, 1, .iload_n 2, 0, [], 0, 0), (55, 1, .iload_n 3, 0, [], 0, 0), (56, 3, .invokevirtual 200, 0, [], 0, 0), (59, 3, .iinc 4 1, 0, [], 1, 0), (62, 3, .goto (-31), 31, [], 0, 0), (65, 1, .return_, 0, [], 0, 0)]
theorem tk_MO_endsRecord : ∀ e ∈ tab_MO_endsRecord, sTok "GathersAllFaultsModel" prog_9_method_31_code e := tab_of (by decide +kernel)
def tab_MO_findsMore : List sT := [(0, 1, .iconst 0, 0, [], 0, 0), (1, 1, .istore_n 3, 0, [], 0, 0), (2, 1, .iload_n 3, 0, [], 0, 0), (3, 1, .aload_n 0, 0, [], 0, 0), (4, 3, .getfield 16, 0, [], 0, 0), (7, 1, .iload_n 2, 0, [], 0, 0), (8, 1, .iaload, 0, [], 0, 0), (9, 3, .if_icmp .ge 45, 54, [], 0, 0), (12, 1, .aload_n 0, 0, [], 0, 0), (13, 1, .iload_n 2, 0, [], 0, 0), (14, 1, .iload_n 3, 0, [], 0, 0), (15, 3, .invokevirtual 138, 0, [], 0, 0), (18, 2, .istore 4, 0, [], 0, 0), (20, 1, .aload_n 0, 0, [], 0, 0), (21, 1, .iload_n 1, 0, [], 0, 0), (22, 1, .aload_n 0, 0, [], 0, 0), (23, 3, .getfield 19, 0, [], 0, 0), (26, 2, .iload 4, 0, [], 0, 0), (28, 1, .iaload, 0, [], 0, 0), (29, 3, .invokevirtual 172, 0, [], 0, 0), (32, 3, .ifCond .ne 16, 48, [], 0, 0), (35, 1, .aload_n 0, 0, [], 0, 0), (36, 1, .aload_n 0, 0, [], 0, 0), (37, 3, .getfield 25, 0, [], 0, 0), (40, 2, .iload 4, 0, [], 0, 0), (42, 1, .iaload, 0, [], 0, 0), (43, 2, .bipush 7, 0, [], 7, 0), (45, 3, .invokevirtual 162, 0, [], 0, 0), (48, 3, .iinc 3 1, 0, [], 1, 0), (51, 3, .goto (-49), 2, [], 0, 0), (54, 1, .return_, 0, [], 0, 0)]
theorem tk_MO_findsMore : ∀ e ∈ tab_MO_findsMore, sTok "GathersAllFaultsModel" prog_9_method_27_code e := tab_of (by decide +kernel)
def tab_MO_childOf : List sT := [(0, 1, .iload_n 1, 0, [], 0, 0), (1, 1, .iconst 1, 0, [], 1, 0), (2, 1, .iadd, 0, [], 0, 0), (3, 1, .istore_n 3, 0, [], 0, 0), (4, 1, .iconst 0, 0, [], 0, 0), (5, 2, .istore 4, 0, [], 0, 0), (7, 2, .iload 4, 0, [], 0, 0), (9, 1, .iload_n 2, 0, [], 0, 0), (10, 3, .if_icmp .ge 18, 28, [], 0, 0), (13, 1, .iload_n 3, 0, [], 0, 0), (14, 1, .aload_n 0, 0, [], 0, 0), (15, 3, .getfield 22, 0, [], 0, 0), (18, 1, .iload_n 3, 0, [], 0, 0), (19, 1, .iaload, 0, [], 0, 0), (20, 1, .iadd, 0, [], 0, 0), (21, 1, .istore_n 3, 0, [], 0, 0), (22, 3, .iinc 4 1, 0, [], 1, 0), (25, 3, .goto (-18), 7, [], 0, 0), (28, 1, .iload_n 3, 0, [], 0, 0), (29, 1, .ireturn, 0, [], 0, 0)]
theorem tk_MO_childOf : ∀ e ∈ tab_MO_childOf, sTok "GathersAllFaultsModel" prog_9_method_11_code e := tab_of (by decide +kernel)
def tab_MO_isToldField : List sT := [(0, 1, .iconst 0, 0, [], 0, 0), (1, 1, .istore_n 3, 0, [], 0, 0), (2, 1, .iload_n 3, 0, [], 0, 0), (3, 1, .aload_n 0, 0, [], 0, 0), (4, 3, .getfield 169, 0, [], 0, 0), (7, 3, .if_icmp .ge 31, 38, [], 0, 0), (10, 1, .aload_n 0, 0, [], 0, 0), (11, 3, .getfield 43, 0, [], 0, 0), (14, 1, .iload_n 3, 0, [], 0, 0), (15, 1, .iaload, 0, [], 0, 0), (16, 1, .iload_n 1, 0, [], 0, 0), (17, 3, .if_icmp .ne 15, 32, [], 0, 0), (20, 1, .aload_n 0, 0, [], 0, 0), (21, 3, .getfield 46, 0, [], 0, 0), (24, 1, .iload_n 3, 0, [], 0, 0), (25, 1, .iaload, 0, [], 0, 0), (26, 1, .iload_n 2, 0, [], 0, 0), (27, 3, .if_icmp .ne 5, 32, [], 0, 0), (30, 1, .iconst 1, 0, [], 1, 0), (31, 1, .ireturn, 0, [], 0, 0), (32, 3, .iinc 3 1, 0, [], 1, 0), (35, 3, .goto (-33), 2, [], 0, 0), (38, 1, .iconst 0, 0, [], 0, 0), (39, 1, .ireturn, 0, [], 0, 0)]
theorem tk_MO_isToldField : ∀ e ∈ tab_MO_isToldField, sTok "GathersAllFaultsModel" prog_9_method_26_code e := tab_of (by decide +kernel)
def tab_MO_findsWaiter : List sT := [(0, 1, .aload_n 0, 0, [], 0, 0), (1, 1, .iload_n 2, 0, [], 0, 0), (2, 1, .aload_n 0, 0, [], 0, 0), (3, 3, .getfield 61, 0, [], 0, 0), (6, 1, .iload_n 1, 0, [], 0, 0), (7, 1, .iaload, 0, [], 0, 0), (8, 3, .invokevirtual 179, 0, [], 0, 0), (11, 2, .istore 4, 0, [], 0, 0), (13, 1, .aload_n 0, 0, [], 0, 0), (14, 1, .iload_n 2, 0, [], 0, 0), (15, 1, .aload_n 0, 0, [], 0, 0), (16, 3, .getfield 64, 0, [], 0, 0), (19, 1, .iload_n 1, 0, [], 0, 0), (20, 1, .iaload, 0, [], 0, 0), (21, 3, .invokevirtual 179, 0, [], 0, 0), (24, 2, .istore 5, 0, [], 0, 0), (26, 2, .iload 4, 0, [], 0, 0), (28, 3, .ifCond .lt 38, 66, [], 0, 0), (31, 2, .iload 5, 0, [], 0, 0), (33, 3, .ifCond .lt 33, 66, [], 0, 0), (36, 1, .aload_n 0, 0, [], 0, 0), (37, 1, .iload_n 3, 0, [], 0, 0), (38, 1, .aload_n 0, 0, [], 0, 0), (39, 3, .getfield 25, 0, [], 0, 0), (42, 2, .iload 4, 0, [], 0, 0), (44, 1, .iaload, 0, [], 0, 0), (45, 3, .invokevirtual 182, 0, [], 0, 0), (48, 3, .ifCond .ne 18, 66, [], 0, 0), (51, 1, .aload_n 0, 0, [], 0, 0), (52, 1, .iload_n 3, 0, [], 0, 0), (53, 1, .aload_n 0, 0, [], 0, 0), (54, 3, .getfield 25, 0, [], 0, 0), (57, 2, .iload 5, 0, [], 0, 0), (59, 1, .iaload, 0, [], 0, 0), (60, 3, .invokevirtual 182, 0, [], 0, 0), (63, 3, .ifCond .eq 16, 79, [], 0, 0), (66, 1, .aload_n 0, 0, [], 0, 0), (67, 1, .dup, 0, [], 0, 0), (68, 3, .getfield 185, 0, [], 0, 0), (71, 1, .iconst 1, 0, [], 1, 0), (72, 1, .iadd, 0, [], 0, 0), (73, 3, .putfield 185, 0, [], 0, 0), (76, 3, .goto 76, 152, [], 0, 0), (79, 1, .aload_n 0, 0, [], 0, 0), (80, 3, .getfield 58, 0, [], 0, 0), (83, 1, .iload_n 1, 0, [], 0, 0), (84, 1, .iaload, 0, [], 0, 0), (85, 2, .bipush 60, 0, [], 60, 0), (87, 3, .if_icmp .ne 30, 117, [], 0, 0), (90, 1, .aload_n 0, 0, [], 0, 0), (91, 2, .iload 4, 0, [], 0, 0), (93, 2, .iload 5, 0, [], 0, 0), (95, 3, .invokevirtual 188, 0, [], 0, 0), (98, 3, .ifCond .ne 19, 117, [], 0, 0), (101, 1, .aload_n 0, 0, [], 0, 0), (102, 1, .aload_n 0, 0, [], 0, 0), (103, 3, .getfield 25, 0, [], 0, 0), (106, 2, .iload 5, 0, [], 0, 0), (108, 1, .iaload, 0, [], 0, 0), (109, 2, .bipush 8, 0, [], 8, 0), (111, 3, .invokevirtual 162, 0, [], 0, 0), (114, 3, .goto 38, 152, [], 0, 0), (117, 1, .aload_n 0, 0, [], 0, 0), (118, 3, .getfield 58, 0, [], 0, 0), (121, 1, .iload_n 1, 0, [], 0, 0), (122, 1, .iaload, 0, [], 0, 0), (123, 2, .bipush 61, 0, [], 61, 0), (125, 3, .if_icmp .ne 27, 152, [], 0, 0), (128, 1, .aload_n 0, 0, [], 0, 0), (129, 2, .iload 4, 0, [], 0, 0), (131, 2, .iload 5, 0, [], 0, 0), (133, 3, .invokevirtual 191, 0, [], 0, 0), (136, 3, .ifCond .ne 16, 152, [], 0, 0), (139, 1, .aload_n 0, 0, [], 0, 0), (140, 1, .aload_n 0, 0, [], 0, 0), (141, 3, .getfield 25, 0, [], 0, 0), (144, 2, .iload 5, 0, [], 0, 0), (146, 1, .iaload, 0, [], 0, 0), (147, 2, .bipush 9, 0, [], 9, 0), (149, 3, .invokevirtual 162, 0, [], 0, 0), (152, 1, .return_, 0, [], 0, 0)]
theorem tk_MO_findsWaiter : ∀ e ∈ tab_MO_findsWaiter, sTok "GathersAllFaultsModel" prog_9_method_30_code e := tab_of (by decide +kernel)
def tab_MO_fieldOf : List sT := [(0, 1, .iconst 0, 0, [], 0, 0), (1, 1, .istore_n 3, 0, [], 0, 0), (2, 1, .iload_n 3, 0, [], 0, 0), (3, 1, .aload_n 0, 0, [], 0, 0), (4, 3, .getfield 16, 0, [], 0, 0), (7, 1, .iload_n 1, 0, [], 0, 0), (8, 1, .iaload, 0, [], 0, 0), (9, 3, .if_icmp .ge 31, 40, [], 0, 0), (12, 1, .aload_n 0, 0, [], 0, 0), (13, 3, .getfield 19, 0, [], 0, 0), (16, 1, .aload_n 0, 0, [], 0, 0), (17, 1, .iload_n 1, 0, [], 0, 0), (18, 1, .iload_n 3, 0, [], 0, 0), (19, 3, .invokevirtual 138, 0, [], 0, 0), (22, 1, .iaload, 0, [], 0, 0), (23, 1, .iload_n 2, 0, [], 0, 0), (24, 3, .if_icmp .ne 10, 34, [], 0, 0), (27, 1, .aload_n 0, 0, [], 0, 0), (28, 1, .iload_n 1, 0, [], 0, 0), (29, 1, .iload_n 3, 0, [], 0, 0), (30, 3, .invokevirtual 138, 0, [], 0, 0), (33, 1, .ireturn, 0, [], 0, 0), (34, 3, .iinc 3 1, 0, [], 1, 0), (37, 3, .goto (-35), 2, [], 0, 0), (40, 2, .bipush (-9), 0, [], (-9), 0), (42, 1, .ireturn, 0, [], 0, 0)]
theorem tk_MO_fieldOf : ∀ e ∈ tab_MO_fieldOf, sTok "GathersAllFaultsModel" prog_9_method_12_code e := tab_of (by decide +kernel)
def tab_MO_isAnyBelow : List sT := [(0, 1, .iload_n 1, 0, [], 0, 0), (1, 1, .istore_n 3, 0, [], 0, 0), (2, 1, .iload_n 3, 0, [], 0, 0), (3, 1, .aload_n 0, 0, [], 0, 0), (4, 3, .getfield 159, 0, [], 0, 0), (7, 3, .if_icmp .ge 24, 31, [], 0, 0), (10, 1, .aload_n 0, 0, [], 0, 0), (11, 3, .getfield 67, 0, [], 0, 0), (14, 1, .iload_n 3, 0, [], 0, 0), (15, 1, .iaload, 0, [], 0, 0), (16, 1, .iload_n 2, 0, [], 0, 0), (17, 3, .invokestatic 176, 0, [], 0, 0), (20, 3, .ifCond .eq 5, 25, [], 0, 0), (23, 1, .iconst 1, 0, [], 1, 0), (24, 1, .ireturn, 0, [], 0, 0), (25, 3, .iinc 3 1, 0, [], 1, 0), (28, 3, .goto (-26), 2, [], 0, 0), (31, 1, .iconst 0, 0, [], 0, 0), (32, 1, .ireturn, 0, [], 0, 0)]
theorem tk_MO_isAnyBelow : ∀ e ∈ tab_MO_isAnyBelow, sTok "GathersAllFaultsModel" prog_9_method_28_code e := tab_of (by decide +kernel)
def tab_MO_isBelow : List sT := [(0, 1, .iload_n 0, 0, [], 0, 0), (1, 1, .istore_n 2, 0, [], 0, 0), (2, 1, .iload_n 2, 0, [], 0, 0), (3, 1, .iload_n 1, 0, [], 0, 0), (4, 3, .if_icmp .le 11, 15, [], 0, 0), (7, 1, .iload_n 2, 0, [], 0, 0), (8, 2, .bipush 10, 0, [], 10, 0), (10, 1, .idiv, 0, [], 0, 0), (11, 1, .istore_n 2, 0, [], 0, 0), (12, 3, .goto (-10), 2, [], 0, 0), (15, 1, .iload_n 2, 0, [], 0, 0), (16, 1, .iload_n 1, 0, [], 0, 0), (17, 3, .if_icmp .ne 7, 24, [], 0, 0), (20, 1, .iconst 1, 0, [], 1, 0), (21, 3, .goto 4, 25, [], 0, 0), (24, 1, .iconst 0, 0, [], 0, 0), (25, 1, .ireturn, 0, [], 0, 0)]
theorem tk_MO_isBelow : ∀ e ∈ tab_MO_isBelow, sTok "GathersAllFaultsModel" prog_9_method_19_code e := tab_of (by decide +kernel)
def tab_MO_isLess : List sT := [(0, 1, .aload_n 0, 0, [], 0, 0), (1, 3, .getfield 13, 0, [], 0, 0), (4, 1, .iload_n 1, 0, [], 0, 0), (5, 1, .iaload, 0, [], 0, 0), (6, 3, .ifCond .ne 33, 39, [], 0, 0), (9, 1, .aload_n 0, 0, [], 0, 0), (10, 3, .getfield 13, 0, [], 0, 0), (13, 1, .iload_n 2, 0, [], 0, 0), (14, 1, .iaload, 0, [], 0, 0), (15, 3, .ifCond .ne 24, 39, [], 0, 0), (18, 1, .aload_n 0, 0, [], 0, 0), (19, 3, .getfield 16, 0, [], 0, 0), (22, 1, .iload_n 1, 0, [], 0, 0), (23, 1, .iaload, 0, [], 0, 0), (24, 1, .aload_n 0, 0, [], 0, 0), (25, 3, .getfield 16, 0, [], 0, 0), (28, 1, .iload_n 2, 0, [], 0, 0), (29, 1, .iaload, 0, [], 0, 0), (30, 3, .if_icmp .ge 7, 37, [], 0, 0), (33, 1, .iconst 1, 0, [], 1, 0), (34, 3, .goto 4, 38, [], 0, 0), (37, 1, .iconst 0, 0, [], 0, 0), (38, 1, .ireturn, 0, [], 0, 0), (39, 1, .aload_n 0, 0, [], 0, 0), (40, 3, .getfield 22, 0, [], 0, 0), (43, 1, .iload_n 1, 0, [], 0, 0), (44, 1, .iaload, 0, [], 0, 0), (45, 1, .aload_n 0, 0, [], 0, 0), (46, 3, .getfield 22, 0, [], 0, 0), (49, 1, .iload_n 2, 0, [], 0, 0), (50, 1, .iaload, 0, [], 0, 0), (51, 3, .if_icmp .ge 7, 58, [], 0, 0), (54, 1, .iconst 1, 0, [], 1, 0), (55, 3, .goto 4, 59, [], 0, 0), (58, 1, .iconst 0, 0, [], 0, 0), (59, 1, .ireturn, 0, [], 0, 0)]
theorem tk_MO_isLess : ∀ e ∈ tab_MO_isLess, sTok "GathersAllFaultsModel" prog_9_method_29_code e := tab_of (by decide +kernel)
def tab_MO_areSame : List sT := [(0, 1, .aload_n 0, 0, [], 0, 0), (1, 3, .getfield 22, 0, [], 0, 0), (4, 1, .iload_n 1, 0, [], 0, 0), (5, 1, .iaload, 0, [], 0, 0), (6, 1, .aload_n 0, 0, [], 0, 0), (7, 3, .getfield 22, 0, [], 0, 0), (10, 1, .iload_n 2, 0, [], 0, 0), (11, 1, .iaload, 0, [], 0, 0), (12, 3, .if_icmp .eq 5, 17, [], 0, 0), (15, 1, .iconst 0, 0, [], 0, 0), (16, 1, .ireturn, 0, [], 0, 0), (17, 1, .iload_n 1, 0, [], 0, 0), (18, 1, .istore_n 3, 0, [], 0, 0), (19, 1, .iload_n 3, 0, [], 0, 0), (20, 1, .iload_n 1, 0, [], 0, 0), (21, 1, .aload_n 0, 0, [], 0, 0), (22, 3, .getfield 22, 0, [], 0, 0), (25, 1, .iload_n 1, 0, [], 0, 0), (26, 1, .iaload, 0, [], 0, 0), (27, 1, .iadd, 0, [], 0, 0), (28, 3, .if_icmp .ge 21, 49, [], 0, 0), (31, 1, .aload_n 0, 0, [], 0, 0), (32, 1, .iload_n 3, 0, [], 0, 0), (33, 1, .iload_n 1, 0, [], 0, 0), (34, 1, .iload_n 2, 0, [], 0, 0), (35, 3, .invokevirtual 152, 0, [], 0, 0), (38, 3, .ifCond .ne 5, 43, [], 0, 0), (41, 1, .iconst 0, 0, [], 0, 0), (42, 1, .ireturn, 0, [], 0, 0), (43, 3, .iinc 3 1, 0, [], 1, 0), (46, 3, .goto (-27), 19, [], 0, 0), (49, 1, .iconst 1, 0, [], 1, 0), (50, 1, .ireturn, 0, [], 0, 0)]
theorem tk_MO_areSame : ∀ e ∈ tab_MO_areSame, sTok "GathersAllFaultsModel" prog_9_method_18_code e := tab_of (by decide +kernel)
def tab_MO_hasAlike : List sT := [(0, 1, .aload_n 0, 0, [], 0, 0), (1, 3, .getfield 25, 0, [], 0, 0), (4, 1, .iload_n 1, 0, [], 0, 0), (5, 1, .iaload, 0, [], 0, 0), (6, 1, .aload_n 0, 0, [], 0, 0), (7, 3, .getfield 25, 0, [], 0, 0), (10, 1, .iload_n 1, 0, [], 0, 0), (11, 1, .iaload, 0, [], 0, 0), (12, 1, .aload_n 0, 0, [], 0, 0), (13, 3, .getfield 25, 0, [], 0, 0), (16, 1, .iload_n 2, 0, [], 0, 0), (17, 1, .iaload, 0, [], 0, 0), (18, 3, .invokestatic 149, 0, [], 0, 0), (21, 1, .irem, 0, [], 0, 0), (22, 2, .istore 4, 0, [], 0, 0), (24, 1, .iload_n 3, 0, [], 0, 0), (25, 2, .istore 5, 0, [], 0, 0), (27, 2, .iload 5, 0, [], 0, 0), (29, 1, .iload_n 3, 0, [], 0, 0), (30, 1, .aload_n 0, 0, [], 0, 0), (31, 3, .getfield 22, 0, [], 0, 0), (34, 1, .iload_n 3, 0, [], 0, 0), (35, 1, .iaload, 0, [], 0, 0), (36, 1, .iadd, 0, [], 0, 0), (37, 3, .if_icmp .ge 72, 109, [], 0, 0), (40, 1, .aload_n 0, 0, [], 0, 0), (41, 3, .getfield 25, 0, [], 0, 0), (44, 2, .iload 5, 0, [], 0, 0), (46, 1, .iaload, 0, [], 0, 0), (47, 1, .aload_n 0, 0, [], 0, 0), (48, 3, .getfield 25, 0, [], 0, 0), (51, 2, .iload 5, 0, [], 0, 0), (53, 1, .iaload, 0, [], 0, 0), (54, 1, .aload_n 0, 0, [], 0, 0), (55, 3, .getfield 25, 0, [], 0, 0), (58, 1, .iload_n 3, 0, [], 0, 0), (59, 1, .iaload, 0, [], 0, 0), (60, 3, .invokestatic 149, 0, [], 0, 0), (63, 1, .irem, 0, [], 0, 0), (64, 2, .iload 4, 0, [], 0, 0), (66, 3, .if_icmp .ne 37, 103, [], 0, 0), (69, 1, .aload_n 0, 0, [], 0, 0), (70, 3, .getfield 13, 0, [], 0, 0), (73, 2, .iload 5, 0, [], 0, 0), (75, 1, .iaload, 0, [], 0, 0), (76, 1, .aload_n 0, 0, [], 0, 0), (77, 3, .getfield 13, 0, [], 0, 0), (80, 1, .iload_n 1, 0, [], 0, 0), (81, 1, .iaload, 0, [], 0, 0), (82, 3, .if_icmp .ne 21, 103, [], 0, 0), (85, 1, .aload_n 0, 0, [], 0, 0), (86, 3, .getfield 16, 0, [], 0, 0), (89, 2, .iload 5, 0, [], 0, 0), (91, 1, .iaload, 0, [], 0, 0), (92, 1, .aload_n 0, 0, [], 0, 0), (93, 3, .getfield 16, 0, [], 0, 0), (96, 1, .iload_n 1, 0, [], 0, 0), (97, 1, .iaload, 0, [], 0, 0), (98, 3, .if_icmp .ne 5, 103, [], 0, 0), (101, 1, .iconst 1, 0, [], 1, 0), (102, 1, .ireturn, 0, [], 0, 0), (103, 3, .iinc 5 1, 0, [], 1, 0), (106, 3, .goto (-79), 27, [], 0, 0), (109, 1, .iconst 0, 0, [], 0, 0), (110, 1, .ireturn, 0, [], 0, 0)]
theorem tk_MO_hasAlike : ∀ e ∈ tab_MO_hasAlike, sTok "GathersAllFaultsModel" prog_9_method_17_code e := tab_of (by decide +kernel)
def tab_MO_unitFor : List sT := [(0, 1, .iconst 1, 0, [], 1, 0), (1, 1, .istore_n 2, 0, [], 0, 0), (2, 1, .iload_n 0, 0, [], 0, 0), (3, 1, .istore_n 3, 0, [], 0, 0), (4, 1, .iload_n 3, 0, [], 0, 0), (5, 1, .iload_n 1, 0, [], 0, 0), (6, 3, .if_icmp .eq 16, 22, [], 0, 0), (9, 1, .iload_n 2, 0, [], 0, 0), (10, 2, .bipush 10, 0, [], 10, 0), (12, 1, .imul, 0, [], 0, 0), (13, 1, .istore_n 2, 0, [], 0, 0), (14, 1, .iload_n 3, 0, [], 0, 0), (15, 2, .bipush 10, 0, [], 10, 0), (17, 1, .idiv, 0, [], 0, 0), (18, 1, .istore_n 3, 0, [], 0, 0), (19, 3, .goto (-15), 4, [], 0, 0), (22, 1, .iload_n 2, 0, [], 0, 0), (23, 1, .ireturn, 0, [], 0, 0)]
theorem tk_MO_unitFor : ∀ e ∈ tab_MO_unitFor, sTok "GathersAllFaultsModel" prog_9_method_16_code e := tab_of (by decide +kernel)
def tab_MO_findsList : List sT := [(0, 1, .aload_n 0, 0, [], 0, 0), (1, 3, .getfield 79, 0, [], 0, 0), (4, 1, .aload_n 0, 0, [], 0, 0), (5, 3, .getfield 156, 0, [], 0, 0), (8, 1, .iconst 1, 0, [], 1, 0), (9, 1, .isub, 0, [], 0, 0), (10, 1, .iaload, 0, [], 0, 0), (11, 1, .istore_n 3, 0, [], 0, 0), (12, 1, .iload_n 3, 0, [], 0, 0), (13, 3, .ifCond .ne 36, 49, [], 0, 0), (16, 1, .aload_n 0, 0, [], 0, 0), (17, 3, .getfield 13, 0, [], 0, 0), (20, 1, .iload_n 2, 0, [], 0, 0), (21, 1, .iaload, 0, [], 0, 0), (22, 1, .iconst 3, 0, [], 3, 0), (23, 3, .if_icmp .eq 26, 49, [], 0, 0), (26, 1, .aload_n 0, 0, [], 0, 0), (27, 1, .dup, 0, [], 0, 0), (28, 3, .getfield 156, 0, [], 0, 0), (31, 1, .iconst 1, 0, [], 1, 0), (32, 1, .isub, 0, [], 0, 0), (33, 3, .putfield 156, 0, [], 0, 0), (36, 1, .aload_n 0, 0, [], 0, 0), (37, 1, .aload_n 0, 0, [], 0, 0), (38, 3, .getfield 25, 0, [], 0, 0), (41, 1, .iload_n 2, 0, [], 0, 0), (42, 1, .iaload, 0, [], 0, 0), (43, 2, .bipush 10, 0, [], 10, 0), (45, 3, .invokevirtual 162, 0, [], 0, 0), (48, 1, .return_, 0, [], 0, 0), (49, 1, .iload_n 3, 0, [], 0, 0), (50, 3, .ifCond .ne 39, 89, [], 0, 0), (53, 1, .aload_n 0, 0, [], 0, 0), (54, 3, .getfield 16, 0, [], 0, 0), (57, 1, .iload_n 2, 0, [], 0, 0), (58, 1, .iaload, 0, [], 0, 0), (59, 1, .aload_n 0, 0, [], 0, 0), (60, 3, .getfield 31, 0, [], 0, 0), (63, 1, .iload_n 1, 0, [], 0, 0), (64, 1, .iaload, 0, [], 0, 0), (65, 1, .aload_n 0, 0, [], 0, 0), (66, 3, .getfield 34, 0, [], 0, 0), (69, 1, .iload_n 1, 0, [], 0, 0), (70, 1, .iaload, 0, [], 0, 0), (71, 3, .invokestatic 213, 0, [], 0, 0), (74, 3, .ifCond .ne 15, 89, [], 0, 0), (77, 1, .aload_n 0, 0, [], 0, 0), (78, 1, .aload_n 0, 0, [], 0, 0), (79, 3, .getfield 25, 0, [], 0, 0), (82, 1, .iload_n 2, 0, [], 0, 0), (83, 1, .iaload, 0, [], 0, 0), (84, 2, .bipush 11, 0, [], 11, 0), (86, 3, .invokevirtual 162, 0, [], 0, 0), (89, 1, .iload_n 3, 0, [], 0, 0), (90, 1, .aload_n 0, 0, [], 0, 0), (91, 3, .getfield 16, 0, [], 0, 0), (94, 1, .iload_n 2, 0, [], 0, 0), (95, 1, .iaload, 0, [], 0, 0), (96, 3, .if_icmp .ne 14, 110, [], 0, 0), (99, 1, .aload_n 0, 0, [], 0, 0), (100, 1, .dup, 0, [], 0, 0), (101, 3, .getfield 156, 0, [], 0, 0), (104, 1, .iconst 1, 0, [], 1, 0), (105, 1, .isub, 0, [], 0, 0), (106, 3, .putfield 156, 0, [], 0, 0), (109, 1, .return_, 0, [], 0, 0), (110, 1, .aload_n 0, 0, [], 0, 0), (111, 3, .getfield 79, 0, [], 0, 0), (114, 1, .aload_n 0, 0, [], 0, 0), (115, 3, .getfield 156, 0, [], 0, 0), (118, 1, .iconst 1, 0, [], 1, 0), (119, 1, .isub, 0, [], 0, 0), (120, 1, .dup2, 0, [], 0, 0), (121, 1, .iaload, 0, [], 0, 0), (122, 1, .iconst 1, 0, [], 1, 0), (123, 1, .iadd, 0, [], 0, 0), (124, 1, .iastore, 0, [], 0, 0), (125, 1, .aload_n 0, 0, [], 0, 0), (126, 1, .aload_n 0, 0, [], 0, 0), (127, 3, .getfield 37, 0, [], 0, 0), (130, 1, .iload_n 1, 0, [], 0, 0), (131, 1, .iaload, 0, [], 0, 0), (132, 1, .aload_n 0, 0, [], 0, 0), (133, 1, .iload_n 2, 0, [], 0, 0), (134, 1, .iload_n 3, 0, [], 0, 0), (135, 3, .invokevirtual 138, 0, [], 0, 0), (138, 3, .invokevirtual 210, 0, [], 0, 0), (141, 1, .return_, 0, [], 0, 0)]
theorem tk_MO_findsList : ∀ e ∈ tab_MO_findsList, sTok "GathersAllFaultsModel" prog_9_method_33_code e := tab_of (by decide +kernel)
def tab_MO_findsAgain : List sT := [(0, 1, .aload_n 0, 0, [], 0, 0), (1, 3, .getfield 79, 0, [], 0, 0), (4, 1, .aload_n 0, 0, [], 0, 0), (5, 3, .getfield 156, 0, [], 0, 0), (8, 1, .iconst 1, 0, [], 1, 0), (9, 1, .isub, 0, [], 0, 0), (10, 1, .iaload, 0, [], 0, 0), (11, 3, .ifCond .ne 42, 53, [], 0, 0), (14, 1, .aload_n 0, 0, [], 0, 0), (15, 3, .getfield 79, 0, [], 0, 0), (18, 1, .aload_n 0, 0, [], 0, 0), (19, 3, .getfield 156, 0, [], 0, 0), (22, 1, .iconst 1, 0, [], 1, 0), (23, 1, .isub, 0, [], 0, 0), (24, 1, .iconst 1, 0, [], 1, 0), (25, 1, .iastore, 0, [], 0, 0), (26, 1, .aload_n 0, 0, [], 0, 0), (27, 3, .getfield 82, 0, [], 0, 0), (30, 1, .aload_n 0, 0, [], 0, 0), (31, 3, .getfield 156, 0, [], 0, 0), (34, 1, .iconst 1, 0, [], 1, 0), (35, 1, .isub, 0, [], 0, 0), (36, 1, .aload_n 0, 0, [], 0, 0), (37, 3, .getfield 159, 0, [], 0, 0), (40, 1, .iastore, 0, [], 0, 0), (41, 1, .aload_n 0, 0, [], 0, 0), (42, 1, .aload_n 0, 0, [], 0, 0), (43, 3, .getfield 37, 0, [], 0, 0), (46, 1, .iload_n 1, 0, [], 0, 0), (47, 1, .iaload, 0, [], 0, 0), (48, 1, .iload_n 2, 0, [], 0, 0), (49, 3, .invokevirtual 210, 0, [], 0, 0), (52, 1, .return_, 0, [], 0, 0), (53, 1, .aload_n 0, 0, [], 0, 0), (54, 1, .dup, 0, [], 0, 0), (55, 3, .getfield 156, 0, [], 0, 0), (58, 1, .iconst 1, 0, [], 1, 0), (59, 1, .isub, 0, [], 0, 0), (60, 3, .putfield 156, 0, [], 0, 0), (63, 1, .aload_n 0, 0, [], 0, 0), (64, 3, .getfield 159, 0, [], 0, 0), (67, 1, .aload_n 0, 0, [], 0, 0), (68, 3, .getfield 82, 0, [], 0, 0), (71, 1, .aload_n 0, 0, [], 0, 0), (72, 3, .getfield 156, 0, [], 0, 0), (75, 1, .iaload, 0, [], 0, 0), (76, 3, .if_icmp .le 14, 90, [], 0, 0), (79, 1, .aload_n 0, 0, [], 0, 0), (80, 1, .dup, 0, [], 0, 0), (81, 3, .getfield 185, 0, [], 0, 0), (84, 1, .iconst 1, 0, [], 1, 0), (85, 1, .iadd, 0, [], 0, 0), (86, 3, .putfield 185, 0, [], 0, 0), (89, 1, .return_, 0, [], 0, 0), (90, 1, .iconst 0, 0, [], 0, 0), (91, 1, .istore_n 3, 0, [], 0, 0), (92, 1, .iload_n 3, 0, [], 0, 0), (93, 1, .aload_n 0, 0, [], 0, 0), (94, 3, .getfield 16, 0, [], 0, 0), (97, 1, .iload_n 2, 0, [], 0, 0), (98, 1, .iaload, 0, [], 0, 0), (99, 3, .if_icmp .ge 45, 144, [], 0, 0), (102, 1, .aload_n 0, 0, [], 0, 0), (103, 3, .getfield 13, 0, [], 0, 0), (106, 1, .iload_n 2, 0, [], 0, 0), (107, 1, .iaload, 0, [], 0, 0), (108, 1, .iconst 3, 0, [], 3, 0), (109, 3, .if_icmp .ne 35, 144, [], 0, 0), (112, 1, .aload_n 0, 0, [], 0, 0), (113, 1, .iload_n 2, 0, [], 0, 0), (114, 1, .iload_n 3, 0, [], 0, 0), (115, 3, .invokevirtual 216, 0, [], 0, 0), (118, 3, .ifCond .eq 20, 138, [], 0, 0), (121, 1, .aload_n 0, 0, [], 0, 0), (122, 1, .aload_n 0, 0, [], 0, 0), (123, 3, .getfield 25, 0, [], 0, 0), (126, 1, .aload_n 0, 0, [], 0, 0), (127, 1, .iload_n 2, 0, [], 0, 0), (128, 1, .iload_n 3, 0, [], 0, 0), (129, 3, .invokevirtual 138, 0, [], 0, 0), (132, 1, .iaload, 0, [], 0, 0), (133, 2, .bipush 12, 0, [], 12, 0), (135, 3, .invokevirtual 162, 0, [], 0, 0), (138, 3, .iinc 3 1, 0, [], 1, 0), (141, 3, .goto (-49), 92, [], 0, 0), (144, 1, .return_, 0, [], 0, 0)]
theorem tk_MO_findsAgain : ∀ e ∈ tab_MO_findsAgain, sTok "GathersAllFaultsModel" prog_9_method_35_code e := tab_of (by decide +kernel)
def tab_MO_isAgain : List sT := [(0, 1, .iconst 0, 0, [], 0, 0), (1, 1, .istore_n 3, 0, [], 0, 0), (2, 1, .iload_n 3, 0, [], 0, 0), (3, 1, .iload_n 2, 0, [], 0, 0), (4, 3, .if_icmp .ge 30, 34, [], 0, 0), (7, 1, .aload_n 0, 0, [], 0, 0), (8, 1, .aload_n 0, 0, [], 0, 0), (9, 1, .iload_n 1, 0, [], 0, 0), (10, 1, .iload_n 3, 0, [], 0, 0), (11, 3, .invokevirtual 138, 0, [], 0, 0), (14, 1, .aload_n 0, 0, [], 0, 0), (15, 1, .iload_n 1, 0, [], 0, 0), (16, 1, .iload_n 2, 0, [], 0, 0), (17, 3, .invokevirtual 138, 0, [], 0, 0), (20, 3, .invokevirtual 191, 0, [], 0, 0), (23, 3, .ifCond .eq 5, 28, [], 0, 0), (26, 1, .iconst 1, 0, [], 1, 0), (27, 1, .ireturn, 0, [], 0, 0), (28, 3, .iinc 3 1, 0, [], 1, 0), (31, 3, .goto (-29), 2, [], 0, 0), (34, 1, .iconst 0, 0, [], 0, 0), (35, 1, .ireturn, 0, [], 0, 0)]
theorem tk_MO_isAgain : ∀ e ∈ tab_MO_isAgain, sTok "GathersAllFaultsModel" prog_9_method_34_code e := tab_of (by decide +kernel)
def tab_MO_findsEither : List sT := [(0, 1, .aload_n 0, 0, [], 0, 0), (1, 3, .getfield 79, 0, [], 0, 0), (4, 1, .aload_n 0, 0, [], 0, 0), (5, 3, .getfield 156, 0, [], 0, 0), (8, 1, .iconst 1, 0, [], 1, 0), (9, 1, .isub, 0, [], 0, 0), (10, 1, .iaload, 0, [], 0, 0), (11, 1, .istore_n 3, 0, [], 0, 0), (12, 1, .aload_n 0, 0, [], 0, 0), (13, 3, .getfield 79, 0, [], 0, 0), (16, 1, .aload_n 0, 0, [], 0, 0), (17, 3, .getfield 156, 0, [], 0, 0), (20, 1, .iconst 1, 0, [], 1, 0), (21, 1, .isub, 0, [], 0, 0), (22, 1, .dup2, 0, [], 0, 0), (23, 1, .iaload, 0, [], 0, 0), (24, 1, .iconst 1, 0, [], 1, 0), (25, 1, .iadd, 0, [], 0, 0), (26, 1, .iastore, 0, [], 0, 0), (27, 1, .iload_n 3, 0, [], 0, 0), (28, 3, .ifCond .ne 47, 75, [], 0, 0), (31, 1, .aload_n 0, 0, [], 0, 0), (32, 3, .getfield 82, 0, [], 0, 0), (35, 1, .aload_n 0, 0, [], 0, 0), (36, 3, .getfield 156, 0, [], 0, 0), (39, 1, .iconst 1, 0, [], 1, 0), (40, 1, .isub, 0, [], 0, 0), (41, 1, .aload_n 0, 0, [], 0, 0), (42, 3, .getfield 159, 0, [], 0, 0), (45, 1, .iastore, 0, [], 0, 0), (46, 1, .aload_n 0, 0, [], 0, 0), (47, 3, .getfield 85, 0, [], 0, 0), (50, 1, .aload_n 0, 0, [], 0, 0), (51, 3, .getfield 156, 0, [], 0, 0), (54, 1, .iconst 1, 0, [], 1, 0), (55, 1, .isub, 0, [], 0, 0), (56, 1, .aload_n 0, 0, [], 0, 0), (57, 3, .getfield 185, 0, [], 0, 0), (60, 1, .iastore, 0, [], 0, 0), (61, 1, .aload_n 0, 0, [], 0, 0), (62, 1, .aload_n 0, 0, [], 0, 0), (63, 3, .getfield 37, 0, [], 0, 0), (66, 1, .iload_n 1, 0, [], 0, 0), (67, 1, .iaload, 0, [], 0, 0), (68, 1, .iload_n 2, 0, [], 0, 0), (69, 3, .invokevirtual 210, 0, [], 0, 0), (72, 3, .goto 92, 164, [], 0, 0), (75, 1, .iload_n 3, 0, [], 0, 0), (76, 1, .iconst 1, 0, [], 1, 0), (77, 3, .if_icmp .ne 34, 111, [], 0, 0), (80, 1, .aload_n 0, 0, [], 0, 0), (81, 3, .getfield 159, 0, [], 0, 0), (84, 1, .aload_n 0, 0, [], 0, 0), (85, 3, .getfield 82, 0, [], 0, 0), (88, 1, .aload_n 0, 0, [], 0, 0), (89, 3, .getfield 156, 0, [], 0, 0), (92, 1, .iconst 1, 0, [], 1, 0), (93, 1, .isub, 0, [], 0, 0), (94, 1, .iaload, 0, [], 0, 0), (95, 3, .if_icmp .ne 16, 111, [], 0, 0), (98, 1, .aload_n 0, 0, [], 0, 0), (99, 1, .dup, 0, [], 0, 0), (100, 3, .getfield 156, 0, [], 0, 0), (103, 1, .iconst 1, 0, [], 1, 0), (104, 1, .isub, 0, [], 0, 0), (105, 3, .putfield 156, 0, [], 0, 0), (108, 3, .goto 56, 164, [], 0, 0), (111, 1, .iload_n 3, 0, [], 0, 0), (112, 1, .iconst 1, 0, [], 1, 0), (113, 3, .if_icmp .ne 47, 160, [], 0, 0), (116, 1, .aload_n 0, 0, [], 0, 0), (117, 3, .getfield 88, 0, [], 0, 0), (120, 1, .aload_n 0, 0, [], 0, 0), (121, 3, .getfield 156, 0, [], 0, 0), (124, 1, .iconst 1, 0, [], 1, 0), (125, 1, .isub, 0, [], 0, 0), (126, 1, .aload_n 0, 0, [], 0, 0), (127, 3, .getfield 159, 0, [], 0, 0), (130, 1, .iastore, 0, [], 0, 0), (131, 1, .aload_n 0, 0, [], 0, 0), (132, 3, .getfield 91, 0, [], 0, 0), (135, 1, .aload_n 0, 0, [], 0, 0), (136, 3, .getfield 156, 0, [], 0, 0), (139, 1, .iconst 1, 0, [], 1, 0), (140, 1, .isub, 0, [], 0, 0), (141, 1, .aload_n 0, 0, [], 0, 0), (142, 3, .getfield 185, 0, [], 0, 0), (145, 1, .iastore, 0, [], 0, 0), (146, 1, .aload_n 0, 0, [], 0, 0), (147, 1, .aload_n 0, 0, [], 0, 0), (148, 3, .getfield 40, 0, [], 0, 0), (151, 1, .iload_n 1, 0, [], 0, 0), (152, 1, .iaload, 0, [], 0, 0), (153, 1, .iload_n 2, 0, [], 0, 0), (154, 3, .invokevirtual 210, 0, [], 0, 0), (157, 3, .goto 7, 164, [], 0, 0), (160, 1, .aload_n 0, 0, [], 0, 0), (161, 3, .invokevirtual 222, 0, [], 0, 0), (164, 1, .return_, 0, [], 0, 0)]
theorem tk_MO_findsEither : ∀ e ∈ tab_MO_findsEither, sTok "GathersAllFaultsModel" prog_9_method_38_code e := tab_of (by decide +kernel)
def tab_MO_endsEither : List sT := [(0, 1, .aload_n 0, 0, [], 0, 0), (1, 1, .dup, 0, [], 0, 0), (2, 3, .getfield 156, 0, [], 0, 0), (5, 1, .iconst 1, 0, [], 1, 0), (6, 1, .isub, 0, [], 0, 0), (7, 3, .putfield 156, 0, [], 0, 0), (10, 1, .aload_n 0, 0, [], 0, 0), (11, 3, .getfield 82, 0, [], 0, 0), (14, 1, .aload_n 0, 0, [], 0, 0), (15, 3, .getfield 156, 0, [], 0, 0), (18, 1, .iaload, 0, [], 0, 0), (19, 1, .istore_n 1, 0, [], 0, 0), (20, 1, .aload_n 0, 0, [], 0, 0), (21, 3, .getfield 88, 0, [], 0, 0), (24, 1, .aload_n 0, 0, [], 0, 0), (25, 3, .getfield 156, 0, [], 0, 0), (28, 1, .iaload, 0, [], 0, 0), (29, 1, .istore_n 2, 0, [], 0, 0), (30, 1, .aload_n 0, 0, [], 0, 0), (31, 3, .getfield 159, 0, [], 0, 0), (34, 1, .iload_n 2, 0, [], 0, 0), (35, 1, .isub, 0, [], 0, 0), (36, 1, .iload_n 2, 0, [], 0, 0), (37, 1, .iload_n 1, 0, [], 0, 0), (38, 1, .isub, 0, [], 0, 0), (39, 3, .if_icmp .ge 40, 79, [], 0, 0), (42, 1, .aload_n 0, 0, [], 0, 0), (43, 1, .iload_n 1, 0, [], 0, 0), (44, 1, .iload_n 2, 0, [], 0, 0), (45, 3, .invokevirtual 219, 0, [], 0, 0), (48, 1, .aload_n 0, 0, [], 0, 0), (49, 1, .aload_n 0, 0, [], 0, 0), (50, 3, .getfield 85, 0, [], 0, 0), (53, 1, .aload_n 0, 0, [], 0, 0), (54, 3, .getfield 156, 0, [], 0, 0), (57, 1, .iaload, 0, [], 0, 0), (58, 1, .aload_n 0, 0, [], 0, 0), (59, 3, .getfield 185, 0, [], 0, 0), (62, 1, .iadd, 0, [], 0, 0), (63, 1, .aload_n 0, 0, [], 0, 0), (64, 3, .getfield 91, 0, [], 0, 0), (67, 1, .aload_n 0, 0, [], 0, 0), (68, 3, .getfield 156, 0, [], 0, 0), (71, 1, .iaload, 0, [], 0, 0), (72, 1, .isub, 0, [], 0, 0), (73, 3, .putfield 185, 0, [], 0, 0), (76, 3, .goto 21, 97, [], 0, 0), (79, 1, .aload_n 0, 0, [], 0, 0), (80, 1, .iload_n 2, 0, [], 0, 0), (81, 3, .putfield 159, 0, [], 0, 0), (84, 1, .aload_n 0, 0, [], 0, 0), (85, 1, .aload_n 0, 0, [], 0, 0), (86, 3, .getfield 91, 0, [], 0, 0), (89, 1, .aload_n 0, 0, [], 0, 0), (90, 3, .getfield 156, 0, [], 0, 0), (93, 1, .iaload, 0, [], 0, 0), (94, 3, .putfield 185, 0, [], 0, 0), (97, 1, .return_, 0, [], 0, 0)]
theorem tk_MO_endsEither : ∀ e ∈ tab_MO_endsEither, sTok "GathersAllFaultsModel" prog_9_method_37_code e := tab_of (by decide +kernel)
def tab_MO_takesSecond : List sT := [(0, 1, .aload_n 0, 0, [], 0, 0), (1, 3, .getfield 159, 0, [], 0, 0), (4, 1, .iload_n 2, 0, [], 0, 0), (5, 1, .isub, 0, [], 0, 0), (6, 1, .istore_n 3, 0, [], 0, 0), (7, 1, .iconst 0, 0, [], 0, 0), (8, 2, .istore 4, 0, [], 0, 0), (10, 2, .iload 4, 0, [], 0, 0), (12, 1, .iload_n 3, 0, [], 0, 0), (13, 3, .if_icmp .ge 45, 58, [], 0, 0), (16, 1, .aload_n 0, 0, [], 0, 0), (17, 3, .getfield 67, 0, [], 0, 0), (20, 1, .iload_n 1, 0, [], 0, 0), (21, 2, .iload 4, 0, [], 0, 0), (23, 1, .iadd, 0, [], 0, 0), (24, 1, .aload_n 0, 0, [], 0, 0), (25, 3, .getfield 67, 0, [], 0, 0), (28, 1, .iload_n 2, 0, [], 0, 0), (29, 2, .iload 4, 0, [], 0, 0), (31, 1, .iadd, 0, [], 0, 0), (32, 1, .iaload, 0, [], 0, 0), (33, 1, .iastore, 0, [], 0, 0), (34, 1, .aload_n 0, 0, [], 0, 0), (35, 3, .getfield 70, 0, [], 0, 0), (38, 1, .iload_n 1, 0, [], 0, 0), (39, 2, .iload 4, 0, [], 0, 0), (41, 1, .iadd, 0, [], 0, 0), (42, 1, .aload_n 0, 0, [], 0, 0), (43, 3, .getfield 70, 0, [], 0, 0), (46, 1, .iload_n 2, 0, [], 0, 0), (47, 2, .iload 4, 0, [], 0, 0), (49, 1, .iadd, 0, [], 0, 0), (50, 1, .iaload, 0, [], 0, 0), (51, 1, .iastore, 0, [], 0, 0), (52, 3, .iinc 4 1, 0, [], 1, 0), (55, 3, .goto (-45), 10, [], 0, 0), (58, 1, .aload_n 0, 0, [], 0, 0), (59, 1, .iload_n 1, 0, [], 0, 0), (60, 1, .iload_n 3, 0, [], 0, 0), (61, 1, .iadd, 0, [], 0, 0), (62, 3, .putfield 159, 0, [], 0, 0), (65, 1, .return_, 0, [], 0, 0)]
theorem tk_MO_takesSecond : ∀ e ∈ tab_MO_takesSecond, sTok "GathersAllFaultsModel" prog_9_method_36_code e := tab_of (by decide +kernel)
def tab_MO_fault : List sT := [(0, 1, .iload_n 2, 0, [], 0, 0), (1, 1, .iconst 0, 0, [], 0, 0), (2, 1, .iconst 1, 0, [], 1, 0), (3, 3, .invokestatic 213, 0, [], 0, 0), (6, 3, .ifCond .ne 10, 16, [], 0, 0), (9, 1, .aload_n 0, 0, [], 0, 0), (10, 2, .bipush (-2), 0, [], (-2), 0), (12, 3, .invokevirtual 253, 0, [], 0, 0), (15, 1, .ireturn, 0, [], 0, 0), (16, 1, .iload_n 1, 0, [], 0, 0), (17, 1, .iconst 0, 0, [], 0, 0), (18, 1, .aload_n 0, 0, [], 0, 0), (19, 3, .invokevirtual 376, 0, [], 0, 0), (22, 1, .iconst 1, 0, [], 1, 0), (23, 1, .isub, 0, [], 0, 0), (24, 3, .invokestatic 213, 0, [], 0, 0), (27, 3, .ifCond .ne 9, 36, [], 0, 0), (30, 1, .aload_n 0, 0, [], 0, 0), (31, 1, .iconst (-1), 0, [], (-1), 0), (32, 3, .invokevirtual 253, 0, [], 0, 0), (35, 1, .ireturn, 0, [], 0, 0), (36, 1, .iload_n 2, 0, [], 0, 0), (37, 3, .ifCond .ne 12, 49, [], 0, 0), (40, 1, .aload_n 0, 0, [], 0, 0), (41, 3, .getfield 67, 0, [], 0, 0), (44, 1, .iload_n 1, 0, [], 0, 0), (45, 1, .iaload, 0, [], 0, 0), (46, 3, .goto 9, 55, [], 0, 0), (49, 1, .aload_n 0, 0, [], 0, 0), (50, 3, .getfield 70, 0, [], 0, 0), (53, 1, .iload_n 1, 0, [], 0, 0), (54, 1, .iaload, 0, [], 0, 0), (55, 1, .ireturn, 0, [], 0, 0)]
theorem tk_MO_fault : ∀ e ∈ tab_MO_fault, sTok "GathersAllFaultsModel" prog_9_method_81_code e := tab_of (by decide +kernel)
def tab_MO_coded : List sT := [(0, 1, .iload_n 1, 0, [], 0, 0), (1, 1, .iconst 1, 0, [], 1, 0), (2, 2, .bipush 12, 0, [], 12, 0), (4, 3, .invokestatic 213, 0, [], 0, 0), (7, 3, .ifCond .ne 10, 17, [], 0, 0), (10, 1, .aload_n 0, 0, [], 0, 0), (11, 2, .bipush (-2), 0, [], (-2), 0), (13, 3, .invokevirtual 253, 0, [], 0, 0), (16, 1, .ireturn, 0, [], 0, 0), (17, 1, .iconst 0, 0, [], 0, 0), (18, 1, .istore_n 2, 0, [], 0, 0), (19, 1, .aload_n 0, 0, [], 0, 0), (20, 3, .invokevirtual 376, 0, [], 0, 0), (23, 1, .iconst 1, 0, [], 1, 0), (24, 1, .isub, 0, [], 0, 0), (25, 1, .istore_n 3, 0, [], 0, 0), (26, 1, .iload_n 3, 0, [], 0, 0), (27, 3, .ifCond .lt 27, 54, [], 0, 0), (30, 1, .iload_n 2, 0, [], 0, 0), (31, 1, .aload_n 0, 0, [], 0, 0), (32, 3, .getfield 70, 0, [], 0, 0), (35, 1, .iload_n 3, 0, [], 0, 0), (36, 1, .iaload, 0, [], 0, 0), (37, 1, .iload_n 1, 0, [], 0, 0), (38, 3, .if_icmp .ne 7, 45, [], 0, 0), (41, 1, .iconst 1, 0, [], 1, 0), (42, 3, .goto 4, 46, [], 0, 0), (45, 1, .iconst 0, 0, [], 0, 0), (46, 1, .iadd, 0, [], 0, 0), (47, 1, .istore_n 2, 0, [], 0, 0), (48, 3, .iinc 3 (-1), 0, [], (-1), 0), (51, 3, .goto (-25), 26, [], 0, 0), (54, 1, .iload_n 2, 0, [], 0, 0), (55, 1, .ireturn, 0, [], 0, 0)]
theorem tk_MO_coded : ∀ e ∈ tab_MO_coded, sTok "GathersAllFaultsModel" prog_9_method_82_code e := tab_of (by decide +kernel)
def tab_MO_below : List sT := [(0, 1, .iload_n 1, 0, [], 0, 0), (1, 1, .iconst 0, 0, [], 0, 0), (2, 3, .ldc_w 379, 0, [], 99999, 0), (5, 3, .invokestatic 246, 0, [], 0, 0), (8, 1, .istore_n 2, 0, [], 0, 0), (9, 1, .iload_n 2, 0, [], 0, 0), (10, 3, .ifCond .eq 9, 19, [], 0, 0), (13, 1, .aload_n 0, 0, [], 0, 0), (14, 1, .iload_n 2, 0, [], 0, 0), (15, 3, .invokevirtual 253, 0, [], 0, 0), (18, 1, .ireturn, 0, [], 0, 0), (19, 1, .iconst 0, 0, [], 0, 0), (20, 1, .istore_n 3, 0, [], 0, 0), (21, 1, .aload_n 0, 0, [], 0, 0), (22, 3, .invokevirtual 376, 0, [], 0, 0), (25, 1, .iconst 1, 0, [], 1, 0), (26, 1, .isub, 0, [], 0, 0), (27, 2, .istore 4, 0, [], 0, 0), (29, 2, .iload 4, 0, [], 0, 0), (31, 3, .ifCond .lt 31, 62, [], 0, 0), (34, 1, .iload_n 3, 0, [], 0, 0), (35, 1, .aload_n 0, 0, [], 0, 0), (36, 3, .getfield 67, 0, [], 0, 0), (39, 2, .iload 4, 0, [], 0, 0), (41, 1, .iaload, 0, [], 0, 0), (42, 1, .iload_n 1, 0, [], 0, 0), (43, 3, .invokestatic 176, 0, [], 0, 0), (46, 3, .ifCond .eq 7, 53, [], 0, 0), (49, 1, .iconst 1, 0, [], 1, 0), (50, 3, .goto 4, 54, [], 0, 0), (53, 1, .iconst 0, 0, [], 0, 0), (54, 1, .iadd, 0, [], 0, 0), (55, 1, .istore_n 3, 0, [], 0, 0), (56, 3, .iinc 4 (-1), 0, [], (-1), 0), (59, 3, .goto (-30), 29, [], 0, 0), (62, 1, .iload_n 3, 0, [], 0, 0), (63, 1, .ireturn, 0, [], 0, 0)]
theorem tk_MO_below : ∀ e ∈ tab_MO_below, sTok "GathersAllFaultsModel" prog_9_method_83_code e := tab_of (by decide +kernel)
def tab_MO_waits : List sT := [(0, 1, .aload_n 0, 0, [], 0, 0), (1, 3, .invokevirtual 373, 0, [], 0, 0), (4, 1, .aload_n 0, 0, [], 0, 0), (5, 3, .getfield 185, 0, [], 0, 0), (8, 1, .ireturn, 0, [], 0, 0)]
theorem tk_MO_waits : ∀ e ∈ tab_MO_waits, sTok "GathersAllFaultsModel" prog_9_method_84_code e := tab_of (by decide +kernel)
def tab_MO_first : List sT := [(0, 1, .aload_n 0, 0, [], 0, 0), (1, 3, .invokevirtual 373, 0, [], 0, 0), (4, 1, .aload_n 0, 0, [], 0, 0), (5, 1, .iconst 0, 0, [], 0, 0), (6, 3, .invokevirtual 380, 0, [], 0, 0), (9, 1, .ireturn, 0, [], 0, 0)]
theorem tk_MO_first : ∀ e ∈ tab_MO_first, sTok "GathersAllFaultsModel" prog_9_method_86_code e := tab_of (by decide +kernel)
def tab_MO_toldAt : List sT := [(0, 1, .iload_n 1, 0, [], 0, 0), (1, 1, .iconst 0, 0, [], 0, 0), (2, 1, .aload_n 0, 0, [], 0, 0), (3, 3, .getfield 159, 0, [], 0, 0), (6, 1, .iconst 1, 0, [], 1, 0), (7, 1, .isub, 0, [], 0, 0), (8, 3, .invokestatic 213, 0, [], 0, 0), (11, 3, .ifCond .eq 22, 33, [], 0, 0), (14, 2, .bipush 100, 0, [], 100, 0), (16, 1, .aload_n 0, 0, [], 0, 0), (17, 3, .getfield 67, 0, [], 0, 0), (20, 1, .iload_n 1, 0, [], 0, 0), (21, 1, .iaload, 0, [], 0, 0), (22, 1, .imul, 0, [], 0, 0), (23, 1, .aload_n 0, 0, [], 0, 0), (24, 3, .getfield 70, 0, [], 0, 0), (27, 1, .iload_n 1, 0, [], 0, 0), (28, 1, .iaload, 0, [], 0, 0), (29, 1, .iadd, 0, [], 0, 0), (30, 3, .goto 5, 35, [], 0, 0), (33, 2, .bipush (-9), 0, [], (-9), 0), (35, 1, .ireturn, 0, [], 0, 0)]
theorem tk_MO_toldAt : ∀ e ∈ tab_MO_toldAt, sTok "GathersAllFaultsModel" prog_9_method_85_code e := tab_of (by decide +kernel)
def tab_MO_limited : List sT := [(0, 1, .iload_n 1, 0, [], 0, 0), (1, 1, .iconst 0, 0, [], 0, 0), (2, 2, .bipush 99, 0, [], 99, 0), (4, 3, .invokestatic 246, 0, [], 0, 0), (7, 1, .istore_n 3, 0, [], 0, 0), (8, 1, .iload_n 3, 0, [], 0, 0), (9, 3, .ifCond .ne 15, 24, [], 0, 0), (12, 1, .iload_n 2, 0, [], 0, 0), (13, 1, .iconst 0, 0, [], 0, 0), (14, 1, .iconst 1, 0, [], 1, 0), (15, 3, .invokestatic 213, 0, [], 0, 0), (18, 3, .ifCond .ne 6, 24, [], 0, 0), (21, 2, .bipush (-2), 0, [], (-2), 0), (23, 1, .istore_n 3, 0, [], 0, 0), (24, 1, .iload_n 3, 0, [], 0, 0), (25, 3, .ifCond .eq 9, 34, [], 0, 0), (28, 1, .aload_n 0, 0, [], 0, 0), (29, 1, .iload_n 3, 0, [], 0, 0), (30, 3, .invokevirtual 253, 0, [], 0, 0), (33, 1, .ireturn, 0, [], 0, 0), (34, 1, .aload_n 0, 0, [], 0, 0), (35, 3, .invokevirtual 376, 0, [], 0, 0), (38, 1, .iload_n 1, 0, [], 0, 0), (39, 3, .if_icmp .ge 10, 49, [], 0, 0), (42, 1, .aload_n 0, 0, [], 0, 0), (43, 3, .getfield 159, 0, [], 0, 0), (46, 3, .goto 4, 50, [], 0, 0), (49, 1, .iload_n 1, 0, [], 0, 0), (50, 2, .istore 4, 0, [], 0, 0), (52, 1, .iload_n 2, 0, [], 0, 0), (53, 3, .ifCond .ne 8, 61, [], 0, 0), (56, 2, .iload 4, 0, [], 0, 0), (58, 3, .goto 11, 69, [], 0, 0), (61, 1, .aload_n 0, 0, [], 0, 0), (62, 2, .iload 4, 0, [], 0, 0), (64, 1, .iconst 1, 0, [], 1, 0), (65, 1, .isub, 0, [], 0, 0), (66, 3, .invokevirtual 380, 0, [], 0, 0), (69, 1, .ireturn, 0, [], 0, 0)]
theorem tk_MO_limited : ∀ e ∈ tab_MO_limited, sTok "GathersAllFaultsModel" prog_9_method_87_code e := tab_of (by decide +kernel)
def tab_MO_total : List sT := [(0, 1, .aload_n 0, 0, [], 0, 0), (1, 3, .invokevirtual 376, 0, [], 0, 0), (4, 3, .ifCond .le 8, 12, [], 0, 0), (7, 2, .bipush (-9), 0, [], (-9), 0), (9, 3, .goto 7, 16, [], 0, 0), (12, 1, .aload_n 0, 0, [], 0, 0), (13, 3, .invokevirtual 383, 0, [], 0, 0), (16, 1, .ireturn, 0, [], 0, 0)]
theorem tk_MO_total : ∀ e ∈ tab_MO_total, sTok "GathersAllFaultsModel" prog_9_method_89_code e := tab_of (by decide +kernel)
def tab_MO_allNumbers : List sT := [(0, 1, .iconst 0, 0, [], 0, 0), (1, 1, .istore_n 1, 0, [], 0, 0), (2, 1, .iconst 0, 0, [], 0, 0), (3, 1, .istore_n 2, 0, [], 0, 0), (4, 1, .iload_n 2, 0, [], 0, 0), (5, 1, .aload_n 0, 0, [], 0, 0), (6, 3, .getfield 118, 0, [], 0, 0), (9, 3, .if_icmp .ge 31, 40, [], 0, 0), (12, 1, .iload_n 1, 0, [], 0, 0), (13, 1, .aload_n 0, 0, [], 0, 0), (14, 3, .getfield 13, 0, [], 0, 0), (17, 1, .iload_n 2, 0, [], 0, 0), (18, 1, .iaload, 0, [], 0, 0), (19, 3, .ifCond .ne 12, 31, [], 0, 0), (22, 1, .aload_n 0, 0, [], 0, 0), (23, 3, .getfield 16, 0, [], 0, 0), (26, 1, .iload_n 2, 0, [], 0, 0), (27, 1, .iaload, 0, [], 0, 0), (28, 3, .goto 4, 32, [], 0, 0), (31, 1, .iconst 0, 0, [], 0, 0), (32, 1, .iadd, 0, [], 0, 0), (33, 1, .istore_n 1, 0, [], 0, 0), (34, 3, .iinc 2 1, 0, [], 1, 0), (37, 3, .goto (-33), 4, [], 0, 0), (40, 1, .iload_n 1, 0, [], 0, 0), (41, 1, .ireturn, 0, [], 0, 0)]
theorem tk_MO_allNumbers : ∀ e ∈ tab_MO_allNumbers, sTok "GathersAllFaultsModel" prog_9_method_88_code e := tab_of (by decide +kernel)
def tab_MO_same : List sT := [(0, 1, .aload_n 0, 0, [], 0, 0), (1, 1, .iload_n 1, 0, [], 0, 0), (2, 3, .invokevirtual 146, 0, [], 0, 0), (5, 3, .ifCond .lt 11, 16, [], 0, 0), (8, 1, .aload_n 0, 0, [], 0, 0), (9, 1, .iload_n 2, 0, [], 0, 0), (10, 3, .invokevirtual 146, 0, [], 0, 0), (13, 3, .ifCond .ge 9, 22, [], 0, 0), (16, 1, .aload_n 0, 0, [], 0, 0), (17, 1, .iconst (-1), 0, [], (-1), 0), (18, 3, .invokevirtual 253, 0, [], 0, 0), (21, 1, .ireturn, 0, [], 0, 0), (22, 1, .aload_n 0, 0, [], 0, 0), (23, 1, .aload_n 0, 0, [], 0, 0), (24, 1, .iload_n 1, 0, [], 0, 0), (25, 3, .invokevirtual 146, 0, [], 0, 0), (28, 1, .aload_n 0, 0, [], 0, 0), (29, 1, .iload_n 2, 0, [], 0, 0), (30, 3, .invokevirtual 146, 0, [], 0, 0), (33, 3, .invokevirtual 191, 0, [], 0, 0), (36, 3, .ifCond .eq 7, 43, [], 0, 0), (39, 1, .iconst 1, 0, [], 1, 0), (40, 3, .goto 4, 44, [], 0, 0), (43, 1, .iconst 0, 0, [], 0, 0), (44, 1, .ireturn, 0, [], 0, 0)]
theorem tk_MO_same : ∀ e ∈ tab_MO_same, sTok "GathersAllFaultsModel" prog_9_method_90_code e := tab_of (by decide +kernel)
def tab_MO_different : List sT := [(0, 1, .iconst 0, 0, [], 0, 0), (1, 1, .istore_n 1, 0, [], 0, 0), (2, 1, .iconst 0, 0, [], 0, 0), (3, 1, .istore_n 2, 0, [], 0, 0), (4, 1, .iload_n 2, 0, [], 0, 0), (5, 1, .aload_n 0, 0, [], 0, 0), (6, 3, .getfield 118, 0, [], 0, 0), (9, 3, .if_icmp .ge 28, 37, [], 0, 0), (12, 1, .iload_n 1, 0, [], 0, 0), (13, 1, .aload_n 0, 0, [], 0, 0), (14, 1, .iload_n 2, 0, [], 0, 0), (15, 1, .iload_n 2, 0, [], 0, 0), (16, 1, .iconst 1, 0, [], 1, 0), (17, 1, .iadd, 0, [], 0, 0), (18, 3, .invokevirtual 386, 0, [], 0, 0), (21, 3, .ifCond .ne 7, 28, [], 0, 0), (24, 1, .iconst 1, 0, [], 1, 0), (25, 3, .goto 4, 29, [], 0, 0), (28, 1, .iconst 0, 0, [], 0, 0), (29, 1, .iadd, 0, [], 0, 0), (30, 1, .istore_n 1, 0, [], 0, 0), (31, 3, .iinc 2 1, 0, [], 1, 0), (34, 3, .goto (-30), 4, [], 0, 0), (37, 1, .iload_n 1, 0, [], 0, 0), (38, 1, .ireturn, 0, [], 0, 0)]
theorem tk_MO_different : ∀ e ∈ tab_MO_different, sTok "GathersAllFaultsModel" prog_9_method_92_code e := tab_of (by decide +kernel)
def tab_MO_alike : List sT := [(0, 1, .iconst 0, 0, [], 0, 0), (1, 1, .istore_n 3, 0, [], 0, 0), (2, 1, .iload_n 2, 0, [], 0, 0), (3, 2, .istore 4, 0, [], 0, 0), (5, 2, .iload 4, 0, [], 0, 0), (7, 1, .aload_n 0, 0, [], 0, 0), (8, 3, .getfield 118, 0, [], 0, 0), (11, 3, .if_icmp .ge 27, 38, [], 0, 0), (14, 1, .iload_n 3, 0, [], 0, 0), (15, 1, .aload_n 0, 0, [], 0, 0), (16, 1, .iload_n 1, 0, [], 0, 0), (17, 2, .iload 4, 0, [], 0, 0), (19, 3, .invokevirtual 191, 0, [], 0, 0), (22, 3, .ifCond .eq 7, 29, [], 0, 0), (25, 1, .iconst 1, 0, [], 1, 0), (26, 3, .goto 4, 30, [], 0, 0), (29, 1, .iconst 0, 0, [], 0, 0), (30, 1, .iadd, 0, [], 0, 0), (31, 1, .istore_n 3, 0, [], 0, 0), (32, 3, .iinc 4 1, 0, [], 1, 0), (35, 3, .goto (-30), 5, [], 0, 0), (38, 1, .iload_n 3, 0, [], 0, 0), (39, 1, .ireturn, 0, [], 0, 0)]
theorem tk_MO_alike : ∀ e ∈ tab_MO_alike, sTok "GathersAllFaultsModel" prog_9_method_91_code e := tab_of (by decide +kernel)
def tab_MO_often : List sT := [(0, 1, .iload_n 1, 0, [], 0, 0), (1, 1, .iconst 0, 0, [], 0, 0), (2, 1, .iconst 1, 0, [], 1, 0), (3, 3, .invokestatic 213, 0, [], 0, 0), (6, 3, .ifCond .ne 10, 16, [], 0, 0), (9, 1, .aload_n 0, 0, [], 0, 0), (10, 2, .bipush (-2), 0, [], (-2), 0), (12, 3, .invokevirtual 253, 0, [], 0, 0), (15, 1, .ireturn, 0, [], 0, 0), (16, 1, .iconst 0, 0, [], 0, 0), (17, 1, .istore_n 2, 0, [], 0, 0), (18, 1, .iconst 1, 0, [], 1, 0), (19, 1, .istore_n 3, 0, [], 0, 0), (20, 1, .iload_n 3, 0, [], 0, 0), (21, 1, .aload_n 0, 0, [], 0, 0), (22, 3, .getfield 118, 0, [], 0, 0), (25, 3, .if_icmp .ge 30, 55, [], 0, 0), (28, 1, .aload_n 0, 0, [], 0, 0), (29, 1, .iload_n 3, 0, [], 0, 0), (30, 1, .iconst 0, 0, [], 0, 0), (31, 3, .invokevirtual 386, 0, [], 0, 0), (34, 1, .aload_n 0, 0, [], 0, 0), (35, 1, .iload_n 2, 0, [], 0, 0), (36, 1, .iconst 0, 0, [], 0, 0), (37, 3, .invokevirtual 386, 0, [], 0, 0), (40, 3, .if_icmp .le 7, 47, [], 0, 0), (43, 1, .iload_n 3, 0, [], 0, 0), (44, 3, .goto 4, 48, [], 0, 0), (47, 1, .iload_n 2, 0, [], 0, 0), (48, 1, .istore_n 2, 0, [], 0, 0), (49, 3, .iinc 3 1, 0, [], 1, 0), (52, 3, .goto (-32), 20, [], 0, 0), (55, 1, .iload_n 1, 0, [], 0, 0), (56, 3, .ifCond .ne 12, 68, [], 0, 0), (59, 1, .aload_n 0, 0, [], 0, 0), (60, 3, .getfield 25, 0, [], 0, 0), (63, 1, .iload_n 2, 0, [], 0, 0), (64, 1, .iaload, 0, [], 0, 0), (65, 3, .goto 9, 74, [], 0, 0), (68, 1, .aload_n 0, 0, [], 0, 0), (69, 1, .iload_n 2, 0, [], 0, 0), (70, 1, .iconst 0, 0, [], 0, 0), (71, 3, .invokevirtual 386, 0, [], 0, 0), (74, 1, .ireturn, 0, [], 0, 0)]
theorem tk_MO_often : ∀ e ∈ tab_MO_often, sTok "GathersAllFaultsModel" prog_9_method_93_code e := tab_of (by decide +kernel)
def tab_MO_without : List sT := [(0, 1, .aload_n 0, 0, [], 0, 0), (1, 1, .iload_n 1, 0, [], 0, 0), (2, 3, .invokevirtual 146, 0, [], 0, 0), (5, 1, .istore_n 2, 0, [], 0, 0), (6, 1, .iload_n 2, 0, [], 0, 0), (7, 3, .ifCond .ge 7, 14, [], 0, 0), (10, 1, .iconst (-1), 0, [], (-1), 0), (11, 3, .goto 13, 24, [], 0, 0), (14, 1, .iload_n 2, 0, [], 0, 0), (15, 3, .ifCond .ne 8, 23, [], 0, 0), (18, 2, .bipush (-3), 0, [], (-3), 0), (20, 3, .goto 4, 24, [], 0, 0), (23, 1, .iconst 0, 0, [], 0, 0), (24, 1, .istore_n 3, 0, [], 0, 0), (25, 1, .iload_n 3, 0, [], 0, 0), (26, 3, .ifCond .eq 9, 35, [], 0, 0), (29, 1, .aload_n 0, 0, [], 0, 0), (30, 1, .iload_n 3, 0, [], 0, 0), (31, 3, .invokevirtual 253, 0, [], 0, 0), (34, 1, .ireturn, 0, [], 0, 0), (35, 1, .aload_n 0, 0, [], 0, 0), (36, 3, .invokevirtual 389, 0, [], 0, 0), (39, 1, .aload_n 0, 0, [], 0, 0), (40, 1, .iload_n 2, 0, [], 0, 0), (41, 3, .invokevirtual 392, 0, [], 0, 0), (44, 1, .aload_n 0, 0, [], 0, 0), (45, 3, .invokevirtual 376, 0, [], 0, 0), (48, 2, .istore 4, 0, [], 0, 0), (50, 1, .aload_n 0, 0, [], 0, 0), (51, 3, .invokevirtual 395, 0, [], 0, 0), (54, 2, .iload 4, 0, [], 0, 0), (56, 1, .ireturn, 0, [], 0, 0)]
theorem tk_MO_without : ∀ e ∈ tab_MO_without, sTok "GathersAllFaultsModel" prog_9_method_94_code e := tab_of (by decide +kernel)
def tab_MO_minds : List sT := [(0, 1, .aload_n 0, 0, [], 0, 0), (1, 1, .iconst 2, 0, [], 2, 0), (2, 1, .iconst 1, 0, [], 1, 0), (3, 3, .invokevirtual 310, 0, [], 0, 0), (6, 1, .return_, 0, [], 0, 0)]
theorem tk_MO_minds : ∀ e ∈ tab_MO_minds, sTok "GathersAllFaultsModel" prog_9_method_71_code e := tab_of (by decide +kernel)
def tab_MO_leavesOut : List sT := [(0, 1, .aload_n 0, 0, [], 0, 0), (1, 3, .getfield 16, 0, [], 0, 0), (4, 1, .aload_n 0, 0, [], 0, 0), (5, 1, .aload_n 0, 0, [], 0, 0), (6, 3, .getfield 25, 0, [], 0, 0), (9, 1, .iload_n 1, 0, [], 0, 0), (10, 1, .iaload, 0, [], 0, 0), (11, 2, .bipush 10, 0, [], 10, 0), (13, 1, .idiv, 0, [], 0, 0), (14, 3, .invokevirtual 146, 0, [], 0, 0), (17, 1, .dup2, 0, [], 0, 0), (18, 1, .iaload, 0, [], 0, 0), (19, 1, .iconst 1, 0, [], 1, 0), (20, 1, .isub, 0, [], 0, 0), (21, 1, .iastore, 0, [], 0, 0), (22, 1, .aload_n 0, 0, [], 0, 0), (23, 1, .iload_n 1, 0, [], 0, 0), (24, 1, .aload_n 0, 0, [], 0, 0), (25, 3, .getfield 22, 0, [], 0, 0), (28, 1, .iload_n 1, 0, [], 0, 0), (29, 1, .iaload, 0, [], 0, 0), (30, 3, .invokevirtual 142, 0, [], 0, 0), (33, 1, .aload_n 0, 0, [], 0, 0), (34, 3, .invokevirtual 125, 0, [], 0, 0), (37, 1, .return_, 0, [], 0, 0)]
theorem tk_MO_leavesOut : ∀ e ∈ tab_MO_leavesOut, sTok "GathersAllFaultsModel" prog_9_method_15_code e := tab_of (by decide +kernel)
def tab_MO_forgets : List sT := [(0, 1, .aload_n 0, 0, [], 0, 0), (1, 1, .iconst 2, 0, [], 2, 0), (2, 1, .iconst 0, 0, [], 0, 0), (3, 3, .invokevirtual 310, 0, [], 0, 0), (6, 1, .return_, 0, [], 0, 0)]
theorem tk_MO_forgets : ∀ e ∈ tab_MO_forgets, sTok "GathersAllFaultsModel" prog_9_method_72_code e := tab_of (by decide +kernel)
def tab_MO_mend : List sT := [(0, 1, .iload_n 1, 0, [], 0, 0), (1, 1, .iconst 0, 0, [], 0, 0), (2, 1, .iconst 1, 0, [], 1, 0), (3, 3, .invokestatic 213, 0, [], 0, 0), (6, 3, .ifCond .ne 10, 16, [], 0, 0), (9, 1, .aload_n 0, 0, [], 0, 0), (10, 2, .bipush (-2), 0, [], (-2), 0), (12, 3, .invokevirtual 253, 0, [], 0, 0), (15, 1, .ireturn, 0, [], 0, 0), (16, 2, .bipush (-9), 0, [], (-9), 0), (18, 1, .istore_n 2, 0, [], 0, 0), (19, 1, .aload_n 0, 0, [], 0, 0), (20, 3, .invokevirtual 376, 0, [], 0, 0), (23, 1, .istore_n 3, 0, [], 0, 0), (24, 1, .iconst 0, 0, [], 0, 0), (25, 2, .istore 4, 0, [], 0, 0), (27, 2, .iload 4, 0, [], 0, 0), (29, 1, .aload_n 0, 0, [], 0, 0), (30, 3, .getfield 118, 0, [], 0, 0), (33, 3, .if_icmp .ge 61, 94, [], 0, 0), (36, 1, .iconst 0, 0, [], 0, 0), (37, 2, .istore 5, 0, [], 0, 0), (39, 2, .iload 5, 0, [], 0, 0), (41, 2, .bipush 20, 0, [], 20, 0), (43, 3, .if_icmp .gt 45, 88, [], 0, 0), (46, 1, .aload_n 0, 0, [], 0, 0), (47, 2, .iload 4, 0, [], 0, 0), (49, 2, .iload 5, 0, [], 0, 0), (51, 3, .invokevirtual 398, 0, [], 0, 0), (54, 2, .istore 6, 0, [], 0, 0), (56, 2, .iload 6, 0, [], 0, 0), (58, 1, .iload_n 3, 0, [], 0, 0), (59, 3, .if_icmp .lt 6, 65, [], 0, 0), (62, 3, .goto 20, 82, [], 0, 0), (65, 2, .bipush 100, 0, [], 100, 0), (67, 1, .aload_n 0, 0, [], 0, 0), (68, 3, .getfield 25, 0, [], 0, 0), (71, 2, .iload 4, 0, [], 0, 0), (73, 1, .iaload, 0, [], 0, 0), (74, 1, .imul, 0, [], 0, 0), (75, 2, .iload 5, 0, [], 0, 0), (77, 1, .iadd, 0, [], 0, 0), (78, 1, .istore_n 2, 0, [], 0, 0), (79, 2, .iload 6, 0, [], 0, 0), (81, 1, .istore_n 3, 0, [], 0, 0), (82, 3, .iinc 5 1, 0, [], 1, 0), (85, 3, .goto (-46), 39, [], 0, 0), (88, 3, .iinc 4 1, 0, [], 1, 0), (91, 3, .goto (-64), 27, [], 0, 0), (94, 1, .iload_n 2, 0, [], 0, 0), (95, 3, .ifCond .ge 8, 103, [], 0, 0), (98, 2, .bipush (-9), 0, [], (-9), 0), (100, 3, .goto 12, 112, [], 0, 0), (103, 1, .iload_n 1, 0, [], 0, 0), (104, 3, .ifCond .ne 7, 111, [], 0, 0), (107, 1, .iload_n 2, 0, [], 0, 0), (108, 3, .goto 4, 112, [], 0, 0), (111, 1, .iload_n 3, 0, [], 0, 0), (112, 1, .ireturn, 0, [], 0, 0)]
theorem tk_MO_mend : ∀ e ∈ tab_MO_mend, sTok "GathersAllFaultsModel" prog_9_method_96_code e := tab_of (by decide +kernel)
def tab_MO_faultsWith : List sT := [(0, 1, .aload_n 0, 0, [], 0, 0), (1, 3, .invokevirtual 389, 0, [], 0, 0), (4, 1, .aload_n 0, 0, [], 0, 0), (5, 1, .iload_n 1, 0, [], 0, 0), (6, 1, .iconst 0, 0, [], 0, 0), (7, 1, .iload_n 2, 0, [], 0, 0), (8, 3, .invokevirtual 370, 0, [], 0, 0), (11, 1, .aload_n 0, 0, [], 0, 0), (12, 3, .invokevirtual 376, 0, [], 0, 0), (15, 1, .istore_n 3, 0, [], 0, 0), (16, 1, .aload_n 0, 0, [], 0, 0), (17, 3, .invokevirtual 395, 0, [], 0, 0), (20, 1, .iload_n 3, 0, [], 0, 0), (21, 1, .ireturn, 0, [], 0, 0)]
theorem tk_MO_faultsWith : ∀ e ∈ tab_MO_faultsWith, sTok "GathersAllFaultsModel" prog_9_method_95_code e := tab_of (by decide +kernel)
def tab_MO_range : List sT := [(0, 1, .aload_n 0, 0, [], 0, 0), (1, 1, .iload_n 1, 0, [], 0, 0), (2, 3, .invokevirtual 146, 0, [], 0, 0), (5, 1, .istore_n 3, 0, [], 0, 0), (6, 1, .iload_n 3, 0, [], 0, 0), (7, 3, .ifCond .ge 7, 14, [], 0, 0), (10, 1, .iconst (-1), 0, [], (-1), 0), (11, 3, .goto 18, 29, [], 0, 0), (14, 1, .iload_n 2, 0, [], 0, 0), (15, 1, .iconst 0, 0, [], 0, 0), (16, 1, .iconst 1, 0, [], 1, 0), (17, 3, .invokestatic 213, 0, [], 0, 0), (20, 3, .ifCond .ne 8, 28, [], 0, 0), (23, 2, .bipush (-2), 0, [], (-2), 0), (25, 3, .goto 4, 29, [], 0, 0), (28, 1, .iconst 0, 0, [], 0, 0), (29, 2, .istore 4, 0, [], 0, 0), (31, 2, .iload 4, 0, [], 0, 0), (33, 3, .ifCond .eq 10, 43, [], 0, 0), (36, 1, .aload_n 0, 0, [], 0, 0), (37, 2, .iload 4, 0, [], 0, 0), (39, 3, .invokevirtual 253, 0, [], 0, 0), (42, 1, .ireturn, 0, [], 0, 0), (43, 2, .bipush (-9), 0, [], (-9), 0), (45, 2, .istore 5, 0, [], 0, 0), (47, 2, .bipush (-9), 0, [], (-9), 0), (49, 2, .istore 6, 0, [], 0, 0), (51, 1, .iconst 0, 0, [], 0, 0), (52, 2, .istore 7, 0, [], 0, 0), (54, 2, .iload 7, 0, [], 0, 0), (56, 2, .bipush 99, 0, [], 99, 0), (58, 3, .if_icmp .gt 47, 105, [], 0, 0), (61, 1, .aload_n 0, 0, [], 0, 0), (62, 1, .iload_n 3, 0, [], 0, 0), (63, 2, .iload 7, 0, [], 0, 0), (65, 3, .invokevirtual 398, 0, [], 0, 0), (68, 1, .pop, 0, [], 0, 0), (69, 1, .aload_n 0, 0, [], 0, 0), (70, 1, .iconst 0, 0, [], 0, 0), (71, 1, .iload_n 1, 0, [], 0, 0), (72, 3, .invokevirtual 182, 0, [], 0, 0), (75, 3, .ifCond .eq 6, 81, [], 0, 0), (78, 3, .goto 21, 99, [], 0, 0), (81, 2, .iload 5, 0, [], 0, 0), (83, 3, .ifCond .ge 8, 91, [], 0, 0), (86, 2, .iload 7, 0, [], 0, 0), (88, 3, .goto 5, 93, [], 0, 0), (91, 2, .iload 5, 0, [], 0, 0), (93, 2, .istore 5, 0, [], 0, 0), (95, 2, .iload 7, 0, [], 0, 0), (97, 2, .istore 6, 0, [], 0, 0), (99, 3, .iinc 7 1, 0, [], 1, 0), (102, 3, .goto (-48), 54, [], 0, 0), (105, 1, .iload_n 2, 0, [], 0, 0), (106, 3, .ifCond .ne 8, 114, [], 0, 0), (109, 2, .iload 5, 0, [], 0, 0), (111, 3, .goto 5, 116, [], 0, 0), (114, 2, .iload 6, 0, [], 0, 0), (116, 1, .ireturn, 0, [], 0, 0)]
theorem tk_MO_range : ∀ e ∈ tab_MO_range, sTok "GathersAllFaultsModel" prog_9_method_97_code e := tab_of (by decide +kernel)
def tab_MO_loss : List sT := [(0, 1, .iload_n 1, 0, [], 0, 0), (1, 1, .iconst 2, 0, [], 2, 0), (2, 2, .bipush 20, 0, [], 20, 0), (4, 3, .invokestatic 246, 0, [], 0, 0), (7, 1, .istore_n 3, 0, [], 0, 0), (8, 1, .iload_n 3, 0, [], 0, 0), (9, 3, .ifCond .ne 15, 24, [], 0, 0), (12, 1, .iload_n 2, 0, [], 0, 0), (13, 1, .iconst 0, 0, [], 0, 0), (14, 1, .iconst 1, 0, [], 1, 0), (15, 3, .invokestatic 213, 0, [], 0, 0), (18, 3, .ifCond .ne 6, 24, [], 0, 0), (21, 2, .bipush (-2), 0, [], (-2), 0), (23, 1, .istore_n 3, 0, [], 0, 0), (24, 1, .iload_n 3, 0, [], 0, 0), (25, 3, .ifCond .eq 9, 34, [], 0, 0), (28, 1, .aload_n 0, 0, [], 0, 0), (29, 1, .iload_n 3, 0, [], 0, 0), (30, 3, .invokevirtual 405, 0, [], 0, 0), (33, 1, .lreturn, 0, [], 0, 0), (34, 1, .aload_n 0, 0, [], 0, 0), (35, 2, .bipush 6, 0, [], 6, 0), (37, 3, .invokevirtual 409, 0, [], 0, 0), (40, 2, .istore 4, 0, [], 0, 0), (42, 1, .lconst 0, 0, [], 0, 0), (43, 2, .lstore 5, 0, [], 0, 0), (45, 1, .lconst 1, 0, [], 0, 1), (46, 2, .lstore 7, 0, [], 0, 0), (48, 1, .iconst 0, 0, [], 0, 0), (49, 2, .istore 9, 0, [], 0, 0), (51, 2, .iload 9, 0, [], 0, 0), (53, 2, .iload 4, 0, [], 0, 0), (55, 3, .if_icmp .ge 16, 71, [], 0, 0), (58, 2, .lload 7, 0, [], 0, 0), (60, 1, .iload_n 1, 0, [], 0, 0), (61, 1, .i2l, 0, [], 0, 0), (62, 1, .lmul, 0, [], 0, 0), (63, 2, .lstore 7, 0, [], 0, 0), (65, 3, .iinc 9 1, 0, [], 1, 0), (68, 3, .goto (-17), 51, [], 0, 0), (71, 1, .iconst 0, 0, [], 0, 0), (72, 2, .istore 9, 0, [], 0, 0), (74, 2, .iload 9, 0, [], 0, 0), (76, 1, .iconst 1, 0, [], 1, 0), (77, 2, .iload 4, 0, [], 0, 0), (79, 1, .ishl, 0, [], 0, 0), (80, 3, .if_icmp .ge 83, 163, [], 0, 0), (83, 1, .lconst 1, 0, [], 0, 1), (84, 2, .lstore 10, 0, [], 0, 0), (86, 1, .iconst 0, 0, [], 0, 0), (87, 2, .istore 12, 0, [], 0, 0), (89, 2, .iload 12, 0, [], 0, 0), (91, 2, .iload 4, 0, [], 0, 0), (93, 3, .if_icmp .ge 32, 125, [], 0, 0), (96, 2, .lload 10, 0, [], 0, 0), (98, 2, .iload 9, 0, [], 0, 0), (100, 2, .iload 12, 0, [], 0, 0), (102, 3, .invokestatic 295, 0, [], 0, 0), (105, 3, .ifCond .eq 7, 112, [], 0, 0), (108, 1, .lconst 1, 0, [], 0, 1), (109, 3, .goto 7, 116, [], 0, 0), (112, 1, .iload_n 1, 0, [], 0, 0), (113, 1, .iconst 1, 0, [], 1, 0), (114, 1, .isub, 0, [], 0, 0), (115, 1, .i2l, 0, [], 0, 0), (116, 1, .lmul, 0, [], 0, 0), (117, 2, .lstore 10, 0, [], 0, 0), (119, 3, .iinc 12 1, 0, [], 1, 0), (122, 3, .goto (-33), 89, [], 0, 0), (125, 1, .aload_n 0, 0, [], 0, 0), (126, 3, .invokevirtual 389, 0, [], 0, 0), (129, 1, .aload_n 0, 0, [], 0, 0), (130, 2, .iload 9, 0, [], 0, 0), (132, 3, .invokevirtual 412, 0, [], 0, 0), (135, 2, .lload 5, 0, [], 0, 0), (137, 1, .aload_n 0, 0, [], 0, 0), (138, 3, .invokevirtual 376, 0, [], 0, 0), (141, 3, .ifCond .ne 8, 149, [], 0, 0), (144, 2, .lload 10, 0, [], 0, 0), (146, 3, .goto 4, 150, [], 0, 0), (149, 1, .lconst 0, 0, [], 0, 0), (150, 1, .ladd, 0, [], 0, 0), (151, 2, .lstore 5, 0, [], 0, 0), (153, 1, .aload_n 0, 0, [], 0, 0), (154, 3, .invokevirtual 395, 0, [], 0, 0), (157, 3, .iinc 9 1, 0, [], 1, 0), (160, 3, .goto (-86), 74, [], 0, 0), (163, 2, .lload 5, 0, [], 0, 0), (165, 2, .lload 7, 0, [], 0, 0), (167, 1, .iload_n 2, 0, [], 0, 0), (168, 3, .invokestatic 415, 0, [], 0, 0), (171, 1, .lreturn, 0, [], 0, 0)]
theorem tk_MO_loss : ∀ e ∈ tab_MO_loss, sTok "GathersAllFaultsModel" prog_9_method_102_code e := tab_of (by decide +kernel)
def tab_MO_lowestOf : List sT := [(0, 1, .aload_n 0, 0, [], 0, 0), (1, 3, .getfield 7, 0, [], 0, 0), (4, 1, .iload_n 1, 0, [], 0, 0), (5, 1, .ineg, 0, [], 0, 0), (6, 1, .dup2, 0, [], 0, 0), (7, 1, .iaload, 0, [], 0, 0), (8, 1, .iconst 1, 0, [], 1, 0), (9, 1, .iadd, 0, [], 0, 0), (10, 1, .iastore, 0, [], 0, 0), (11, 3, .ldc2_w 128, 0, [], 0, 4000000000000000000), (14, 1, .iload_n 1, 0, [], 0, 0), (15, 1, .i2l, 0, [], 0, 0), (16, 1, .lsub, 0, [], 0, 0), (17, 1, .lreturn, 0, [], 0, 0)]
theorem tk_MO_lowestOf : ∀ e ∈ tab_MO_lowestOf, sTok "GathersAllFaultsModel" prog_9_method_3_code e := tab_of (by decide +kernel)
def tab_MO_numbersUpTo : List sT := [(0, 1, .iconst 0, 0, [], 0, 0), (1, 1, .istore_n 2, 0, [], 0, 0), (2, 1, .iconst 0, 0, [], 0, 0), (3, 1, .istore_n 3, 0, [], 0, 0), (4, 1, .iload_n 3, 0, [], 0, 0), (5, 1, .aload_n 0, 0, [], 0, 0), (6, 3, .getfield 118, 0, [], 0, 0), (9, 3, .if_icmp .ge 26, 35, [], 0, 0), (12, 1, .iload_n 2, 0, [], 0, 0), (13, 1, .aload_n 0, 0, [], 0, 0), (14, 3, .getfield 13, 0, [], 0, 0), (17, 1, .iload_n 3, 0, [], 0, 0), (18, 1, .iaload, 0, [], 0, 0), (19, 3, .ifCond .ne 7, 26, [], 0, 0), (22, 1, .iconst 1, 0, [], 1, 0), (23, 3, .goto 4, 27, [], 0, 0), (26, 1, .iconst 0, 0, [], 0, 0), (27, 1, .iadd, 0, [], 0, 0), (28, 1, .istore_n 2, 0, [], 0, 0), (29, 3, .iinc 3 1, 0, [], 1, 0), (32, 3, .goto (-28), 4, [], 0, 0), (35, 1, .iload_n 2, 0, [], 0, 0), (36, 1, .iload_n 1, 0, [], 0, 0), (37, 3, .if_icmp .ge 7, 44, [], 0, 0), (40, 1, .iload_n 2, 0, [], 0, 0), (41, 3, .goto 4, 45, [], 0, 0), (44, 1, .iload_n 1, 0, [], 0, 0), (45, 1, .ireturn, 0, [], 0, 0)]
theorem tk_MO_numbersUpTo : ∀ e ∈ tab_MO_numbersUpTo, sTok "GathersAllFaultsModel" prog_9_method_100_code e := tab_of (by decide +kernel)
def tab_MO_losesSome : List sT := [(0, 1, .iconst 0, 0, [], 0, 0), (1, 1, .istore_n 2, 0, [], 0, 0), (2, 1, .iconst 0, 0, [], 0, 0), (3, 1, .istore_n 3, 0, [], 0, 0), (4, 1, .iload_n 3, 0, [], 0, 0), (5, 1, .aload_n 0, 0, [], 0, 0), (6, 3, .getfield 118, 0, [], 0, 0), (9, 3, .if_icmp .ge 52, 61, [], 0, 0), (12, 1, .aload_n 0, 0, [], 0, 0), (13, 3, .getfield 13, 0, [], 0, 0), (16, 1, .iload_n 3, 0, [], 0, 0), (17, 1, .iaload, 0, [], 0, 0), (18, 3, .ifCond .eq 6, 24, [], 0, 0), (21, 3, .goto 34, 55, [], 0, 0), (24, 1, .iload_n 2, 0, [], 0, 0), (25, 2, .bipush 6, 0, [], 6, 0), (27, 3, .if_icmp .ge 25, 52, [], 0, 0), (30, 1, .iload_n 1, 0, [], 0, 0), (31, 1, .iload_n 2, 0, [], 0, 0), (32, 3, .invokestatic 295, 0, [], 0, 0), (35, 3, .ifCond .eq 17, 52, [], 0, 0), (38, 1, .aload_n 0, 0, [], 0, 0), (39, 3, .getfield 13, 0, [], 0, 0), (42, 1, .iload_n 3, 0, [], 0, 0), (43, 1, .iconst 1, 0, [], 1, 0), (44, 1, .iastore, 0, [], 0, 0), (45, 1, .aload_n 0, 0, [], 0, 0), (46, 3, .getfield 16, 0, [], 0, 0), (49, 1, .iload_n 3, 0, [], 0, 0), (50, 1, .iconst 0, 0, [], 0, 0), (51, 1, .iastore, 0, [], 0, 0), (52, 3, .iinc 2 1, 0, [], 1, 0), (55, 3, .iinc 3 1, 0, [], 1, 0), (58, 3, .goto (-54), 4, [], 0, 0), (61, 1, .aload_n 0, 0, [], 0, 0), (62, 3, .invokevirtual 125, 0, [], 0, 0), (65, 1, .return_, 0, [], 0, 0)]
theorem tk_MO_losesSome : ∀ e ∈ tab_MO_losesSome, sTok "GathersAllFaultsModel" prog_9_method_101_code e := tab_of (by decide +kernel)
def tab_MO_partOf : List sT := [(0, 2, .iload 4, 0, [], 0, 0), (2, 3, .ifCond .ne 7, 9, [], 0, 0), (5, 1, .lload_n 0, 0, [], 0, 0), (6, 3, .goto 4, 10, [], 0, 0), (9, 1, .lload_n 2, 0, [], 0, 0), (10, 1, .lload_n 0, 0, [], 0, 0), (11, 1, .lload_n 2, 0, [], 0, 0), (12, 3, .invokestatic 401, 0, [], 0, 0), (15, 1, .ldiv, 0, [], 0, 0), (16, 1, .lreturn, 0, [], 0, 0)]
theorem tk_MO_partOf : ∀ e ∈ tab_MO_partOf, sTok "GathersAllFaultsModel" prog_9_method_99_code e := tab_of (by decide +kernel)
def tab_MO_divisor : List sT := [(0, 1, .lload_n 0, 0, [], 0, 0), (1, 2, .lstore 4, 0, [], 0, 0), (3, 1, .lload_n 2, 0, [], 0, 0), (4, 2, .lstore 6, 0, [], 0, 0), (6, 2, .lload 6, 0, [], 0, 0), (8, 1, .lconst 0, 0, [], 0, 0), (9, 1, .lcmp, 0, [], 0, 0), (10, 3, .ifCond .eq 21, 31, [], 0, 0), (13, 2, .lload 4, 0, [], 0, 0), (15, 2, .lload 6, 0, [], 0, 0), (17, 1, .lrem, 0, [], 0, 0), (18, 2, .lstore 8, 0, [], 0, 0), (20, 2, .lload 6, 0, [], 0, 0), (22, 2, .lstore 4, 0, [], 0, 0), (24, 2, .lload 8, 0, [], 0, 0), (26, 2, .lstore 6, 0, [], 0, 0), (28, 3, .goto (-22), 6, [], 0, 0), (31, 2, .lload 4, 0, [], 0, 0), (33, 1, .lreturn, 0, [], 0, 0)]
theorem tk_MO_divisor : ∀ e ∈ tab_MO_divisor, sTok "GathersAllFaultsModel" prog_9_method_98_code e := tab_of (by decide +kernel)
def tab_MO_mean : List sT := [(0, 1, .iload_n 1, 0, [], 0, 0), (1, 1, .iconst 0, 0, [], 0, 0), (2, 1, .iconst 1, 0, [], 1, 0), (3, 3, .invokestatic 213, 0, [], 0, 0), (6, 3, .ifCond .ne 10, 16, [], 0, 0), (9, 1, .aload_n 0, 0, [], 0, 0), (10, 2, .bipush (-2), 0, [], (-2), 0), (12, 3, .invokevirtual 405, 0, [], 0, 0), (15, 1, .lreturn, 0, [], 0, 0), (16, 1, .aload_n 0, 0, [], 0, 0), (17, 3, .invokevirtual 376, 0, [], 0, 0), (20, 1, .i2l, 0, [], 0, 0), (21, 1, .aload_n 0, 0, [], 0, 0), (22, 3, .getfield 118, 0, [], 0, 0), (25, 1, .i2l, 0, [], 0, 0), (26, 1, .iload_n 1, 0, [], 0, 0), (27, 3, .invokestatic 415, 0, [], 0, 0), (30, 1, .lreturn, 0, [], 0, 0)]
theorem tk_MO_mean : ∀ e ∈ tab_MO_mean, sTok "GathersAllFaultsModel" prog_9_method_103_code e := tab_of (by decide +kernel)
def tab_MO_which : List sT := [(0, 1, .aload_n 0, 0, [], 0, 0), (1, 1, .iload_n 1, 0, [], 0, 0), (2, 3, .invokevirtual 146, 0, [], 0, 0), (5, 1, .istore_n 2, 0, [], 0, 0), (6, 1, .iload_n 2, 0, [], 0, 0), (7, 3, .ifCond .ge 9, 16, [], 0, 0), (10, 1, .aload_n 0, 0, [], 0, 0), (11, 1, .iconst (-1), 0, [], (-1), 0), (12, 3, .invokevirtual 253, 0, [], 0, 0), (15, 1, .ireturn, 0, [], 0, 0), (16, 1, .iconst 0, 0, [], 0, 0), (17, 1, .istore_n 3, 0, [], 0, 0), (18, 1, .iconst 0, 0, [], 0, 0), (19, 2, .istore 4, 0, [], 0, 0), (21, 2, .iload 4, 0, [], 0, 0), (23, 2, .bipush 16, 0, [], 16, 0), (25, 3, .if_icmp .ge 35, 60, [], 0, 0), (28, 1, .aload_n 0, 0, [], 0, 0), (29, 1, .iload_n 2, 0, [], 0, 0), (30, 2, .iload 4, 0, [], 0, 0), (32, 3, .invokevirtual 398, 0, [], 0, 0), (35, 1, .pop, 0, [], 0, 0), (36, 1, .iload_n 3, 0, [], 0, 0), (37, 1, .aload_n 0, 0, [], 0, 0), (38, 3, .invokevirtual 422, 0, [], 0, 0), (41, 3, .ifCond .eq 10, 51, [], 0, 0), (44, 1, .iconst 1, 0, [], 1, 0), (45, 2, .iload 4, 0, [], 0, 0), (47, 1, .ishl, 0, [], 0, 0), (48, 3, .goto 4, 52, [], 0, 0), (51, 1, .iconst 0, 0, [], 0, 0), (52, 1, .ior, 0, [], 0, 0), (53, 1, .istore_n 3, 0, [], 0, 0), (54, 3, .iinc 4 1, 0, [], 1, 0), (57, 3, .goto (-36), 21, [], 0, 0), (60, 1, .iload_n 3, 0, [], 0, 0), (61, 1, .ireturn, 0, [], 0, 0)]
theorem tk_MO_which : ∀ e ∈ tab_MO_which, sTok "GathersAllFaultsModel" prog_9_method_105_code e := tab_of (by decide +kernel)
def tab_MO_isCodedSo : List sT := [(0, 1, .iconst 0, 0, [], 0, 0), (1, 1, .istore_n 1, 0, [], 0, 0), (2, 1, .iload_n 1, 0, [], 0, 0), (3, 1, .aload_n 0, 0, [], 0, 0), (4, 3, .getfield 419, 0, [], 0, 0), (7, 3, .if_icmp .ge 34, 41, [], 0, 0), (10, 1, .iload_n 1, 0, [], 0, 0), (11, 1, .aload_n 0, 0, [], 0, 0), (12, 3, .getfield 159, 0, [], 0, 0), (15, 3, .if_icmp .ge 18, 33, [], 0, 0), (18, 1, .aload_n 0, 0, [], 0, 0), (19, 3, .getfield 70, 0, [], 0, 0), (22, 1, .iload_n 1, 0, [], 0, 0), (23, 1, .iaload, 0, [], 0, 0), (24, 1, .aload_n 0, 0, [], 0, 0), (25, 3, .getfield 115, 0, [], 0, 0), (28, 1, .iload_n 1, 0, [], 0, 0), (29, 1, .iaload, 0, [], 0, 0), (30, 3, .if_icmp .eq 5, 35, [], 0, 0), (33, 1, .iconst 0, 0, [], 0, 0), (34, 1, .ireturn, 0, [], 0, 0), (35, 3, .iinc 1 1, 0, [], 1, 0), (38, 3, .goto (-36), 2, [], 0, 0), (41, 1, .iconst 1, 0, [], 1, 0), (42, 1, .ireturn, 0, [], 0, 0)]
theorem tk_MO_isCodedSo : ∀ e ∈ tab_MO_isCodedSo, sTok "GathersAllFaultsModel" prog_9_method_104_code e := tab_of (by decide +kernel)
def tab_MO_row : List sT := [(0, 1, .iload_n 1, 0, [], 0, 0), (1, 1, .iconst 0, 0, [], 0, 0), (2, 2, .bipush 99, 0, [], 99, 0), (4, 3, .invokestatic 246, 0, [], 0, 0), (7, 1, .istore_n 2, 0, [], 0, 0), (8, 1, .iload_n 2, 0, [], 0, 0), (9, 3, .ifCond .ne 15, 24, [], 0, 0), (12, 1, .aload_n 0, 0, [], 0, 0), (13, 3, .getfield 419, 0, [], 0, 0), (16, 2, .bipush 32, 0, [], 32, 0), (18, 3, .if_icmp .ne 6, 24, [], 0, 0), (21, 2, .bipush (-6), 0, [], (-6), 0), (23, 1, .istore_n 2, 0, [], 0, 0), (24, 1, .iload_n 2, 0, [], 0, 0), (25, 3, .ifCond .eq 9, 34, [], 0, 0), (28, 1, .aload_n 0, 0, [], 0, 0), (29, 1, .iload_n 2, 0, [], 0, 0), (30, 3, .invokevirtual 253, 0, [], 0, 0), (33, 1, .ireturn, 0, [], 0, 0), (34, 1, .aload_n 0, 0, [], 0, 0), (35, 3, .getfield 115, 0, [], 0, 0), (38, 1, .aload_n 0, 0, [], 0, 0), (39, 3, .getfield 419, 0, [], 0, 0), (42, 1, .iload_n 1, 0, [], 0, 0), (43, 1, .iastore, 0, [], 0, 0), (44, 1, .aload_n 0, 0, [], 0, 0), (45, 1, .dup, 0, [], 0, 0), (46, 3, .getfield 419, 0, [], 0, 0), (49, 1, .iconst 1, 0, [], 1, 0), (50, 1, .iadd, 0, [], 0, 0), (51, 3, .putfield 419, 0, [], 0, 0), (54, 1, .aload_n 0, 0, [], 0, 0), (55, 3, .getfield 419, 0, [], 0, 0), (58, 1, .ireturn, 0, [], 0, 0)]
theorem tk_MO_row : ∀ e ∈ tab_MO_row, sTok "GathersAllFaultsModel" prog_9_method_106_code e := tab_of (by decide +kernel)
def tab_MO_judge : List sT := [(0, 1, .aload_n 0, 0, [], 0, 0), (1, 3, .getfield 419, 0, [], 0, 0), (4, 1, .istore_n 1, 0, [], 0, 0), (5, 1, .aload_n 0, 0, [], 0, 0), (6, 1, .iconst 0, 0, [], 0, 0), (7, 3, .putfield 419, 0, [], 0, 0), (10, 1, .aload_n 0, 0, [], 0, 0), (11, 3, .invokevirtual 373, 0, [], 0, 0), (14, 1, .iconst 0, 0, [], 0, 0), (15, 1, .istore_n 2, 0, [], 0, 0), (16, 1, .iload_n 2, 0, [], 0, 0), (17, 1, .iload_n 1, 0, [], 0, 0), (18, 3, .if_icmp .ge 34, 52, [], 0, 0), (21, 1, .iload_n 2, 0, [], 0, 0), (22, 1, .aload_n 0, 0, [], 0, 0), (23, 3, .getfield 159, 0, [], 0, 0), (26, 3, .if_icmp .ge 18, 44, [], 0, 0), (29, 1, .aload_n 0, 0, [], 0, 0), (30, 3, .getfield 70, 0, [], 0, 0), (33, 1, .iload_n 2, 0, [], 0, 0), (34, 1, .iaload, 0, [], 0, 0), (35, 1, .aload_n 0, 0, [], 0, 0), (36, 3, .getfield 115, 0, [], 0, 0), (39, 1, .iload_n 2, 0, [], 0, 0), (40, 1, .iaload, 0, [], 0, 0), (41, 3, .if_icmp .eq 5, 46, [], 0, 0), (44, 1, .iload_n 2, 0, [], 0, 0), (45, 1, .ireturn, 0, [], 0, 0), (46, 3, .iinc 2 1, 0, [], 1, 0), (49, 3, .goto (-33), 16, [], 0, 0), (52, 1, .iload_n 1, 0, [], 0, 0), (53, 1, .aload_n 0, 0, [], 0, 0), (54, 3, .getfield 159, 0, [], 0, 0), (57, 3, .if_icmp .ge 7, 64, [], 0, 0), (60, 1, .iload_n 1, 0, [], 0, 0), (61, 3, .goto 5, 66, [], 0, 0), (64, 2, .bipush (-9), 0, [], (-9), 0), (66, 1, .ireturn, 0, [], 0, 0)]
theorem tk_MO_judge : ∀ e ∈ tab_MO_judge, sTok "GathersAllFaultsModel" prog_9_method_107_code e := tab_of (by decide +kernel)
def tab_MO_clear : List sT := [(0, 1, .aload_n 0, 0, [], 0, 0), (1, 3, .getfield 419, 0, [], 0, 0), (4, 1, .istore_n 1, 0, [], 0, 0), (5, 1, .aload_n 0, 0, [], 0, 0), (6, 1, .iconst 0, 0, [], 0, 0), (7, 3, .putfield 419, 0, [], 0, 0), (10, 1, .iload_n 1, 0, [], 0, 0), (11, 1, .ireturn, 0, [], 0, 0)]
theorem tk_MO_clear : ∀ e ∈ tab_MO_clear, sTok "GathersAllFaultsModel" prog_9_method_108_code e := tab_of (by decide +kernel)
def tab_MO_lots : List sT := [(0, 1, .iload_n 1, 0, [], 0, 0), (1, 1, .iconst 1, 0, [], 1, 0), (2, 2, .bipush 20, 0, [], 20, 0), (4, 3, .invokestatic 246, 0, [], 0, 0), (7, 2, .istore 4, 0, [], 0, 0), (9, 2, .iload 4, 0, [], 0, 0), (11, 3, .ifCond .ne 16, 27, [], 0, 0), (14, 1, .iload_n 3, 0, [], 0, 0), (15, 1, .iconst 0, 0, [], 0, 0), (16, 1, .iconst 1, 0, [], 1, 0), (17, 3, .invokestatic 213, 0, [], 0, 0), (20, 3, .ifCond .ne 7, 27, [], 0, 0), (23, 2, .bipush (-2), 0, [], (-2), 0), (25, 2, .istore 4, 0, [], 0, 0), (27, 2, .iload 4, 0, [], 0, 0), (29, 3, .ifCond .eq 10, 39, [], 0, 0), (32, 1, .aload_n 0, 0, [], 0, 0), (33, 2, .iload 4, 0, [], 0, 0), (35, 3, .invokevirtual 253, 0, [], 0, 0), (38, 1, .ireturn, 0, [], 0, 0), (39, 1, .aload_n 0, 0, [], 0, 0), (40, 1, .iload_n 2, 0, [], 0, 0), (41, 3, .putfield 425, 0, [], 0, 0), (44, 1, .iconst 0, 0, [], 0, 0), (45, 2, .istore 5, 0, [], 0, 0), (47, 1, .iconst 0, 0, [], 0, 0), (48, 2, .istore 6, 0, [], 0, 0), (50, 2, .iload 6, 0, [], 0, 0), (52, 1, .iload_n 1, 0, [], 0, 0), (53, 3, .if_icmp .ge 66, 119, [], 0, 0), (56, 1, .aload_n 0, 0, [], 0, 0), (57, 3, .invokevirtual 389, 0, [], 0, 0), (60, 1, .iconst 0, 0, [], 0, 0), (61, 2, .istore 7, 0, [], 0, 0), (63, 2, .iload 7, 0, [], 0, 0), (65, 1, .iconst 4, 0, [], 4, 0), (66, 3, .if_icmp .ge 13, 79, [], 0, 0), (69, 1, .aload_n 0, 0, [], 0, 0), (70, 3, .invokevirtual 434, 0, [], 0, 0), (73, 3, .iinc 7 1, 0, [], 1, 0), (76, 3, .goto (-13), 63, [], 0, 0), (79, 1, .aload_n 0, 0, [], 0, 0), (80, 3, .invokevirtual 376, 0, [], 0, 0), (83, 2, .istore 7, 0, [], 0, 0), (85, 2, .iload 5, 0, [], 0, 0), (87, 1, .iload_n 3, 0, [], 0, 0), (88, 3, .ifCond .ne 8, 96, [], 0, 0), (91, 2, .iload 7, 0, [], 0, 0), (93, 3, .goto 13, 106, [], 0, 0), (96, 2, .iload 7, 0, [], 0, 0), (98, 3, .ifCond .ne 7, 105, [], 0, 0), (101, 1, .iconst 1, 0, [], 1, 0), (102, 3, .goto 4, 106, [], 0, 0), (105, 1, .iconst 0, 0, [], 0, 0), (106, 1, .iadd, 0, [], 0, 0), (107, 2, .istore 5, 0, [], 0, 0), (109, 1, .aload_n 0, 0, [], 0, 0), (110, 3, .invokevirtual 395, 0, [], 0, 0), (113, 3, .iinc 6 1, 0, [], 1, 0), (116, 3, .goto (-66), 50, [], 0, 0), (119, 2, .iload 5, 0, [], 0, 0), (121, 1, .ireturn, 0, [], 0, 0)]
theorem tk_MO_lots : ∀ e ∈ tab_MO_lots, sTok "GathersAllFaultsModel" prog_9_method_111_code e := tab_of (by decide +kernel)
def tab_MO_changesByLot : List sT := [(0, 1, .aload_n 0, 0, [], 0, 0), (1, 1, .aload_n 0, 0, [], 0, 0), (2, 3, .getfield 118, 0, [], 0, 0), (5, 3, .invokevirtual 431, 0, [], 0, 0), (8, 1, .istore_n 1, 0, [], 0, 0), (9, 1, .aload_n 0, 0, [], 0, 0), (10, 1, .iconst 4, 0, [], 4, 0), (11, 3, .invokevirtual 431, 0, [], 0, 0), (14, 3, .ifCond .ne 13, 27, [], 0, 0), (17, 1, .aload_n 0, 0, [], 0, 0), (18, 1, .iload_n 1, 0, [], 0, 0), (19, 1, .iconst 1, 0, [], 1, 0), (20, 1, .iconst 0, 0, [], 0, 0), (21, 3, .invokevirtual 370, 0, [], 0, 0), (24, 3, .goto 15, 39, [], 0, 0), (27, 1, .aload_n 0, 0, [], 0, 0), (28, 1, .iload_n 1, 0, [], 0, 0), (29, 1, .iconst 0, 0, [], 0, 0), (30, 1, .aload_n 0, 0, [], 0, 0), (31, 2, .bipush 100, 0, [], 100, 0), (33, 3, .invokevirtual 431, 0, [], 0, 0), (36, 3, .invokevirtual 370, 0, [], 0, 0), (39, 1, .return_, 0, [], 0, 0)]
theorem tk_MO_changesByLot : ∀ e ∈ tab_MO_changesByLot, sTok "GathersAllFaultsModel" prog_9_method_110_code e := tab_of (by decide +kernel)
def tab_MO_draw : List sT := [(0, 1, .aload_n 0, 0, [], 0, 0), (1, 1, .aload_n 0, 0, [], 0, 0), (2, 3, .getfield 425, 0, [], 0, 0), (5, 3, .ldc_w 428, 0, [], 1664525, 0), (8, 1, .imul, 0, [], 0, 0), (9, 3, .ldc_w 429, 0, [], 1013904223, 0), (12, 1, .iadd, 0, [], 0, 0), (13, 3, .putfield 425, 0, [], 0, 0), (16, 1, .aload_n 0, 0, [], 0, 0), (17, 3, .getfield 425, 0, [], 0, 0), (20, 3, .ldc_w 430, 0, [], 2147483647, 0), (23, 1, .iand, 0, [], 0, 0), (24, 3, .sipush 256, 0, [], 256, 0), (27, 1, .idiv, 0, [], 0, 0), (28, 1, .iload_n 1, 0, [], 0, 0), (29, 1, .irem, 0, [], 0, 0), (30, 1, .ireturn, 0, [], 0, 0)]
theorem tk_MO_draw : ∀ e ∈ tab_MO_draw, sTok "GathersAllFaultsModel" prog_9_method_109_code e := tab_of (by decide +kernel)
def tab_MO_count : List sT := [(0, 1, .iload_n 1, 0, [], 0, 0), (1, 2, .bipush 11, 0, [], 11, 0), (3, 2, .bipush 16, 0, [], 16, 0), (5, 3, .invokestatic 213, 0, [], 0, 0), (8, 3, .ifCond .eq 13, 21, [], 0, 0), (11, 1, .aload_n 0, 0, [], 0, 0), (12, 3, .getfield 7, 0, [], 0, 0), (15, 1, .iload_n 1, 0, [], 0, 0), (16, 2, .bipush 10, 0, [], 10, 0), (18, 1, .isub, 0, [], 0, 0), (19, 1, .iaload, 0, [], 0, 0), (20, 1, .ireturn, 0, [], 0, 0), (21, 1, .iload_n 1, 0, [], 0, 0), (22, 46, .tableswitch 88 0 7 #[46, 51, 56, 61, 68, 73, 78, 83], 110, [(0, 68), (1, 73), (2, 78), (3, 83), (4, 90), (5, 95), (6, 100), (7, 105)], 0, 0), (68, 1, .aload_n 0, 0, [], 0, 0), (69, 3, .getfield 118, 0, [], 0, 0), (72, 1, .ireturn, 0, [], 0, 0), (73, 1, .aload_n 0, 0, [], 0, 0), (74, 3, .getfield 122, 0, [], 0, 0), (77, 1, .ireturn, 0, [], 0, 0), (78, 1, .aload_n 0, 0, [], 0, 0), (79, 3, .invokevirtual 376, 0, [], 0, 0), (82, 1, .ireturn, 0, [], 0, 0), (83, 1, .aload_n 0, 0, [], 0, 0), (84, 2, .bipush 20, 0, [], 20, 0), (86, 3, .invokevirtual 409, 0, [], 0, 0), (89, 1, .ireturn, 0, [], 0, 0), (90, 1, .aload_n 0, 0, [], 0, 0), (91, 3, .invokevirtual 437, 0, [], 0, 0), (94, 1, .ireturn, 0, [], 0, 0), (95, 1, .aload_n 0, 0, [], 0, 0), (96, 3, .invokevirtual 440, 0, [], 0, 0), (99, 1, .ireturn, 0, [], 0, 0), (100, 1, .aload_n 0, 0, [], 0, 0), (101, 3, .getfield 419, 0, [], 0, 0), (104, 1, .ireturn, 0, [], 0, 0), (105, 1, .aload_n 0, 0, [], 0, 0), (106, 3, .getfield 250, 0, [], 0, 0), (109, 1, .ireturn, 0, [], 0, 0), (110, 2, .bipush (-9), 0, [], (-9), 0), (112, 1, .ireturn, 0, [], 0, 0)]
theorem tk_MO_count : ∀ e ∈ tab_MO_count, sTok "GathersAllFaultsModel" prog_9_method_113_code e := tab_of (by decide +kernel)
def tab_MO_greatestPath : List sT := [(0, 1, .iconst 0, 0, [], 0, 0), (1, 1, .istore_n 1, 0, [], 0, 0), (2, 1, .iconst 0, 0, [], 0, 0), (3, 1, .istore_n 2, 0, [], 0, 0), (4, 1, .iload_n 2, 0, [], 0, 0), (5, 1, .aload_n 0, 0, [], 0, 0), (6, 3, .getfield 118, 0, [], 0, 0), (9, 3, .if_icmp .ge 30, 39, [], 0, 0), (12, 1, .aload_n 0, 0, [], 0, 0), (13, 3, .getfield 25, 0, [], 0, 0), (16, 1, .iload_n 2, 0, [], 0, 0), (17, 1, .iaload, 0, [], 0, 0), (18, 1, .iload_n 1, 0, [], 0, 0), (19, 3, .if_icmp .le 12, 31, [], 0, 0), (22, 1, .aload_n 0, 0, [], 0, 0), (23, 3, .getfield 25, 0, [], 0, 0), (26, 1, .iload_n 2, 0, [], 0, 0), (27, 1, .iaload, 0, [], 0, 0), (28, 3, .goto 4, 32, [], 0, 0), (31, 1, .iload_n 1, 0, [], 0, 0), (32, 1, .istore_n 1, 0, [], 0, 0), (33, 3, .iinc 2 1, 0, [], 1, 0), (36, 3, .goto (-32), 4, [], 0, 0), (39, 1, .iload_n 1, 0, [], 0, 0), (40, 1, .ireturn, 0, [], 0, 0)]
theorem tk_MO_greatestPath : ∀ e ∈ tab_MO_greatestPath, sTok "GathersAllFaultsModel" prog_9_method_112_code e := tab_of (by decide +kernel)
end
section
/-! the fields that each class names -/
def ft_CR : List (Nat × Nat × Nat × sF) := [(150, 2, 0, (1, 1, .inr 24)), (96, 2, 3, (1, 4, .inr 24)), (143, 2, 4, (1, 5, .inr 24)), (145, 2, 5, (1, 6, .inr 24)), (129, 2, 6, (1, 7, .inr 24)), (126, 2, 7, (1, 8, .inr 24)), (69, 2, 13, (0, 0, .inl 0)), (72, 2, 14, (0, 0, .inl 0)), (153, 0, 0, (1, 1, .inr 96)), (62, 0, 1, (0, 0, .inl 0)), (22, 0, 2, (0, 0, .inl 0)), (12, 0, 4, (1, 2, .inl 2)), (18, 0, 5, (1, 16, .inr 96)), (30, 0, 6, (0, 0, .inl 0)), (51, 0, 7, (3, 0, .inl 0)), (75, 0, 8, (0, 0, .inl 0)), (78, 0, 9, (0, 0, .inl 0)), (81, 0, 10, (0, 0, .inl 0))]
theorem ft_CR_0 : fOK "GathersAllFaults$CheckReader" (150, 2, 0, (1, 1, .inr 24)) := ⟨R2_, T2_, 15, "GathersAllFaults$Plan", c2_ok, by decide, ALL_in 79 (by decide +kernel) rfl, Or.inl rfl, rfl, fun h => absurd h (by decide), fun h => absurd h (by decide), fun h => absurd h (by decide)⟩
theorem ft_CR_1 : fOK "GathersAllFaults$CheckReader" (96, 2, 3, (1, 4, .inr 24)) := ⟨R2_, T2_, 15, "GathersAllFaults$Plan", c2_ok, by decide, ALL_in 86 (by decide +kernel) rfl, Or.inl rfl, rfl, fun h => absurd h (by decide), fun h => absurd h (by decide), fun h => absurd h (by decide)⟩
theorem ft_CR_2 : fOK "GathersAllFaults$CheckReader" (143, 2, 4, (1, 5, .inr 24)) := ⟨R2_, T2_, 15, "GathersAllFaults$Plan", c2_ok, by decide, ALL_in 89 (by decide +kernel) rfl, Or.inl rfl, rfl, fun h => absurd h (by decide), fun h => absurd h (by decide), fun h => absurd h (by decide)⟩
theorem ft_CR_3 : fOK "GathersAllFaults$CheckReader" (145, 2, 5, (1, 6, .inr 24)) := ⟨R2_, T2_, 15, "GathersAllFaults$Plan", c2_ok, by decide, ALL_in 91 (by decide +kernel) rfl, Or.inl rfl, rfl, fun h => absurd h (by decide), fun h => absurd h (by decide), fun h => absurd h (by decide)⟩
theorem ft_CR_4 : fOK "GathersAllFaults$CheckReader" (129, 2, 6, (1, 7, .inr 24)) := ⟨R2_, T2_, 15, "GathersAllFaults$Plan", c2_ok, by decide, ALL_in 94 (by decide +kernel) rfl, Or.inl rfl, rfl, fun h => absurd h (by decide), fun h => absurd h (by decide), fun h => absurd h (by decide)⟩
theorem ft_CR_5 : fOK "GathersAllFaults$CheckReader" (126, 2, 7, (1, 8, .inr 24)) := ⟨R2_, T2_, 15, "GathersAllFaults$Plan", c2_ok, by decide, ALL_in 97 (by decide +kernel) rfl, Or.inl rfl, rfl, fun h => absurd h (by decide), fun h => absurd h (by decide), fun h => absurd h (by decide)⟩
theorem ft_CR_6 : fOK "GathersAllFaults$CheckReader" (69, 2, 13, (0, 0, .inl 0)) := ⟨R2_, T2_, 15, "GathersAllFaults$Plan", c2_ok, by decide, ALL_in 110 (by decide +kernel) rfl, Or.inl rfl, rfl, fun _ => ⟨by decide +kernel, rfl⟩, fun h => absurd h (by decide), fun h => absurd h (by decide)⟩
theorem ft_CR_7 : fOK "GathersAllFaults$CheckReader" (72, 2, 14, (0, 0, .inl 0)) := ⟨R2_, T2_, 15, "GathersAllFaults$Plan", c2_ok, by decide, ALL_in 112 (by decide +kernel) rfl, Or.inl rfl, rfl, fun _ => ⟨by decide +kernel, rfl⟩, fun h => absurd h (by decide), fun h => absurd h (by decide)⟩
theorem ft_CR_8 : fOK "GathersAllFaults$CheckReader" (153, 0, 0, (1, 1, .inr 96)) := ⟨R0_, T0_, 11, "GathersAllFaults$CheckReader", c0_ok, by decide, ALL_in 181 (by decide +kernel) rfl, Or.inr (ALL_in 182 (by decide +kernel) rfl), rfl, fun h => absurd h (by decide), fun h => absurd h (by decide), fun h => absurd h (by decide)⟩
theorem ft_CR_9 : fOK "GathersAllFaults$CheckReader" (62, 0, 1, (0, 0, .inl 0)) := ⟨R0_, T0_, 11, "GathersAllFaults$CheckReader", c0_ok, by decide, ALL_in 186 (by decide +kernel) rfl, Or.inr (ALL_in 187 (by decide +kernel) rfl), rfl, fun _ => ⟨by decide +kernel, rfl⟩, fun h => absurd h (by decide), fun h => absurd h (by decide)⟩
theorem ft_CR_10 : fOK "GathersAllFaults$CheckReader" (22, 0, 2, (0, 0, .inl 0)) := ⟨R0_, T0_, 11, "GathersAllFaults$CheckReader", c0_ok, by decide, ALL_in 188 (by decide +kernel) rfl, Or.inr (ALL_in 189 (by decide +kernel) rfl), rfl, fun _ => ⟨by decide +kernel, rfl⟩, fun h => absurd h (by decide), fun h => absurd h (by decide)⟩
theorem ft_CR_11 : fOK "GathersAllFaults$CheckReader" (12, 0, 4, (1, 2, .inl 2)) := ⟨R0_, T0_, 11, "GathersAllFaults$CheckReader", c0_ok, by decide, ALL_in 217 (by decide +kernel) rfl, Or.inl rfl, rfl, fun h => absurd h (by decide), fun h => absurd h (by decide), fun h => absurd h (by decide)⟩
theorem ft_CR_12 : fOK "GathersAllFaults$CheckReader" (18, 0, 5, (1, 16, .inr 96)) := ⟨R0_, T0_, 11, "GathersAllFaults$CheckReader", c0_ok, by decide, ALL_in 219 (by decide +kernel) rfl, Or.inl rfl, rfl, fun h => absurd h (by decide), fun h => absurd h (by decide), fun h => absurd h (by decide)⟩
theorem ft_CR_13 : fOK "GathersAllFaults$CheckReader" (30, 0, 6, (0, 0, .inl 0)) := ⟨R0_, T0_, 11, "GathersAllFaults$CheckReader", c0_ok, by decide, ALL_in 220 (by decide +kernel) rfl, Or.inl rfl, rfl, fun _ => ⟨by decide +kernel, rfl⟩, fun h => absurd h (by decide), fun h => absurd h (by decide)⟩
theorem ft_CR_14 : fOK "GathersAllFaults$CheckReader" (51, 0, 7, (3, 0, .inl 0)) := ⟨R0_, T0_, 11, "GathersAllFaults$CheckReader", c0_ok, by decide, ALL_in 221 (by decide +kernel) rfl, Or.inl rfl, rfl, fun h => absurd h (by decide), fun _ => ⟨by decide +kernel, rfl⟩, fun h => absurd h (by decide)⟩
theorem ft_CR_15 : fOK "GathersAllFaults$CheckReader" (75, 0, 8, (0, 0, .inl 0)) := ⟨R0_, T0_, 11, "GathersAllFaults$CheckReader", c0_ok, by decide, ALL_in 222 (by decide +kernel) rfl, Or.inl rfl, rfl, fun _ => ⟨by decide +kernel, rfl⟩, fun h => absurd h (by decide), fun h => absurd h (by decide)⟩
theorem ft_CR_16 : fOK "GathersAllFaults$CheckReader" (78, 0, 9, (0, 0, .inl 0)) := ⟨R0_, T0_, 11, "GathersAllFaults$CheckReader", c0_ok, by decide, ALL_in 223 (by decide +kernel) rfl, Or.inl rfl, rfl, fun _ => ⟨by decide +kernel, rfl⟩, fun h => absurd h (by decide), fun h => absurd h (by decide)⟩
theorem ft_CR_17 : fOK "GathersAllFaults$CheckReader" (81, 0, 10, (0, 0, .inl 0)) := ⟨R0_, T0_, 11, "GathersAllFaults$CheckReader", c0_ok, by decide, ALL_in 224 (by decide +kernel) rfl, Or.inl rfl, rfl, fun _ => ⟨by decide +kernel, rfl⟩, fun h => absurd h (by decide), fun h => absurd h (by decide)⟩
theorem ft_CR_ok : ∀ q ∈ ft_CR, fOK "GathersAllFaults$CheckReader" q := (List.forall_mem_cons.mpr ⟨ft_CR_0, (List.forall_mem_cons.mpr ⟨ft_CR_1, (List.forall_mem_cons.mpr ⟨ft_CR_2, (List.forall_mem_cons.mpr ⟨ft_CR_3, (List.forall_mem_cons.mpr ⟨ft_CR_4, (List.forall_mem_cons.mpr ⟨ft_CR_5, (List.forall_mem_cons.mpr ⟨ft_CR_6, (List.forall_mem_cons.mpr ⟨ft_CR_7, (List.forall_mem_cons.mpr ⟨ft_CR_8, (List.forall_mem_cons.mpr ⟨ft_CR_9, (List.forall_mem_cons.mpr ⟨ft_CR_10, (List.forall_mem_cons.mpr ⟨ft_CR_11, (List.forall_mem_cons.mpr ⟨ft_CR_12, (List.forall_mem_cons.mpr ⟨ft_CR_13, (List.forall_mem_cons.mpr ⟨ft_CR_14, (List.forall_mem_cons.mpr ⟨ft_CR_15, (List.forall_mem_cons.mpr ⟨ft_CR_16, (List.forall_mem_cons.mpr ⟨ft_CR_17, (fun _ h => absurd h List.not_mem_nil)⟩)⟩)⟩)⟩)⟩)⟩)⟩)⟩)⟩)⟩)⟩)⟩)⟩)⟩)⟩)⟩)⟩)⟩)
def ft_GA : List (Nat × Nat × Nat × sF) := [(83, 3, 0, (1, 1, .inr 20)), (92, 3, 1, (1, 2, .inr 20)), (101, 3, 2, (1, 3, .inr 20)), (132, 3, 3, (1, 4, .inr 20)), (104, 3, 4, (1, 5, .inr 20)), (86, 3, 5, (1, 6, .inr 20)), (60, 2, 0, (1, 1, .inr 24)), (95, 2, 1, (1, 2, .inr 24)), (98, 2, 2, (1, 3, .inr 24)), (76, 2, 3, (1, 4, .inr 24)), (123, 2, 4, (1, 5, .inr 24)), (129, 2, 5, (1, 6, .inr 24)), (120, 2, 6, (1, 7, .inr 24)), (111, 2, 8, (1, 9, .inr 24)), (114, 2, 9, (1, 10, .inr 24)), (145, 2, 10, (1, 11, .inr 32)), (136, 2, 11, (1, 12, .inr 32)), (139, 2, 12, (1, 13, .inr 32)), (12, 1, 0, (1, 1, .inl 2)), (21, 1, 1, (2, 0, .inl 3)), (25, 1, 2, (1, 22, .inr 6144)), (29, 1, 3, (0, 0, .inl 0)), (33, 1, 4, (0, 0, .inl 0))]
theorem ft_GA_0 : fOK "GathersAllFaults$Gatherer" (83, 3, 0, (1, 1, .inr 20)) := ⟨R3_, T3_, 7, "GathersAllFaults$Tree", c3_ok, by decide, ALL_in 29 (by decide +kernel) rfl, Or.inl rfl, rfl, fun h => absurd h (by decide), fun h => absurd h (by decide), fun h => absurd h (by decide)⟩
theorem ft_GA_1 : fOK "GathersAllFaults$Gatherer" (92, 3, 1, (1, 2, .inr 20)) := ⟨R3_, T3_, 7, "GathersAllFaults$Tree", c3_ok, by decide, ALL_in 32 (by decide +kernel) rfl, Or.inl rfl, rfl, fun h => absurd h (by decide), fun h => absurd h (by decide), fun h => absurd h (by decide)⟩
theorem ft_GA_2 : fOK "GathersAllFaults$Gatherer" (101, 3, 2, (1, 3, .inr 20)) := ⟨R3_, T3_, 7, "GathersAllFaults$Tree", c3_ok, by decide, ALL_in 36 (by decide +kernel) rfl, Or.inl rfl, rfl, fun h => absurd h (by decide), fun h => absurd h (by decide), fun h => absurd h (by decide)⟩
theorem ft_GA_3 : fOK "GathersAllFaults$Gatherer" (132, 3, 3, (1, 4, .inr 20)) := ⟨R3_, T3_, 7, "GathersAllFaults$Tree", c3_ok, by decide, ALL_in 38 (by decide +kernel) rfl, Or.inl rfl, rfl, fun h => absurd h (by decide), fun h => absurd h (by decide), fun h => absurd h (by decide)⟩
theorem ft_GA_4 : fOK "GathersAllFaults$Gatherer" (104, 3, 4, (1, 5, .inr 20)) := ⟨R3_, T3_, 7, "GathersAllFaults$Tree", c3_ok, by decide, ALL_in 42 (by decide +kernel) rfl, Or.inl rfl, rfl, fun h => absurd h (by decide), fun h => absurd h (by decide), fun h => absurd h (by decide)⟩
theorem ft_GA_5 : fOK "GathersAllFaults$Gatherer" (86, 3, 5, (1, 6, .inr 20)) := ⟨R3_, T3_, 7, "GathersAllFaults$Tree", c3_ok, by decide, ALL_in 45 (by decide +kernel) rfl, Or.inl rfl, rfl, fun h => absurd h (by decide), fun h => absurd h (by decide), fun h => absurd h (by decide)⟩
theorem ft_GA_6 : fOK "GathersAllFaults$Gatherer" (60, 2, 0, (1, 1, .inr 24)) := ⟨R2_, T2_, 15, "GathersAllFaults$Plan", c2_ok, by decide, ALL_in 78 (by decide +kernel) rfl, Or.inl rfl, rfl, fun h => absurd h (by decide), fun h => absurd h (by decide), fun h => absurd h (by decide)⟩
theorem ft_GA_7 : fOK "GathersAllFaults$Gatherer" (95, 2, 1, (1, 2, .inr 24)) := ⟨R2_, T2_, 15, "GathersAllFaults$Plan", c2_ok, by decide, ALL_in 81 (by decide +kernel) rfl, Or.inl rfl, rfl, fun h => absurd h (by decide), fun h => absurd h (by decide), fun h => absurd h (by decide)⟩
theorem ft_GA_8 : fOK "GathersAllFaults$Gatherer" (98, 2, 2, (1, 3, .inr 24)) := ⟨R2_, T2_, 15, "GathersAllFaults$Plan", c2_ok, by decide, ALL_in 83 (by decide +kernel) rfl, Or.inl rfl, rfl, fun h => absurd h (by decide), fun h => absurd h (by decide), fun h => absurd h (by decide)⟩
theorem ft_GA_9 : fOK "GathersAllFaults$Gatherer" (76, 2, 3, (1, 4, .inr 24)) := ⟨R2_, T2_, 15, "GathersAllFaults$Plan", c2_ok, by decide, ALL_in 85 (by decide +kernel) rfl, Or.inl rfl, rfl, fun h => absurd h (by decide), fun h => absurd h (by decide), fun h => absurd h (by decide)⟩
theorem ft_GA_10 : fOK "GathersAllFaults$Gatherer" (123, 2, 4, (1, 5, .inr 24)) := ⟨R2_, T2_, 15, "GathersAllFaults$Plan", c2_ok, by decide, ALL_in 88 (by decide +kernel) rfl, Or.inl rfl, rfl, fun h => absurd h (by decide), fun h => absurd h (by decide), fun h => absurd h (by decide)⟩
theorem ft_GA_11 : fOK "GathersAllFaults$Gatherer" (129, 2, 5, (1, 6, .inr 24)) := ⟨R2_, T2_, 15, "GathersAllFaults$Plan", c2_ok, by decide, ALL_in 92 (by decide +kernel) rfl, Or.inl rfl, rfl, fun h => absurd h (by decide), fun h => absurd h (by decide), fun h => absurd h (by decide)⟩
theorem ft_GA_12 : fOK "GathersAllFaults$Gatherer" (120, 2, 6, (1, 7, .inr 24)) := ⟨R2_, T2_, 15, "GathersAllFaults$Plan", c2_ok, by decide, ALL_in 95 (by decide +kernel) rfl, Or.inl rfl, rfl, fun h => absurd h (by decide), fun h => absurd h (by decide), fun h => absurd h (by decide)⟩
theorem ft_GA_13 : fOK "GathersAllFaults$Gatherer" (111, 2, 8, (1, 9, .inr 24)) := ⟨R2_, T2_, 15, "GathersAllFaults$Plan", c2_ok, by decide, ALL_in 99 (by decide +kernel) rfl, Or.inl rfl, rfl, fun h => absurd h (by decide), fun h => absurd h (by decide), fun h => absurd h (by decide)⟩
theorem ft_GA_14 : fOK "GathersAllFaults$Gatherer" (114, 2, 9, (1, 10, .inr 24)) := ⟨R2_, T2_, 15, "GathersAllFaults$Plan", c2_ok, by decide, ALL_in 101 (by decide +kernel) rfl, Or.inl rfl, rfl, fun h => absurd h (by decide), fun h => absurd h (by decide), fun h => absurd h (by decide)⟩
theorem ft_GA_15 : fOK "GathersAllFaults$Gatherer" (145, 2, 10, (1, 11, .inr 32)) := ⟨R2_, T2_, 15, "GathersAllFaults$Plan", c2_ok, by decide, ALL_in 103 (by decide +kernel) rfl, Or.inl rfl, rfl, fun h => absurd h (by decide), fun h => absurd h (by decide), fun h => absurd h (by decide)⟩
theorem ft_GA_16 : fOK "GathersAllFaults$Gatherer" (136, 2, 11, (1, 12, .inr 32)) := ⟨R2_, T2_, 15, "GathersAllFaults$Plan", c2_ok, by decide, ALL_in 105 (by decide +kernel) rfl, Or.inl rfl, rfl, fun h => absurd h (by decide), fun h => absurd h (by decide), fun h => absurd h (by decide)⟩
theorem ft_GA_17 : fOK "GathersAllFaults$Gatherer" (139, 2, 12, (1, 13, .inr 32)) := ⟨R2_, T2_, 15, "GathersAllFaults$Plan", c2_ok, by decide, ALL_in 107 (by decide +kernel) rfl, Or.inl rfl, rfl, fun h => absurd h (by decide), fun h => absurd h (by decide), fun h => absurd h (by decide)⟩
theorem ft_GA_18 : fOK "GathersAllFaults$Gatherer" (12, 1, 0, (1, 1, .inl 2)) := ⟨R1_, T1_, 5, "GathersAllFaults$Gatherer", c1_ok, by decide, ALL_in 146 (by decide +kernel) rfl, Or.inl rfl, rfl, fun h => absurd h (by decide), fun h => absurd h (by decide), fun h => absurd h (by decide)⟩
theorem ft_GA_19 : fOK "GathersAllFaults$Gatherer" (21, 1, 1, (2, 0, .inl 3)) := ⟨R1_, T1_, 5, "GathersAllFaults$Gatherer", c1_ok, by decide, ALL_in 148 (by decide +kernel) rfl, Or.inl rfl, rfl, fun h => absurd h (by decide), fun h => absurd h (by decide), fun _ => ⟨"GathersAllFaults$Tree", by decide +kernel, rfl⟩⟩
theorem ft_GA_20 : fOK "GathersAllFaults$Gatherer" (25, 1, 2, (1, 22, .inr 6144)) := ⟨R1_, T1_, 5, "GathersAllFaults$Gatherer", c1_ok, by decide, ALL_in 149 (by decide +kernel) rfl, Or.inl rfl, rfl, fun h => absurd h (by decide), fun h => absurd h (by decide), fun h => absurd h (by decide)⟩
theorem ft_GA_21 : fOK "GathersAllFaults$Gatherer" (29, 1, 3, (0, 0, .inl 0)) := ⟨R1_, T1_, 5, "GathersAllFaults$Gatherer", c1_ok, by decide, ALL_in 151 (by decide +kernel) rfl, Or.inl rfl, rfl, fun _ => ⟨by decide +kernel, rfl⟩, fun h => absurd h (by decide), fun h => absurd h (by decide)⟩
theorem ft_GA_22 : fOK "GathersAllFaults$Gatherer" (33, 1, 4, (0, 0, .inl 0)) := ⟨R1_, T1_, 5, "GathersAllFaults$Gatherer", c1_ok, by decide, ALL_in 153 (by decide +kernel) rfl, Or.inl rfl, rfl, fun _ => ⟨by decide +kernel, rfl⟩, fun h => absurd h (by decide), fun h => absurd h (by decide)⟩
theorem ft_GA_ok : ∀ q ∈ ft_GA, fOK "GathersAllFaults$Gatherer" q := (List.forall_mem_cons.mpr ⟨ft_GA_0, (List.forall_mem_cons.mpr ⟨ft_GA_1, (List.forall_mem_cons.mpr ⟨ft_GA_2, (List.forall_mem_cons.mpr ⟨ft_GA_3, (List.forall_mem_cons.mpr ⟨ft_GA_4, (List.forall_mem_cons.mpr ⟨ft_GA_5, (List.forall_mem_cons.mpr ⟨ft_GA_6, (List.forall_mem_cons.mpr ⟨ft_GA_7, (List.forall_mem_cons.mpr ⟨ft_GA_8, (List.forall_mem_cons.mpr ⟨ft_GA_9, (List.forall_mem_cons.mpr ⟨ft_GA_10, (List.forall_mem_cons.mpr ⟨ft_GA_11, (List.forall_mem_cons.mpr ⟨ft_GA_12, (List.forall_mem_cons.mpr ⟨ft_GA_13, (List.forall_mem_cons.mpr ⟨ft_GA_14, (List.forall_mem_cons.mpr ⟨ft_GA_15, (List.forall_mem_cons.mpr ⟨ft_GA_16, (List.forall_mem_cons.mpr ⟨ft_GA_17, (List.forall_mem_cons.mpr ⟨ft_GA_18, (List.forall_mem_cons.mpr ⟨ft_GA_19, (List.forall_mem_cons.mpr ⟨ft_GA_20, (List.forall_mem_cons.mpr ⟨ft_GA_21, (List.forall_mem_cons.mpr ⟨ft_GA_22, (fun _ h => absurd h List.not_mem_nil)⟩)⟩)⟩)⟩)⟩)⟩)⟩)⟩)⟩)⟩)⟩)⟩)⟩)⟩)⟩)⟩)⟩)⟩)⟩)⟩)⟩)⟩)⟩)
def ft_PL : List (Nat × Nat × Nat × sF) := [(9, 2, 0, (1, 1, .inr 24)), (15, 2, 1, (1, 2, .inr 24)), (18, 2, 2, (1, 3, .inr 24)), (21, 2, 3, (1, 4, .inr 24)), (24, 2, 4, (1, 5, .inr 24)), (27, 2, 5, (1, 6, .inr 24)), (30, 2, 6, (1, 7, .inr 24)), (33, 2, 7, (1, 8, .inr 24)), (36, 2, 8, (1, 9, .inr 24)), (39, 2, 9, (1, 10, .inr 24)), (42, 2, 10, (1, 11, .inr 32)), (45, 2, 11, (1, 12, .inr 32)), (48, 2, 12, (1, 13, .inr 32)), (51, 2, 13, (0, 0, .inl 0)), (59, 2, 14, (0, 0, .inl 0))]
theorem ft_PL_0 : fOK "GathersAllFaults$Plan" (9, 2, 0, (1, 1, .inr 24)) := ⟨R2_, T2_, 15, "GathersAllFaults$Plan", c2_ok, by decide, ALL_in 77 (by decide +kernel) rfl, Or.inl rfl, rfl, fun h => absurd h (by decide), fun h => absurd h (by decide), fun h => absurd h (by decide)⟩
theorem ft_PL_1 : fOK "GathersAllFaults$Plan" (15, 2, 1, (1, 2, .inr 24)) := ⟨R2_, T2_, 15, "GathersAllFaults$Plan", c2_ok, by decide, ALL_in 80 (by decide +kernel) rfl, Or.inl rfl, rfl, fun h => absurd h (by decide), fun h => absurd h (by decide), fun h => absurd h (by decide)⟩
theorem ft_PL_2 : fOK "GathersAllFaults$Plan" (18, 2, 2, (1, 3, .inr 24)) := ⟨R2_, T2_, 15, "GathersAllFaults$Plan", c2_ok, by decide, ALL_in 82 (by decide +kernel) rfl, Or.inl rfl, rfl, fun h => absurd h (by decide), fun h => absurd h (by decide), fun h => absurd h (by decide)⟩
theorem ft_PL_3 : fOK "GathersAllFaults$Plan" (21, 2, 3, (1, 4, .inr 24)) := ⟨R2_, T2_, 15, "GathersAllFaults$Plan", c2_ok, by decide, ALL_in 84 (by decide +kernel) rfl, Or.inl rfl, rfl, fun h => absurd h (by decide), fun h => absurd h (by decide), fun h => absurd h (by decide)⟩
theorem ft_PL_4 : fOK "GathersAllFaults$Plan" (24, 2, 4, (1, 5, .inr 24)) := ⟨R2_, T2_, 15, "GathersAllFaults$Plan", c2_ok, by decide, ALL_in 87 (by decide +kernel) rfl, Or.inl rfl, rfl, fun h => absurd h (by decide), fun h => absurd h (by decide), fun h => absurd h (by decide)⟩
theorem ft_PL_5 : fOK "GathersAllFaults$Plan" (27, 2, 5, (1, 6, .inr 24)) := ⟨R2_, T2_, 15, "GathersAllFaults$Plan", c2_ok, by decide, ALL_in 90 (by decide +kernel) rfl, Or.inl rfl, rfl, fun h => absurd h (by decide), fun h => absurd h (by decide), fun h => absurd h (by decide)⟩
theorem ft_PL_6 : fOK "GathersAllFaults$Plan" (30, 2, 6, (1, 7, .inr 24)) := ⟨R2_, T2_, 15, "GathersAllFaults$Plan", c2_ok, by decide, ALL_in 93 (by decide +kernel) rfl, Or.inl rfl, rfl, fun h => absurd h (by decide), fun h => absurd h (by decide), fun h => absurd h (by decide)⟩
theorem ft_PL_7 : fOK "GathersAllFaults$Plan" (33, 2, 7, (1, 8, .inr 24)) := ⟨R2_, T2_, 15, "GathersAllFaults$Plan", c2_ok, by decide, ALL_in 96 (by decide +kernel) rfl, Or.inl rfl, rfl, fun h => absurd h (by decide), fun h => absurd h (by decide), fun h => absurd h (by decide)⟩
theorem ft_PL_8 : fOK "GathersAllFaults$Plan" (36, 2, 8, (1, 9, .inr 24)) := ⟨R2_, T2_, 15, "GathersAllFaults$Plan", c2_ok, by decide, ALL_in 98 (by decide +kernel) rfl, Or.inl rfl, rfl, fun h => absurd h (by decide), fun h => absurd h (by decide), fun h => absurd h (by decide)⟩
theorem ft_PL_9 : fOK "GathersAllFaults$Plan" (39, 2, 9, (1, 10, .inr 24)) := ⟨R2_, T2_, 15, "GathersAllFaults$Plan", c2_ok, by decide, ALL_in 100 (by decide +kernel) rfl, Or.inl rfl, rfl, fun h => absurd h (by decide), fun h => absurd h (by decide), fun h => absurd h (by decide)⟩
theorem ft_PL_10 : fOK "GathersAllFaults$Plan" (42, 2, 10, (1, 11, .inr 32)) := ⟨R2_, T2_, 15, "GathersAllFaults$Plan", c2_ok, by decide, ALL_in 102 (by decide +kernel) rfl, Or.inl rfl, rfl, fun h => absurd h (by decide), fun h => absurd h (by decide), fun h => absurd h (by decide)⟩
theorem ft_PL_11 : fOK "GathersAllFaults$Plan" (45, 2, 11, (1, 12, .inr 32)) := ⟨R2_, T2_, 15, "GathersAllFaults$Plan", c2_ok, by decide, ALL_in 104 (by decide +kernel) rfl, Or.inl rfl, rfl, fun h => absurd h (by decide), fun h => absurd h (by decide), fun h => absurd h (by decide)⟩
theorem ft_PL_12 : fOK "GathersAllFaults$Plan" (48, 2, 12, (1, 13, .inr 32)) := ⟨R2_, T2_, 15, "GathersAllFaults$Plan", c2_ok, by decide, ALL_in 106 (by decide +kernel) rfl, Or.inl rfl, rfl, fun h => absurd h (by decide), fun h => absurd h (by decide), fun h => absurd h (by decide)⟩
theorem ft_PL_13 : fOK "GathersAllFaults$Plan" (51, 2, 13, (0, 0, .inl 0)) := ⟨R2_, T2_, 15, "GathersAllFaults$Plan", c2_ok, by decide, ALL_in 108 (by decide +kernel) rfl, Or.inl rfl, rfl, fun _ => ⟨by decide +kernel, rfl⟩, fun h => absurd h (by decide), fun h => absurd h (by decide)⟩
theorem ft_PL_14 : fOK "GathersAllFaults$Plan" (59, 2, 14, (0, 0, .inl 0)) := ⟨R2_, T2_, 15, "GathersAllFaults$Plan", c2_ok, by decide, ALL_in 111 (by decide +kernel) rfl, Or.inl rfl, rfl, fun _ => ⟨by decide +kernel, rfl⟩, fun h => absurd h (by decide), fun h => absurd h (by decide)⟩
theorem ft_PL_ok : ∀ q ∈ ft_PL, fOK "GathersAllFaults$Plan" q := (List.forall_mem_cons.mpr ⟨ft_PL_0, (List.forall_mem_cons.mpr ⟨ft_PL_1, (List.forall_mem_cons.mpr ⟨ft_PL_2, (List.forall_mem_cons.mpr ⟨ft_PL_3, (List.forall_mem_cons.mpr ⟨ft_PL_4, (List.forall_mem_cons.mpr ⟨ft_PL_5, (List.forall_mem_cons.mpr ⟨ft_PL_6, (List.forall_mem_cons.mpr ⟨ft_PL_7, (List.forall_mem_cons.mpr ⟨ft_PL_8, (List.forall_mem_cons.mpr ⟨ft_PL_9, (List.forall_mem_cons.mpr ⟨ft_PL_10, (List.forall_mem_cons.mpr ⟨ft_PL_11, (List.forall_mem_cons.mpr ⟨ft_PL_12, (List.forall_mem_cons.mpr ⟨ft_PL_13, (List.forall_mem_cons.mpr ⟨ft_PL_14, (fun _ h => absurd h List.not_mem_nil)⟩)⟩)⟩)⟩)⟩)⟩)⟩)⟩)⟩)⟩)⟩)⟩)⟩)⟩)⟩)
def ft_TR : List (Nat × Nat × Nat × sF) := [(9, 3, 0, (1, 1, .inr 20)), (15, 3, 1, (1, 2, .inr 20)), (18, 3, 2, (1, 3, .inr 20)), (21, 3, 3, (1, 4, .inr 20)), (24, 3, 4, (1, 5, .inr 20)), (27, 3, 5, (1, 6, .inr 20)), (30, 3, 6, (0, 0, .inl 0))]
theorem ft_TR_0 : fOK "GathersAllFaults$Tree" (9, 3, 0, (1, 1, .inr 20)) := ⟨R3_, T3_, 7, "GathersAllFaults$Tree", c3_ok, by decide, ALL_in 26 (by decide +kernel) rfl, Or.inl rfl, rfl, fun h => absurd h (by decide), fun h => absurd h (by decide), fun h => absurd h (by decide)⟩
theorem ft_TR_1 : fOK "GathersAllFaults$Tree" (15, 3, 1, (1, 2, .inr 20)) := ⟨R3_, T3_, 7, "GathersAllFaults$Tree", c3_ok, by decide, ALL_in 30 (by decide +kernel) rfl, Or.inl rfl, rfl, fun h => absurd h (by decide), fun h => absurd h (by decide), fun h => absurd h (by decide)⟩
theorem ft_TR_2 : fOK "GathersAllFaults$Tree" (18, 3, 2, (1, 3, .inr 20)) := ⟨R3_, T3_, 7, "GathersAllFaults$Tree", c3_ok, by decide, ALL_in 33 (by decide +kernel) rfl, Or.inl rfl, rfl, fun h => absurd h (by decide), fun h => absurd h (by decide), fun h => absurd h (by decide)⟩
theorem ft_TR_3 : fOK "GathersAllFaults$Tree" (21, 3, 3, (1, 4, .inr 20)) := ⟨R3_, T3_, 7, "GathersAllFaults$Tree", c3_ok, by decide, ALL_in 37 (by decide +kernel) rfl, Or.inl rfl, rfl, fun h => absurd h (by decide), fun h => absurd h (by decide), fun h => absurd h (by decide)⟩
theorem ft_TR_4 : fOK "GathersAllFaults$Tree" (24, 3, 4, (1, 5, .inr 20)) := ⟨R3_, T3_, 7, "GathersAllFaults$Tree", c3_ok, by decide, ALL_in 39 (by decide +kernel) rfl, Or.inl rfl, rfl, fun h => absurd h (by decide), fun h => absurd h (by decide), fun h => absurd h (by decide)⟩
theorem ft_TR_5 : fOK "GathersAllFaults$Tree" (27, 3, 5, (1, 6, .inr 20)) := ⟨R3_, T3_, 7, "GathersAllFaults$Tree", c3_ok, by decide, ALL_in 43 (by decide +kernel) rfl, Or.inl rfl, rfl, fun h => absurd h (by decide), fun h => absurd h (by decide), fun h => absurd h (by decide)⟩
theorem ft_TR_6 : fOK "GathersAllFaults$Tree" (30, 3, 6, (0, 0, .inl 0)) := ⟨R3_, T3_, 7, "GathersAllFaults$Tree", c3_ok, by decide, ALL_in 46 (by decide +kernel) rfl, Or.inl rfl, rfl, fun _ => ⟨by decide +kernel, rfl⟩, fun h => absurd h (by decide), fun h => absurd h (by decide)⟩
theorem ft_TR_ok : ∀ q ∈ ft_TR, fOK "GathersAllFaults$Tree" q := (List.forall_mem_cons.mpr ⟨ft_TR_0, (List.forall_mem_cons.mpr ⟨ft_TR_1, (List.forall_mem_cons.mpr ⟨ft_TR_2, (List.forall_mem_cons.mpr ⟨ft_TR_3, (List.forall_mem_cons.mpr ⟨ft_TR_4, (List.forall_mem_cons.mpr ⟨ft_TR_5, (List.forall_mem_cons.mpr ⟨ft_TR_6, (fun _ h => absurd h List.not_mem_nil)⟩)⟩)⟩)⟩)⟩)⟩)⟩)
def ft_VR : List (Nat × Nat × Nat × sF) := [(96, 3, 0, (1, 1, .inr 20)), (93, 3, 2, (1, 3, .inr 20)), (77, 3, 4, (1, 5, .inr 20)), (57, 3, 6, (0, 0, .inl 0)), (12, 4, 4, (1, 2, .inl 3)), (60, 4, 5, (0, 0, .inl 0)), (50, 4, 1, (0, 0, .inl 0)), (26, 4, 2, (0, 0, .inl 0)), (18, 4, 3, (3, 0, .inl 0))]
theorem ft_VR_0 : fOK "GathersAllFaults$ValueReader" (96, 3, 0, (1, 1, .inr 20)) := ⟨R3_, T3_, 7, "GathersAllFaults$Tree", c3_ok, by decide, ALL_in 28 (by decide +kernel) rfl, Or.inl rfl, rfl, fun h => absurd h (by decide), fun h => absurd h (by decide), fun h => absurd h (by decide)⟩
theorem ft_VR_1 : fOK "GathersAllFaults$ValueReader" (93, 3, 2, (1, 3, .inr 20)) := ⟨R3_, T3_, 7, "GathersAllFaults$Tree", c3_ok, by decide, ALL_in 35 (by decide +kernel) rfl, Or.inl rfl, rfl, fun h => absurd h (by decide), fun h => absurd h (by decide), fun h => absurd h (by decide)⟩
theorem ft_VR_2 : fOK "GathersAllFaults$ValueReader" (77, 3, 4, (1, 5, .inr 20)) := ⟨R3_, T3_, 7, "GathersAllFaults$Tree", c3_ok, by decide, ALL_in 41 (by decide +kernel) rfl, Or.inl rfl, rfl, fun h => absurd h (by decide), fun h => absurd h (by decide), fun h => absurd h (by decide)⟩
theorem ft_VR_3 : fOK "GathersAllFaults$ValueReader" (57, 3, 6, (0, 0, .inl 0)) := ⟨R3_, T3_, 7, "GathersAllFaults$Tree", c3_ok, by decide, ALL_in 48 (by decide +kernel) rfl, Or.inl rfl, rfl, fun _ => ⟨by decide +kernel, rfl⟩, fun h => absurd h (by decide), fun h => absurd h (by decide)⟩
theorem ft_VR_4 : fOK "GathersAllFaults$ValueReader" (12, 4, 4, (1, 2, .inl 3)) := ⟨R4_, T4_, 6, "GathersAllFaults$ValueReader", c4_ok, by decide, ALL_in 177 (by decide +kernel) rfl, Or.inl rfl, rfl, fun h => absurd h (by decide), fun h => absurd h (by decide), fun h => absurd h (by decide)⟩
theorem ft_VR_5 : fOK "GathersAllFaults$ValueReader" (60, 4, 5, (0, 0, .inl 0)) := ⟨R4_, T4_, 6, "GathersAllFaults$ValueReader", c4_ok, by decide, ALL_in 179 (by decide +kernel) rfl, Or.inl rfl, rfl, fun _ => ⟨by decide +kernel, rfl⟩, fun h => absurd h (by decide), fun h => absurd h (by decide)⟩
theorem ft_VR_6 : fOK "GathersAllFaults$ValueReader" (50, 4, 1, (0, 0, .inl 0)) := ⟨R4_, T4_, 6, "GathersAllFaults$ValueReader", c4_ok, by decide, ALL_in 184 (by decide +kernel) rfl, Or.inr (ALL_in 185 (by decide +kernel) rfl), rfl, fun _ => ⟨by decide +kernel, rfl⟩, fun h => absurd h (by decide), fun h => absurd h (by decide)⟩
theorem ft_VR_7 : fOK "GathersAllFaults$ValueReader" (26, 4, 2, (0, 0, .inl 0)) := ⟨R4_, T4_, 6, "GathersAllFaults$ValueReader", c4_ok, by decide, ALL_in 190 (by decide +kernel) rfl, Or.inr (ALL_in 191 (by decide +kernel) rfl), rfl, fun _ => ⟨by decide +kernel, rfl⟩, fun h => absurd h (by decide), fun h => absurd h (by decide)⟩
theorem ft_VR_8 : fOK "GathersAllFaults$ValueReader" (18, 4, 3, (3, 0, .inl 0)) := ⟨R4_, T4_, 6, "GathersAllFaults$ValueReader", c4_ok, by decide, ALL_in 193 (by decide +kernel) rfl, Or.inr (ALL_in 194 (by decide +kernel) rfl), rfl, fun h => absurd h (by decide), fun _ => ⟨by decide +kernel, rfl⟩, fun h => absurd h (by decide)⟩
theorem ft_VR_ok : ∀ q ∈ ft_VR, fOK "GathersAllFaults$ValueReader" q := (List.forall_mem_cons.mpr ⟨ft_VR_0, (List.forall_mem_cons.mpr ⟨ft_VR_1, (List.forall_mem_cons.mpr ⟨ft_VR_2, (List.forall_mem_cons.mpr ⟨ft_VR_3, (List.forall_mem_cons.mpr ⟨ft_VR_4, (List.forall_mem_cons.mpr ⟨ft_VR_5, (List.forall_mem_cons.mpr ⟨ft_VR_6, (List.forall_mem_cons.mpr ⟨ft_VR_7, (List.forall_mem_cons.mpr ⟨ft_VR_8, (fun _ h => absurd h List.not_mem_nil)⟩)⟩)⟩)⟩)⟩)⟩)⟩)⟩)⟩)
def ft_GF : List (Nat × Nat × Nat × sF) := [(99, 3, 0, (1, 1, .inr 20)), (105, 3, 1, (1, 2, .inr 20)), (108, 3, 2, (1, 3, .inr 20)), (111, 3, 4, (1, 5, .inr 20)), (114, 3, 5, (1, 6, .inr 20)), (83, 3, 6, (0, 0, .inl 0)), (95, 2, 13, (0, 0, .inl 0)), (87, 1, 0, (1, 1, .inl 2)), (142, 1, 2, (1, 22, .inr 6144)), (216, 1, 3, (0, 0, .inl 0)), (139, 1, 4, (0, 0, .inl 0)), (76, 4, 4, (1, 2, .inl 3)), (90, 0, 4, (1, 2, .inl 2)), (10, 5, 0, (1, 1, .inl 3)), (16, 5, 1, (1, 8, .inl 3)), (22, 5, 2, (1, 15, .inl 1)), (29, 5, 3, (1, 38, .inl 4)), (36, 5, 4, (1, 47, .inl 0)), (40, 5, 5, (1, 64, .inr 96)), (64, 5, 6, (0, 0, .inl 0)), (44, 5, 7, (1, 65, .inr 32)), (192, 5, 8, (0, 0, .inl 0)), (47, 5, 9, (1, 66, .inr 7)), (50, 5, 10, (1, 67, .inl 3)), (56, 5, 11, (1, 74, .inl 2)), (201, 5, 12, (3, 0, .inl 0)), (195, 5, 13, (0, 0, .inl 0))]
theorem ft_GF_0 : fOK "GathersAllFaults" (99, 3, 0, (1, 1, .inr 20)) := ⟨R3_, T3_, 7, "GathersAllFaults$Tree", c3_ok, by decide, ALL_in 27 (by decide +kernel) rfl, Or.inl rfl, rfl, fun h => absurd h (by decide), fun h => absurd h (by decide), fun h => absurd h (by decide)⟩
theorem ft_GF_1 : fOK "GathersAllFaults" (105, 3, 1, (1, 2, .inr 20)) := ⟨R3_, T3_, 7, "GathersAllFaults$Tree", c3_ok, by decide, ALL_in 31 (by decide +kernel) rfl, Or.inl rfl, rfl, fun h => absurd h (by decide), fun h => absurd h (by decide), fun h => absurd h (by decide)⟩
theorem ft_GF_2 : fOK "GathersAllFaults" (108, 3, 2, (1, 3, .inr 20)) := ⟨R3_, T3_, 7, "GathersAllFaults$Tree", c3_ok, by decide, ALL_in 34 (by decide +kernel) rfl, Or.inl rfl, rfl, fun h => absurd h (by decide), fun h => absurd h (by decide), fun h => absurd h (by decide)⟩
theorem ft_GF_3 : fOK "GathersAllFaults" (111, 3, 4, (1, 5, .inr 20)) := ⟨R3_, T3_, 7, "GathersAllFaults$Tree", c3_ok, by decide, ALL_in 40 (by decide +kernel) rfl, Or.inl rfl, rfl, fun h => absurd h (by decide), fun h => absurd h (by decide), fun h => absurd h (by decide)⟩
theorem ft_GF_4 : fOK "GathersAllFaults" (114, 3, 5, (1, 6, .inr 20)) := ⟨R3_, T3_, 7, "GathersAllFaults$Tree", c3_ok, by decide, ALL_in 44 (by decide +kernel) rfl, Or.inl rfl, rfl, fun h => absurd h (by decide), fun h => absurd h (by decide), fun h => absurd h (by decide)⟩
theorem ft_GF_5 : fOK "GathersAllFaults" (83, 3, 6, (0, 0, .inl 0)) := ⟨R3_, T3_, 7, "GathersAllFaults$Tree", c3_ok, by decide, ALL_in 47 (by decide +kernel) rfl, Or.inl rfl, rfl, fun _ => ⟨by decide +kernel, rfl⟩, fun h => absurd h (by decide), fun h => absurd h (by decide)⟩
theorem ft_GF_6 : fOK "GathersAllFaults" (95, 2, 13, (0, 0, .inl 0)) := ⟨R2_, T2_, 15, "GathersAllFaults$Plan", c2_ok, by decide, ALL_in 109 (by decide +kernel) rfl, Or.inl rfl, rfl, fun _ => ⟨by decide +kernel, rfl⟩, fun h => absurd h (by decide), fun h => absurd h (by decide)⟩
theorem ft_GF_7 : fOK "GathersAllFaults" (87, 1, 0, (1, 1, .inl 2)) := ⟨R1_, T1_, 5, "GathersAllFaults$Gatherer", c1_ok, by decide, ALL_in 147 (by decide +kernel) rfl, Or.inl rfl, rfl, fun h => absurd h (by decide), fun h => absurd h (by decide), fun h => absurd h (by decide)⟩
theorem ft_GF_8 : fOK "GathersAllFaults" (142, 1, 2, (1, 22, .inr 6144)) := ⟨R1_, T1_, 5, "GathersAllFaults$Gatherer", c1_ok, by decide, ALL_in 150 (by decide +kernel) rfl, Or.inl rfl, rfl, fun h => absurd h (by decide), fun h => absurd h (by decide), fun h => absurd h (by decide)⟩
theorem ft_GF_9 : fOK "GathersAllFaults" (216, 1, 3, (0, 0, .inl 0)) := ⟨R1_, T1_, 5, "GathersAllFaults$Gatherer", c1_ok, by decide, ALL_in 152 (by decide +kernel) rfl, Or.inl rfl, rfl, fun _ => ⟨by decide +kernel, rfl⟩, fun h => absurd h (by decide), fun h => absurd h (by decide)⟩
theorem ft_GF_10 : fOK "GathersAllFaults" (139, 1, 4, (0, 0, .inl 0)) := ⟨R1_, T1_, 5, "GathersAllFaults$Gatherer", c1_ok, by decide, ALL_in 154 (by decide +kernel) rfl, Or.inl rfl, rfl, fun _ => ⟨by decide +kernel, rfl⟩, fun h => absurd h (by decide), fun h => absurd h (by decide)⟩
theorem ft_GF_11 : fOK "GathersAllFaults" (76, 4, 4, (1, 2, .inl 3)) := ⟨R4_, T4_, 6, "GathersAllFaults$ValueReader", c4_ok, by decide, ALL_in 178 (by decide +kernel) rfl, Or.inl rfl, rfl, fun h => absurd h (by decide), fun h => absurd h (by decide), fun h => absurd h (by decide)⟩
theorem ft_GF_12 : fOK "GathersAllFaults" (90, 0, 4, (1, 2, .inl 2)) := ⟨R0_, T0_, 11, "GathersAllFaults$CheckReader", c0_ok, by decide, ALL_in 218 (by decide +kernel) rfl, Or.inl rfl, rfl, fun h => absurd h (by decide), fun h => absurd h (by decide), fun h => absurd h (by decide)⟩
theorem ft_GF_13 : fOK "GathersAllFaults" (10, 5, 0, (1, 1, .inl 3)) := ⟨R5_, T5_, 14, "GathersAllFaults", c5_ok, by decide, ALL_in 246 (by decide +kernel) rfl, Or.inl rfl, rfl, fun h => absurd h (by decide), fun h => absurd h (by decide), fun h => absurd h (by decide)⟩
theorem ft_GF_14 : fOK "GathersAllFaults" (16, 5, 1, (1, 8, .inl 3)) := ⟨R5_, T5_, 14, "GathersAllFaults", c5_ok, by decide, ALL_in 247 (by decide +kernel) rfl, Or.inl rfl, rfl, fun h => absurd h (by decide), fun h => absurd h (by decide), fun h => absurd h (by decide)⟩
theorem ft_GF_15 : fOK "GathersAllFaults" (22, 5, 2, (1, 15, .inl 1)) := ⟨R5_, T5_, 14, "GathersAllFaults", c5_ok, by decide, ALL_in 248 (by decide +kernel) rfl, Or.inl rfl, rfl, fun h => absurd h (by decide), fun h => absurd h (by decide), fun h => absurd h (by decide)⟩
theorem ft_GF_16 : fOK "GathersAllFaults" (29, 5, 3, (1, 38, .inl 4)) := ⟨R5_, T5_, 14, "GathersAllFaults", c5_ok, by decide, ALL_in 249 (by decide +kernel) rfl, Or.inl rfl, rfl, fun h => absurd h (by decide), fun h => absurd h (by decide), fun h => absurd h (by decide)⟩
theorem ft_GF_17 : fOK "GathersAllFaults" (36, 5, 4, (1, 47, .inl 0)) := ⟨R5_, T5_, 14, "GathersAllFaults", c5_ok, by decide, ALL_in 250 (by decide +kernel) rfl, Or.inl rfl, rfl, fun h => absurd h (by decide), fun h => absurd h (by decide), fun h => absurd h (by decide)⟩
theorem ft_GF_18 : fOK "GathersAllFaults" (40, 5, 5, (1, 64, .inr 96)) := ⟨R5_, T5_, 14, "GathersAllFaults", c5_ok, by decide, ALL_in 251 (by decide +kernel) rfl, Or.inl rfl, rfl, fun h => absurd h (by decide), fun h => absurd h (by decide), fun h => absurd h (by decide)⟩
theorem ft_GF_19 : fOK "GathersAllFaults" (64, 5, 6, (0, 0, .inl 0)) := ⟨R5_, T5_, 14, "GathersAllFaults", c5_ok, by decide, ALL_in 252 (by decide +kernel) rfl, Or.inl rfl, rfl, fun _ => ⟨by decide +kernel, rfl⟩, fun h => absurd h (by decide), fun h => absurd h (by decide)⟩
theorem ft_GF_20 : fOK "GathersAllFaults" (44, 5, 7, (1, 65, .inr 32)) := ⟨R5_, T5_, 14, "GathersAllFaults", c5_ok, by decide, ALL_in 253 (by decide +kernel) rfl, Or.inl rfl, rfl, fun h => absurd h (by decide), fun h => absurd h (by decide), fun h => absurd h (by decide)⟩
theorem ft_GF_21 : fOK "GathersAllFaults" (192, 5, 8, (0, 0, .inl 0)) := ⟨R5_, T5_, 14, "GathersAllFaults", c5_ok, by decide, ALL_in 254 (by decide +kernel) rfl, Or.inl rfl, rfl, fun _ => ⟨by decide +kernel, rfl⟩, fun h => absurd h (by decide), fun h => absurd h (by decide)⟩
theorem ft_GF_22 : fOK "GathersAllFaults" (47, 5, 9, (1, 66, .inr 7)) := ⟨R5_, T5_, 14, "GathersAllFaults", c5_ok, by decide, ALL_in 255 (by decide +kernel) rfl, Or.inl rfl, rfl, fun h => absurd h (by decide), fun h => absurd h (by decide), fun h => absurd h (by decide)⟩
theorem ft_GF_23 : fOK "GathersAllFaults" (50, 5, 10, (1, 67, .inl 3)) := ⟨R5_, T5_, 14, "GathersAllFaults", c5_ok, by decide, ALL_in 256 (by decide +kernel) rfl, Or.inl rfl, rfl, fun h => absurd h (by decide), fun h => absurd h (by decide), fun h => absurd h (by decide)⟩
theorem ft_GF_24 : fOK "GathersAllFaults" (56, 5, 11, (1, 74, .inl 2)) := ⟨R5_, T5_, 14, "GathersAllFaults", c5_ok, by decide, ALL_in 257 (by decide +kernel) rfl, Or.inl rfl, rfl, fun h => absurd h (by decide), fun h => absurd h (by decide), fun h => absurd h (by decide)⟩
theorem ft_GF_25 : fOK "GathersAllFaults" (201, 5, 12, (3, 0, .inl 0)) := ⟨R5_, T5_, 14, "GathersAllFaults", c5_ok, by decide, ALL_in 258 (by decide +kernel) rfl, Or.inl rfl, rfl, fun h => absurd h (by decide), fun _ => ⟨by decide +kernel, rfl⟩, fun h => absurd h (by decide)⟩
theorem ft_GF_26 : fOK "GathersAllFaults" (195, 5, 13, (0, 0, .inl 0)) := ⟨R5_, T5_, 14, "GathersAllFaults", c5_ok, by decide, ALL_in 259 (by decide +kernel) rfl, Or.inl rfl, rfl, fun _ => ⟨by decide +kernel, rfl⟩, fun h => absurd h (by decide), fun h => absurd h (by decide)⟩
theorem ft_GF_ok : ∀ q ∈ ft_GF, fOK "GathersAllFaults" q := (List.forall_mem_cons.mpr ⟨ft_GF_0, (List.forall_mem_cons.mpr ⟨ft_GF_1, (List.forall_mem_cons.mpr ⟨ft_GF_2, (List.forall_mem_cons.mpr ⟨ft_GF_3, (List.forall_mem_cons.mpr ⟨ft_GF_4, (List.forall_mem_cons.mpr ⟨ft_GF_5, (List.forall_mem_cons.mpr ⟨ft_GF_6, (List.forall_mem_cons.mpr ⟨ft_GF_7, (List.forall_mem_cons.mpr ⟨ft_GF_8, (List.forall_mem_cons.mpr ⟨ft_GF_9, (List.forall_mem_cons.mpr ⟨ft_GF_10, (List.forall_mem_cons.mpr ⟨ft_GF_11, (List.forall_mem_cons.mpr ⟨ft_GF_12, (List.forall_mem_cons.mpr ⟨ft_GF_13, (List.forall_mem_cons.mpr ⟨ft_GF_14, (List.forall_mem_cons.mpr ⟨ft_GF_15, (List.forall_mem_cons.mpr ⟨ft_GF_16, (List.forall_mem_cons.mpr ⟨ft_GF_17, (List.forall_mem_cons.mpr ⟨ft_GF_18, (List.forall_mem_cons.mpr ⟨ft_GF_19, (List.forall_mem_cons.mpr ⟨ft_GF_20, (List.forall_mem_cons.mpr ⟨ft_GF_21, (List.forall_mem_cons.mpr ⟨ft_GF_22, (List.forall_mem_cons.mpr ⟨ft_GF_23, (List.forall_mem_cons.mpr ⟨ft_GF_24, (List.forall_mem_cons.mpr ⟨ft_GF_25, (List.forall_mem_cons.mpr ⟨ft_GF_26, (fun _ h => absurd h List.not_mem_nil)⟩)⟩)⟩)⟩)⟩)⟩)⟩)⟩)⟩)⟩)⟩)⟩)⟩)⟩)⟩)⟩)⟩)⟩)⟩)⟩)⟩)⟩)⟩)⟩)⟩)⟩)⟩)
def ft_MO : List (Nat × Nat × Nat × sF) := [(7, 6, 0, (1, 1, .inr 7)), (13, 6, 1, (1, 2, .inr 21)), (16, 6, 2, (1, 3, .inr 21)), (19, 6, 3, (1, 4, .inr 21)), (22, 6, 4, (1, 5, .inr 21)), (25, 6, 5, (1, 6, .inr 21)), (118, 6, 6, (0, 0, .inl 0)), (28, 6, 7, (1, 7, .inr 25)), (31, 6, 8, (1, 8, .inr 25)), (34, 6, 9, (1, 9, .inr 25)), (37, 6, 10, (1, 10, .inr 25)), (40, 6, 11, (1, 11, .inr 25)), (43, 6, 12, (1, 12, .inr 25)), (46, 6, 13, (1, 13, .inr 25)), (49, 6, 14, (1, 14, .inr 25)), (52, 6, 15, (1, 15, .inr 25)), (55, 6, 16, (1, 16, .inr 33)), (58, 6, 17, (1, 17, .inr 33)), (61, 6, 18, (1, 18, .inr 33)), (64, 6, 19, (1, 19, .inr 33)), (122, 6, 20, (0, 0, .inl 0)), (169, 6, 21, (0, 0, .inl 0)), (197, 6, 22, (0, 0, .inl 0)), (320, 6, 23, (0, 0, .inl 0)), (67, 6, 24, (1, 20, .inr 16384)), (70, 6, 25, (1, 21, .inr 16384)), (73, 6, 26, (1, 22, .inr 400)), (76, 6, 27, (1, 23, .inr 400)), (79, 6, 28, (1, 24, .inr 400)), (82, 6, 29, (1, 25, .inr 400)), (85, 6, 30, (1, 26, .inr 400)), (88, 6, 31, (1, 27, .inr 400)), (91, 6, 32, (1, 28, .inr 400)), (159, 6, 33, (0, 0, .inl 0)), (185, 6, 34, (0, 0, .inl 0)), (156, 6, 35, (0, 0, .inl 0)), (94, 6, 36, (1, 29, .inr 96)), (97, 6, 37, (1, 30, .inr 100)), (100, 6, 38, (1, 31, .inr 100)), (103, 6, 39, (1, 32, .inr 100)), (106, 6, 40, (1, 33, .inr 100)), (109, 6, 41, (1, 34, .inr 100)), (250, 6, 42, (0, 0, .inl 0)), (256, 6, 43, (0, 0, .inl 0)), (263, 6, 44, (0, 0, .inl 0)), (266, 6, 45, (0, 0, .inl 0)), (272, 6, 46, (0, 0, .inl 0)), (112, 6, 47, (1, 35, .inr 1400)), (367, 6, 48, (3, 0, .inl 0)), (353, 6, 49, (3, 0, .inl 0)), (357, 6, 50, (0, 0, .inl 0)), (115, 6, 51, (1, 36, .inr 32)), (419, 6, 52, (0, 0, .inl 0)), (425, 6, 53, (0, 0, .inl 0))]
theorem ft_MO_0 : fOK "GathersAllFaultsModel" (7, 6, 0, (1, 1, .inr 7)) := ⟨R6_, T6_, 54, "GathersAllFaultsModel", c6_ok, by decide, ALL_in 801 (by decide +kernel) rfl, Or.inl rfl, rfl, fun h => absurd h (by decide), fun h => absurd h (by decide), fun h => absurd h (by decide)⟩
theorem ft_MO_1 : fOK "GathersAllFaultsModel" (13, 6, 1, (1, 2, .inr 21)) := ⟨R6_, T6_, 54, "GathersAllFaultsModel", c6_ok, by decide, ALL_in 802 (by decide +kernel) rfl, Or.inl rfl, rfl, fun h => absurd h (by decide), fun h => absurd h (by decide), fun h => absurd h (by decide)⟩
theorem ft_MO_2 : fOK "GathersAllFaultsModel" (16, 6, 2, (1, 3, .inr 21)) := ⟨R6_, T6_, 54, "GathersAllFaultsModel", c6_ok, by decide, ALL_in 803 (by decide +kernel) rfl, Or.inl rfl, rfl, fun h => absurd h (by decide), fun h => absurd h (by decide), fun h => absurd h (by decide)⟩
theorem ft_MO_3 : fOK "GathersAllFaultsModel" (19, 6, 3, (1, 4, .inr 21)) := ⟨R6_, T6_, 54, "GathersAllFaultsModel", c6_ok, by decide, ALL_in 804 (by decide +kernel) rfl, Or.inl rfl, rfl, fun h => absurd h (by decide), fun h => absurd h (by decide), fun h => absurd h (by decide)⟩
theorem ft_MO_4 : fOK "GathersAllFaultsModel" (22, 6, 4, (1, 5, .inr 21)) := ⟨R6_, T6_, 54, "GathersAllFaultsModel", c6_ok, by decide, ALL_in 805 (by decide +kernel) rfl, Or.inl rfl, rfl, fun h => absurd h (by decide), fun h => absurd h (by decide), fun h => absurd h (by decide)⟩
theorem ft_MO_5 : fOK "GathersAllFaultsModel" (25, 6, 5, (1, 6, .inr 21)) := ⟨R6_, T6_, 54, "GathersAllFaultsModel", c6_ok, by decide, ALL_in 806 (by decide +kernel) rfl, Or.inl rfl, rfl, fun h => absurd h (by decide), fun h => absurd h (by decide), fun h => absurd h (by decide)⟩
theorem ft_MO_6 : fOK "GathersAllFaultsModel" (118, 6, 6, (0, 0, .inl 0)) := ⟨R6_, T6_, 54, "GathersAllFaultsModel", c6_ok, by decide, ALL_in 807 (by decide +kernel) rfl, Or.inl rfl, rfl, fun _ => ⟨by decide +kernel, rfl⟩, fun h => absurd h (by decide), fun h => absurd h (by decide)⟩
theorem ft_MO_7 : fOK "GathersAllFaultsModel" (28, 6, 7, (1, 7, .inr 25)) := ⟨R6_, T6_, 54, "GathersAllFaultsModel", c6_ok, by decide, ALL_in 808 (by decide +kernel) rfl, Or.inl rfl, rfl, fun h => absurd h (by decide), fun h => absurd h (by decide), fun h => absurd h (by decide)⟩
theorem ft_MO_8 : fOK "GathersAllFaultsModel" (31, 6, 8, (1, 8, .inr 25)) := ⟨R6_, T6_, 54, "GathersAllFaultsModel", c6_ok, by decide, ALL_in 809 (by decide +kernel) rfl, Or.inl rfl, rfl, fun h => absurd h (by decide), fun h => absurd h (by decide), fun h => absurd h (by decide)⟩
theorem ft_MO_9 : fOK "GathersAllFaultsModel" (34, 6, 9, (1, 9, .inr 25)) := ⟨R6_, T6_, 54, "GathersAllFaultsModel", c6_ok, by decide, ALL_in 810 (by decide +kernel) rfl, Or.inl rfl, rfl, fun h => absurd h (by decide), fun h => absurd h (by decide), fun h => absurd h (by decide)⟩
theorem ft_MO_10 : fOK "GathersAllFaultsModel" (37, 6, 10, (1, 10, .inr 25)) := ⟨R6_, T6_, 54, "GathersAllFaultsModel", c6_ok, by decide, ALL_in 811 (by decide +kernel) rfl, Or.inl rfl, rfl, fun h => absurd h (by decide), fun h => absurd h (by decide), fun h => absurd h (by decide)⟩
theorem ft_MO_11 : fOK "GathersAllFaultsModel" (40, 6, 11, (1, 11, .inr 25)) := ⟨R6_, T6_, 54, "GathersAllFaultsModel", c6_ok, by decide, ALL_in 812 (by decide +kernel) rfl, Or.inl rfl, rfl, fun h => absurd h (by decide), fun h => absurd h (by decide), fun h => absurd h (by decide)⟩
theorem ft_MO_12 : fOK "GathersAllFaultsModel" (43, 6, 12, (1, 12, .inr 25)) := ⟨R6_, T6_, 54, "GathersAllFaultsModel", c6_ok, by decide, ALL_in 813 (by decide +kernel) rfl, Or.inl rfl, rfl, fun h => absurd h (by decide), fun h => absurd h (by decide), fun h => absurd h (by decide)⟩
theorem ft_MO_13 : fOK "GathersAllFaultsModel" (46, 6, 13, (1, 13, .inr 25)) := ⟨R6_, T6_, 54, "GathersAllFaultsModel", c6_ok, by decide, ALL_in 814 (by decide +kernel) rfl, Or.inl rfl, rfl, fun h => absurd h (by decide), fun h => absurd h (by decide), fun h => absurd h (by decide)⟩
theorem ft_MO_14 : fOK "GathersAllFaultsModel" (49, 6, 14, (1, 14, .inr 25)) := ⟨R6_, T6_, 54, "GathersAllFaultsModel", c6_ok, by decide, ALL_in 815 (by decide +kernel) rfl, Or.inl rfl, rfl, fun h => absurd h (by decide), fun h => absurd h (by decide), fun h => absurd h (by decide)⟩
theorem ft_MO_15 : fOK "GathersAllFaultsModel" (52, 6, 15, (1, 15, .inr 25)) := ⟨R6_, T6_, 54, "GathersAllFaultsModel", c6_ok, by decide, ALL_in 816 (by decide +kernel) rfl, Or.inl rfl, rfl, fun h => absurd h (by decide), fun h => absurd h (by decide), fun h => absurd h (by decide)⟩
theorem ft_MO_16 : fOK "GathersAllFaultsModel" (55, 6, 16, (1, 16, .inr 33)) := ⟨R6_, T6_, 54, "GathersAllFaultsModel", c6_ok, by decide, ALL_in 817 (by decide +kernel) rfl, Or.inl rfl, rfl, fun h => absurd h (by decide), fun h => absurd h (by decide), fun h => absurd h (by decide)⟩
theorem ft_MO_17 : fOK "GathersAllFaultsModel" (58, 6, 17, (1, 17, .inr 33)) := ⟨R6_, T6_, 54, "GathersAllFaultsModel", c6_ok, by decide, ALL_in 818 (by decide +kernel) rfl, Or.inl rfl, rfl, fun h => absurd h (by decide), fun h => absurd h (by decide), fun h => absurd h (by decide)⟩
theorem ft_MO_18 : fOK "GathersAllFaultsModel" (61, 6, 18, (1, 18, .inr 33)) := ⟨R6_, T6_, 54, "GathersAllFaultsModel", c6_ok, by decide, ALL_in 819 (by decide +kernel) rfl, Or.inl rfl, rfl, fun h => absurd h (by decide), fun h => absurd h (by decide), fun h => absurd h (by decide)⟩
theorem ft_MO_19 : fOK "GathersAllFaultsModel" (64, 6, 19, (1, 19, .inr 33)) := ⟨R6_, T6_, 54, "GathersAllFaultsModel", c6_ok, by decide, ALL_in 820 (by decide +kernel) rfl, Or.inl rfl, rfl, fun h => absurd h (by decide), fun h => absurd h (by decide), fun h => absurd h (by decide)⟩
theorem ft_MO_20 : fOK "GathersAllFaultsModel" (122, 6, 20, (0, 0, .inl 0)) := ⟨R6_, T6_, 54, "GathersAllFaultsModel", c6_ok, by decide, ALL_in 821 (by decide +kernel) rfl, Or.inl rfl, rfl, fun _ => ⟨by decide +kernel, rfl⟩, fun h => absurd h (by decide), fun h => absurd h (by decide)⟩
theorem ft_MO_21 : fOK "GathersAllFaultsModel" (169, 6, 21, (0, 0, .inl 0)) := ⟨R6_, T6_, 54, "GathersAllFaultsModel", c6_ok, by decide, ALL_in 822 (by decide +kernel) rfl, Or.inl rfl, rfl, fun _ => ⟨by decide +kernel, rfl⟩, fun h => absurd h (by decide), fun h => absurd h (by decide)⟩
theorem ft_MO_22 : fOK "GathersAllFaultsModel" (197, 6, 22, (0, 0, .inl 0)) := ⟨R6_, T6_, 54, "GathersAllFaultsModel", c6_ok, by decide, ALL_in 823 (by decide +kernel) rfl, Or.inl rfl, rfl, fun _ => ⟨by decide +kernel, rfl⟩, fun h => absurd h (by decide), fun h => absurd h (by decide)⟩
theorem ft_MO_23 : fOK "GathersAllFaultsModel" (320, 6, 23, (0, 0, .inl 0)) := ⟨R6_, T6_, 54, "GathersAllFaultsModel", c6_ok, by decide, ALL_in 824 (by decide +kernel) rfl, Or.inl rfl, rfl, fun _ => ⟨by decide +kernel, rfl⟩, fun h => absurd h (by decide), fun h => absurd h (by decide)⟩
theorem ft_MO_24 : fOK "GathersAllFaultsModel" (67, 6, 24, (1, 20, .inr 16384)) := ⟨R6_, T6_, 54, "GathersAllFaultsModel", c6_ok, by decide, ALL_in 825 (by decide +kernel) rfl, Or.inl rfl, rfl, fun h => absurd h (by decide), fun h => absurd h (by decide), fun h => absurd h (by decide)⟩
theorem ft_MO_25 : fOK "GathersAllFaultsModel" (70, 6, 25, (1, 21, .inr 16384)) := ⟨R6_, T6_, 54, "GathersAllFaultsModel", c6_ok, by decide, ALL_in 826 (by decide +kernel) rfl, Or.inl rfl, rfl, fun h => absurd h (by decide), fun h => absurd h (by decide), fun h => absurd h (by decide)⟩
theorem ft_MO_26 : fOK "GathersAllFaultsModel" (73, 6, 26, (1, 22, .inr 400)) := ⟨R6_, T6_, 54, "GathersAllFaultsModel", c6_ok, by decide, ALL_in 827 (by decide +kernel) rfl, Or.inl rfl, rfl, fun h => absurd h (by decide), fun h => absurd h (by decide), fun h => absurd h (by decide)⟩
theorem ft_MO_27 : fOK "GathersAllFaultsModel" (76, 6, 27, (1, 23, .inr 400)) := ⟨R6_, T6_, 54, "GathersAllFaultsModel", c6_ok, by decide, ALL_in 828 (by decide +kernel) rfl, Or.inl rfl, rfl, fun h => absurd h (by decide), fun h => absurd h (by decide), fun h => absurd h (by decide)⟩
theorem ft_MO_28 : fOK "GathersAllFaultsModel" (79, 6, 28, (1, 24, .inr 400)) := ⟨R6_, T6_, 54, "GathersAllFaultsModel", c6_ok, by decide, ALL_in 829 (by decide +kernel) rfl, Or.inl rfl, rfl, fun h => absurd h (by decide), fun h => absurd h (by decide), fun h => absurd h (by decide)⟩
theorem ft_MO_29 : fOK "GathersAllFaultsModel" (82, 6, 29, (1, 25, .inr 400)) := ⟨R6_, T6_, 54, "GathersAllFaultsModel", c6_ok, by decide, ALL_in 830 (by decide +kernel) rfl, Or.inl rfl, rfl, fun h => absurd h (by decide), fun h => absurd h (by decide), fun h => absurd h (by decide)⟩
theorem ft_MO_30 : fOK "GathersAllFaultsModel" (85, 6, 30, (1, 26, .inr 400)) := ⟨R6_, T6_, 54, "GathersAllFaultsModel", c6_ok, by decide, ALL_in 831 (by decide +kernel) rfl, Or.inl rfl, rfl, fun h => absurd h (by decide), fun h => absurd h (by decide), fun h => absurd h (by decide)⟩
theorem ft_MO_31 : fOK "GathersAllFaultsModel" (88, 6, 31, (1, 27, .inr 400)) := ⟨R6_, T6_, 54, "GathersAllFaultsModel", c6_ok, by decide, ALL_in 832 (by decide +kernel) rfl, Or.inl rfl, rfl, fun h => absurd h (by decide), fun h => absurd h (by decide), fun h => absurd h (by decide)⟩
theorem ft_MO_32 : fOK "GathersAllFaultsModel" (91, 6, 32, (1, 28, .inr 400)) := ⟨R6_, T6_, 54, "GathersAllFaultsModel", c6_ok, by decide, ALL_in 833 (by decide +kernel) rfl, Or.inl rfl, rfl, fun h => absurd h (by decide), fun h => absurd h (by decide), fun h => absurd h (by decide)⟩
theorem ft_MO_33 : fOK "GathersAllFaultsModel" (159, 6, 33, (0, 0, .inl 0)) := ⟨R6_, T6_, 54, "GathersAllFaultsModel", c6_ok, by decide, ALL_in 834 (by decide +kernel) rfl, Or.inl rfl, rfl, fun _ => ⟨by decide +kernel, rfl⟩, fun h => absurd h (by decide), fun h => absurd h (by decide)⟩
theorem ft_MO_34 : fOK "GathersAllFaultsModel" (185, 6, 34, (0, 0, .inl 0)) := ⟨R6_, T6_, 54, "GathersAllFaultsModel", c6_ok, by decide, ALL_in 835 (by decide +kernel) rfl, Or.inl rfl, rfl, fun _ => ⟨by decide +kernel, rfl⟩, fun h => absurd h (by decide), fun h => absurd h (by decide)⟩
theorem ft_MO_35 : fOK "GathersAllFaultsModel" (156, 6, 35, (0, 0, .inl 0)) := ⟨R6_, T6_, 54, "GathersAllFaultsModel", c6_ok, by decide, ALL_in 836 (by decide +kernel) rfl, Or.inl rfl, rfl, fun _ => ⟨by decide +kernel, rfl⟩, fun h => absurd h (by decide), fun h => absurd h (by decide)⟩
theorem ft_MO_36 : fOK "GathersAllFaultsModel" (94, 6, 36, (1, 29, .inr 96)) := ⟨R6_, T6_, 54, "GathersAllFaultsModel", c6_ok, by decide, ALL_in 837 (by decide +kernel) rfl, Or.inl rfl, rfl, fun h => absurd h (by decide), fun h => absurd h (by decide), fun h => absurd h (by decide)⟩
theorem ft_MO_37 : fOK "GathersAllFaultsModel" (97, 6, 37, (1, 30, .inr 100)) := ⟨R6_, T6_, 54, "GathersAllFaultsModel", c6_ok, by decide, ALL_in 838 (by decide +kernel) rfl, Or.inl rfl, rfl, fun h => absurd h (by decide), fun h => absurd h (by decide), fun h => absurd h (by decide)⟩
theorem ft_MO_38 : fOK "GathersAllFaultsModel" (100, 6, 38, (1, 31, .inr 100)) := ⟨R6_, T6_, 54, "GathersAllFaultsModel", c6_ok, by decide, ALL_in 839 (by decide +kernel) rfl, Or.inl rfl, rfl, fun h => absurd h (by decide), fun h => absurd h (by decide), fun h => absurd h (by decide)⟩
theorem ft_MO_39 : fOK "GathersAllFaultsModel" (103, 6, 39, (1, 32, .inr 100)) := ⟨R6_, T6_, 54, "GathersAllFaultsModel", c6_ok, by decide, ALL_in 840 (by decide +kernel) rfl, Or.inl rfl, rfl, fun h => absurd h (by decide), fun h => absurd h (by decide), fun h => absurd h (by decide)⟩
theorem ft_MO_40 : fOK "GathersAllFaultsModel" (106, 6, 40, (1, 33, .inr 100)) := ⟨R6_, T6_, 54, "GathersAllFaultsModel", c6_ok, by decide, ALL_in 841 (by decide +kernel) rfl, Or.inl rfl, rfl, fun h => absurd h (by decide), fun h => absurd h (by decide), fun h => absurd h (by decide)⟩
theorem ft_MO_41 : fOK "GathersAllFaultsModel" (109, 6, 41, (1, 34, .inr 100)) := ⟨R6_, T6_, 54, "GathersAllFaultsModel", c6_ok, by decide, ALL_in 842 (by decide +kernel) rfl, Or.inl rfl, rfl, fun h => absurd h (by decide), fun h => absurd h (by decide), fun h => absurd h (by decide)⟩
theorem ft_MO_42 : fOK "GathersAllFaultsModel" (250, 6, 42, (0, 0, .inl 0)) := ⟨R6_, T6_, 54, "GathersAllFaultsModel", c6_ok, by decide, ALL_in 843 (by decide +kernel) rfl, Or.inl rfl, rfl, fun _ => ⟨by decide +kernel, rfl⟩, fun h => absurd h (by decide), fun h => absurd h (by decide)⟩
theorem ft_MO_43 : fOK "GathersAllFaultsModel" (256, 6, 43, (0, 0, .inl 0)) := ⟨R6_, T6_, 54, "GathersAllFaultsModel", c6_ok, by decide, ALL_in 844 (by decide +kernel) rfl, Or.inl rfl, rfl, fun _ => ⟨by decide +kernel, rfl⟩, fun h => absurd h (by decide), fun h => absurd h (by decide)⟩
theorem ft_MO_44 : fOK "GathersAllFaultsModel" (263, 6, 44, (0, 0, .inl 0)) := ⟨R6_, T6_, 54, "GathersAllFaultsModel", c6_ok, by decide, ALL_in 845 (by decide +kernel) rfl, Or.inl rfl, rfl, fun _ => ⟨by decide +kernel, rfl⟩, fun h => absurd h (by decide), fun h => absurd h (by decide)⟩
theorem ft_MO_45 : fOK "GathersAllFaultsModel" (266, 6, 45, (0, 0, .inl 0)) := ⟨R6_, T6_, 54, "GathersAllFaultsModel", c6_ok, by decide, ALL_in 846 (by decide +kernel) rfl, Or.inl rfl, rfl, fun _ => ⟨by decide +kernel, rfl⟩, fun h => absurd h (by decide), fun h => absurd h (by decide)⟩
theorem ft_MO_46 : fOK "GathersAllFaultsModel" (272, 6, 46, (0, 0, .inl 0)) := ⟨R6_, T6_, 54, "GathersAllFaultsModel", c6_ok, by decide, ALL_in 847 (by decide +kernel) rfl, Or.inl rfl, rfl, fun _ => ⟨by decide +kernel, rfl⟩, fun h => absurd h (by decide), fun h => absurd h (by decide)⟩
theorem ft_MO_47 : fOK "GathersAllFaultsModel" (112, 6, 47, (1, 35, .inr 1400)) := ⟨R6_, T6_, 54, "GathersAllFaultsModel", c6_ok, by decide, ALL_in 848 (by decide +kernel) rfl, Or.inl rfl, rfl, fun h => absurd h (by decide), fun h => absurd h (by decide), fun h => absurd h (by decide)⟩
theorem ft_MO_48 : fOK "GathersAllFaultsModel" (367, 6, 48, (3, 0, .inl 0)) := ⟨R6_, T6_, 54, "GathersAllFaultsModel", c6_ok, by decide, ALL_in 849 (by decide +kernel) rfl, Or.inl rfl, rfl, fun h => absurd h (by decide), fun _ => ⟨by decide +kernel, rfl⟩, fun h => absurd h (by decide)⟩
theorem ft_MO_49 : fOK "GathersAllFaultsModel" (353, 6, 49, (3, 0, .inl 0)) := ⟨R6_, T6_, 54, "GathersAllFaultsModel", c6_ok, by decide, ALL_in 850 (by decide +kernel) rfl, Or.inl rfl, rfl, fun h => absurd h (by decide), fun _ => ⟨by decide +kernel, rfl⟩, fun h => absurd h (by decide)⟩
theorem ft_MO_50 : fOK "GathersAllFaultsModel" (357, 6, 50, (0, 0, .inl 0)) := ⟨R6_, T6_, 54, "GathersAllFaultsModel", c6_ok, by decide, ALL_in 851 (by decide +kernel) rfl, Or.inl rfl, rfl, fun _ => ⟨by decide +kernel, rfl⟩, fun h => absurd h (by decide), fun h => absurd h (by decide)⟩
theorem ft_MO_51 : fOK "GathersAllFaultsModel" (115, 6, 51, (1, 36, .inr 32)) := ⟨R6_, T6_, 54, "GathersAllFaultsModel", c6_ok, by decide, ALL_in 852 (by decide +kernel) rfl, Or.inl rfl, rfl, fun h => absurd h (by decide), fun h => absurd h (by decide), fun h => absurd h (by decide)⟩
theorem ft_MO_52 : fOK "GathersAllFaultsModel" (419, 6, 52, (0, 0, .inl 0)) := ⟨R6_, T6_, 54, "GathersAllFaultsModel", c6_ok, by decide, ALL_in 853 (by decide +kernel) rfl, Or.inl rfl, rfl, fun _ => ⟨by decide +kernel, rfl⟩, fun h => absurd h (by decide), fun h => absurd h (by decide)⟩
theorem ft_MO_53 : fOK "GathersAllFaultsModel" (425, 6, 53, (0, 0, .inl 0)) := ⟨R6_, T6_, 54, "GathersAllFaultsModel", c6_ok, by decide, ALL_in 854 (by decide +kernel) rfl, Or.inl rfl, rfl, fun _ => ⟨by decide +kernel, rfl⟩, fun h => absurd h (by decide), fun h => absurd h (by decide)⟩
theorem ft_MO_ok : ∀ q ∈ ft_MO, fOK "GathersAllFaultsModel" q := (List.forall_mem_cons.mpr ⟨ft_MO_0, (List.forall_mem_cons.mpr ⟨ft_MO_1, (List.forall_mem_cons.mpr ⟨ft_MO_2, (List.forall_mem_cons.mpr ⟨ft_MO_3, (List.forall_mem_cons.mpr ⟨ft_MO_4, (List.forall_mem_cons.mpr ⟨ft_MO_5, (List.forall_mem_cons.mpr ⟨ft_MO_6, (List.forall_mem_cons.mpr ⟨ft_MO_7, (List.forall_mem_cons.mpr ⟨ft_MO_8, (List.forall_mem_cons.mpr ⟨ft_MO_9, (List.forall_mem_cons.mpr ⟨ft_MO_10, (List.forall_mem_cons.mpr ⟨ft_MO_11, (List.forall_mem_cons.mpr ⟨ft_MO_12, (List.forall_mem_cons.mpr ⟨ft_MO_13, (List.forall_mem_cons.mpr ⟨ft_MO_14, (List.forall_mem_cons.mpr ⟨ft_MO_15, (List.forall_mem_cons.mpr ⟨ft_MO_16, (List.forall_mem_cons.mpr ⟨ft_MO_17, (List.forall_mem_cons.mpr ⟨ft_MO_18, (List.forall_mem_cons.mpr ⟨ft_MO_19, (List.forall_mem_cons.mpr ⟨ft_MO_20, (List.forall_mem_cons.mpr ⟨ft_MO_21, (List.forall_mem_cons.mpr ⟨ft_MO_22, (List.forall_mem_cons.mpr ⟨ft_MO_23, (List.forall_mem_cons.mpr ⟨ft_MO_24, (List.forall_mem_cons.mpr ⟨ft_MO_25, (List.forall_mem_cons.mpr ⟨ft_MO_26, (List.forall_mem_cons.mpr ⟨ft_MO_27, (List.forall_mem_cons.mpr ⟨ft_MO_28, (List.forall_mem_cons.mpr ⟨ft_MO_29, (List.forall_mem_cons.mpr ⟨ft_MO_30, (List.forall_mem_cons.mpr ⟨ft_MO_31, (List.forall_mem_cons.mpr ⟨ft_MO_32, (List.forall_mem_cons.mpr ⟨ft_MO_33, (List.forall_mem_cons.mpr ⟨ft_MO_34, (List.forall_mem_cons.mpr ⟨ft_MO_35, (List.forall_mem_cons.mpr ⟨ft_MO_36, (List.forall_mem_cons.mpr ⟨ft_MO_37, (List.forall_mem_cons.mpr ⟨ft_MO_38, (List.forall_mem_cons.mpr ⟨ft_MO_39, (List.forall_mem_cons.mpr ⟨ft_MO_40, (List.forall_mem_cons.mpr ⟨ft_MO_41, (List.forall_mem_cons.mpr ⟨ft_MO_42, (List.forall_mem_cons.mpr ⟨ft_MO_43, (List.forall_mem_cons.mpr ⟨ft_MO_44, (List.forall_mem_cons.mpr ⟨ft_MO_45, (List.forall_mem_cons.mpr ⟨ft_MO_46, (List.forall_mem_cons.mpr ⟨ft_MO_47, (List.forall_mem_cons.mpr ⟨ft_MO_48, (List.forall_mem_cons.mpr ⟨ft_MO_49, (List.forall_mem_cons.mpr ⟨ft_MO_50, (List.forall_mem_cons.mpr ⟨ft_MO_51, (List.forall_mem_cons.mpr ⟨ft_MO_52, (List.forall_mem_cons.mpr ⟨ft_MO_53, (fun _ h => absurd h List.not_mem_nil)⟩)⟩)⟩)⟩)⟩)⟩)⟩)⟩)⟩)⟩)⟩)⟩)⟩)⟩)⟩)⟩)⟩)⟩)⟩)⟩)⟩)⟩)⟩)⟩)⟩)⟩)⟩)⟩)⟩)⟩)⟩)⟩)⟩)⟩)⟩)⟩)⟩)⟩)⟩)⟩)⟩)⟩)⟩)⟩)⟩)⟩)⟩)⟩)⟩)⟩)⟩)⟩)⟩)⟩)
def ft_RD : List (Nat × Nat × Nat × sF) := [(9, 0, 0, (1, 1, .inr 96)), (9, 4, 0, (1, 1, .inr 96)), (19, 0, 1, (0, 0, .inl 0)), (19, 4, 1, (0, 0, .inl 0)), (26, 0, 2, (0, 0, .inl 0)), (26, 4, 2, (0, 0, .inl 0)), (29, 0, 3, (3, 0, .inl 0)), (29, 4, 3, (3, 0, .inl 0))]
theorem ft_RD_0 : fOK "GathersAllFaults$Reader" (9, 0, 0, (1, 1, .inr 96)) := ⟨R0_, T0_, 11, "GathersAllFaults$Reader", c0_ok, by decide, ALL_in 180 (by decide +kernel) rfl, Or.inl rfl, rfl, fun h => absurd h (by decide), fun h => absurd h (by decide), fun h => absurd h (by decide)⟩
theorem ft_RD_1 : fOK "GathersAllFaults$Reader" (9, 4, 0, (1, 1, .inr 96)) := ⟨R4_, T4_, 6, "GathersAllFaults$Reader", c4_ok, by decide, ALL_in 180 (by decide +kernel) rfl, Or.inl rfl, rfl, fun h => absurd h (by decide), fun h => absurd h (by decide), fun h => absurd h (by decide)⟩
theorem ft_RD_2 : fOK "GathersAllFaults$Reader" (19, 0, 1, (0, 0, .inl 0)) := ⟨R0_, T0_, 11, "GathersAllFaults$Reader", c0_ok, by decide, ALL_in 183 (by decide +kernel) rfl, Or.inl rfl, rfl, fun _ => ⟨by decide +kernel, rfl⟩, fun h => absurd h (by decide), fun h => absurd h (by decide)⟩
theorem ft_RD_3 : fOK "GathersAllFaults$Reader" (19, 4, 1, (0, 0, .inl 0)) := ⟨R4_, T4_, 6, "GathersAllFaults$Reader", c4_ok, by decide, ALL_in 183 (by decide +kernel) rfl, Or.inl rfl, rfl, fun _ => ⟨by decide +kernel, rfl⟩, fun h => absurd h (by decide), fun h => absurd h (by decide)⟩
theorem ft_RD_4 : fOK "GathersAllFaults$Reader" (26, 0, 2, (0, 0, .inl 0)) := ⟨R0_, T0_, 11, "GathersAllFaults$Reader", c0_ok, by decide, ALL_in 192 (by decide +kernel) rfl, Or.inl rfl, rfl, fun _ => ⟨by decide +kernel, rfl⟩, fun h => absurd h (by decide), fun h => absurd h (by decide)⟩
theorem ft_RD_5 : fOK "GathersAllFaults$Reader" (26, 4, 2, (0, 0, .inl 0)) := ⟨R4_, T4_, 6, "GathersAllFaults$Reader", c4_ok, by decide, ALL_in 192 (by decide +kernel) rfl, Or.inl rfl, rfl, fun _ => ⟨by decide +kernel, rfl⟩, fun h => absurd h (by decide), fun h => absurd h (by decide)⟩
theorem ft_RD_6 : fOK "GathersAllFaults$Reader" (29, 0, 3, (3, 0, .inl 0)) := ⟨R0_, T0_, 11, "GathersAllFaults$Reader", c0_ok, by decide, ALL_in 195 (by decide +kernel) rfl, Or.inl rfl, rfl, fun h => absurd h (by decide), fun _ => ⟨by decide +kernel, rfl⟩, fun h => absurd h (by decide)⟩
theorem ft_RD_7 : fOK "GathersAllFaults$Reader" (29, 4, 3, (3, 0, .inl 0)) := ⟨R4_, T4_, 6, "GathersAllFaults$Reader", c4_ok, by decide, ALL_in 195 (by decide +kernel) rfl, Or.inl rfl, rfl, fun h => absurd h (by decide), fun _ => ⟨by decide +kernel, rfl⟩, fun h => absurd h (by decide)⟩
theorem ft_RD_ok : ∀ q ∈ ft_RD, fOK "GathersAllFaults$Reader" q := (List.forall_mem_cons.mpr ⟨ft_RD_0, (List.forall_mem_cons.mpr ⟨ft_RD_1, (List.forall_mem_cons.mpr ⟨ft_RD_2, (List.forall_mem_cons.mpr ⟨ft_RD_3, (List.forall_mem_cons.mpr ⟨ft_RD_4, (List.forall_mem_cons.mpr ⟨ft_RD_5, (List.forall_mem_cons.mpr ⟨ft_RD_6, (List.forall_mem_cons.mpr ⟨ft_RD_7, (fun _ h => absurd h List.not_mem_nil)⟩)⟩)⟩)⟩)⟩)⟩)⟩)⟩)
end
section
/-! the leaves of the class: stretches -/
def pr0 : sP := fun _ _ => none
def ct_leaf : List sE := [(145, 5, 0, y_GF_at, 0, ⟨"", "", ""⟩, "", pr0), (220, 7, 0, y_GF_at, 0, ⟨"", "", ""⟩, "", pr0)]
theorem ct_leaf_ok (Y : List kd) : ∀ q ∈ ct_leaf, eOK Y "GathersAllFaults" q := (List.forall_mem_cons.mpr ⟨⟨ALL_in 488 (by decide +kernel) rfl, ALL_in 489 (by decide +kernel) rfl, ALL_in 9 (by decide +kernel) rfl, ALL_in 490 (by decide +kernel) rfl⟩, (List.forall_mem_cons.mpr ⟨⟨ALL_in 491 (by decide +kernel) rfl, ALL_in 493 (by decide +kernel) rfl, ALL_in 492 (by decide +kernel) rfl, ALL_in 10 (by decide +kernel) rfl⟩, (fun _ h => absurd h List.not_mem_nil)⟩)⟩)
theorem s_GF_at_0 (Y : List kd) (d : Nat) (a0 n0 : Nat) (v1 : Int32) (σ : sS) (Q : Option sv → sS → Prop)
    (h : ((v1 < 0 → Q (some (sI 0)) σ) ∧ (¬ v1 < 0 → ((¬ v1 < (nI n0) → Q (some (sI 0)) σ) ∧ (v1 < (nI n0) → (vp_in v1 n0 ∧ Q (some (sI (σ a0 (Int32.toNatClampNeg v1)))) σ)))))) :
    Jd Y d y_GF_at 0 [(0, sR a0 (.inr n0)), (1, sI v1)] [] σ Q :=
  blk_ok (d := d) (y := y_GF_at) (ft := ft_GF) (ct := ct_leaf) (tab := tab_GF_at) ⟨tk_GF_at, ft_GF_ok, ct_leaf_ok Y⟩ [] 16 0 _ _ σ h
theorem s_GF_set_0 (Y : List kd) (d : Nat) (a0 n0 : Nat) (v1 : Int32) (v2 : Int32) (σ : sS) (Q : Option sv → sS → Prop)
    (h : ((v1 < 0 → Q none σ) ∧ (¬ v1 < 0 → ((¬ v1 < (nI n0) → Q none σ) ∧ (v1 < (nI n0) → (vp_in v1 n0 ∧ Q none (up σ a0 (Int32.toNatClampNeg v1) v2))))))) :
    Jd Y d y_GF_set 0 [(0, sR a0 (.inr n0)), (1, sI v1), (2, sI v2)] [] σ Q :=
  blk_ok (d := d) (y := y_GF_set) (ft := ft_GF) (ct := ct_leaf) (tab := tab_GF_set) ⟨tk_GF_set, ft_GF_ok, ct_leaf_ok Y⟩ [] 15 0 _ _ σ h
theorem s_GF_isDigit_0 (Y : List kd) (d : Nat) (v0 : Int32) (σ : sS) (Q : Option sv → sS → Prop)
    (h : ((v0 < 48 → (((0 : Int32) = 0 ∨ (0 : Int32) = 1) ∧ Q (some (sI 0)) σ)) ∧ (¬ v0 < 48 → (((57 : Int32) < v0 → (((0 : Int32) = 0 ∨ (0 : Int32) = 1) ∧ Q (some (sI 0)) σ)) ∧ (¬ (57 : Int32) < v0 → (((1 : Int32) = 0 ∨ (1 : Int32) = 1) ∧ Q (some (sI 1)) σ)))))) :
    Jd Y d y_GF_isDigit 0 [(0, sI v0)] [] σ Q :=
  blk_ok (d := d) (y := y_GF_isDigit) (ft := ft_GF) (ct := ct_leaf) (tab := tab_GF_isDigit) ⟨tk_GF_isDigit, ft_GF_ok, ct_leaf_ok Y⟩ [] 12 0 _ _ σ h
theorem s_GF_isName_0 (Y : List kd) (d : Nat) (v0 : Int32) (σ : sS) (Q : Option sv → sS → Prop)
    (h : ((v0 < 97 → (((0 : Int32) = 0 ∨ (0 : Int32) = 1) ∧ Q (some (sI 0)) σ)) ∧ (¬ v0 < 97 → (((101 : Int32) < v0 → (((0 : Int32) = 0 ∨ (0 : Int32) = 1) ∧ Q (some (sI 0)) σ)) ∧ (¬ (101 : Int32) < v0 → (((1 : Int32) = 0 ∨ (1 : Int32) = 1) ∧ Q (some (sI 1)) σ)))))) :
    Jd Y d y_GF_isName 0 [(0, sI v0)] [] σ Q :=
  blk_ok (d := d) (y := y_GF_isName) (ft := ft_GF) (ct := ct_leaf) (tab := tab_GF_isName) ⟨tk_GF_isName, ft_GF_ok, ct_leaf_ok Y⟩ [] 12 0 _ _ σ h
theorem s_GF_digitOf_0 (Y : List kd) (d : Nat) (v0 : Int32) (σ : sS) (Q : Option sv → sS → Prop)
    (h : Q (some (sI ((v0 - 97) + 1))) σ) :
    Jd Y d y_GF_digitOf 0 [(0, sI v0)] [] σ Q :=
  blk_ok (d := d) (y := y_GF_digitOf) (ft := ft_GF) (ct := ct_leaf) (tab := tab_GF_digitOf) ⟨tk_GF_digitOf, ft_GF_ok, ct_leaf_ok Y⟩ [] 8 0 _ _ σ h
theorem s_GF_copy_0 (Y : List kd) (d : Nat) (a0 n0 : Nat) (a1 n1 : Nat) (σ : sS) (Q : Option sv → sS → Prop)
    (h : ((¬ (0 : Int32) < 0 ∧ ¬ (0 : Int32) < 0 ∧ ¬ (if (nI n1) < (nI n0) then (nI n1) else (nI n0)) < 0 ∧ Int32.toNatClampNeg 0 + Int32.toNatClampNeg (if (nI n1) < (nI n0) then (nI n1) else (nI n0)) ≤ n0 ∧ Int32.toNatClampNeg 0 + Int32.toNatClampNeg (if (nI n1) < (nI n0) then (nI n1) else (nI n0)) ≤ n1) ∧ Q none (upA σ a1 (va_cpy (σ a0) (σ a1) (Int32.toNatClampNeg 0) (Int32.toNatClampNeg 0) (Int32.toNatClampNeg (if (nI n1) < (nI n0) then (nI n1) else (nI n0))))))) :
    Jd Y (d + 1) y_GF_copy 0 [(0, sR a0 (.inr n0)), (1, sR a1 (.inr n1))] [] σ Q :=
  blk_ok (d := (d + 1)) (y := y_GF_copy) (ft := ft_GF) (ct := ct_leaf) (tab := tab_GF_copy) ⟨tk_GF_copy, ft_GF_ok, ct_leaf_ok Y⟩ [] 17 0 _ _ σ h
theorem s_GF_close_0 (Y : List kd) (d : Nat) (a0 n0 : Nat) (v1 : Int32) (v2 : Int32) (v3 : Int32) (σ : sS) (Q : Option sv → sS → Prop)
    (h : ((v3 < 0 → Q none σ) ∧ (¬ v3 < 0 → ((v1 < v3 → Q none σ) ∧ (¬ v1 < v3 → ((v2 < v1 → Q none σ) ∧ (¬ v2 < v1 → (((nI n0) < v2 → Q none σ) ∧ (¬ (nI n0) < v2 → ((¬ v1 < 0 ∧ ¬ (v1 - v3) < 0 ∧ ¬ (v2 - v1) < 0 ∧ Int32.toNatClampNeg v1 + Int32.toNatClampNeg (v2 - v1) ≤ n0 ∧ Int32.toNatClampNeg (v1 - v3) + Int32.toNatClampNeg (v2 - v1) ≤ n0) ∧ Q none (upA σ a0 (va_cpy (σ a0) (σ a0) (Int32.toNatClampNeg v1) (Int32.toNatClampNeg (v1 - v3)) (Int32.toNatClampNeg (v2 - v1)))))))))))))) :
    Jd Y (d + 1) y_GF_close 0 [(0, sR a0 (.inr n0)), (1, sI v1), (2, sI v2), (3, sI v3)] [] σ Q :=
  blk_ok (d := (d + 1)) (y := y_GF_close) (ft := ft_GF) (ct := ct_leaf) (tab := tab_GF_close) ⟨tk_GF_close, ft_GF_ok, ct_leaf_ok Y⟩ [] 27 0 _ _ σ h
end
section
/-! the leaves: what they do -/
theorem i32_clamp (x : Int32) : x.toNatClampNeg = x.toInt.toNat := rfl
theorem i32_ltN {x : Int32} {n : Nat} (hn : n < 2 ^ 31) (h0 : ¬ x < 0) : x < nI n ↔ x.toNatClampNeg < n := by
  rw [Int32.lt_iff_toInt_lt, nI_toInt hn, i32_clamp]
  rw [Int32.lt_iff_toInt_lt, Int32.toInt_zero] at h0
  omega
def rd (σ : sS) (a n : Nat) (i : Int32) : Int32 := if i < 0 then 0 else if n ≤ i.toNatClampNeg then 0 else σ a i.toNatClampNeg
def wr (σ : sS) (a n : Nat) (i v : Int32) : sS := if i < 0 then σ else if n ≤ i.toNatClampNeg then σ else up σ a i.toNatClampNeg v
def iDig (v : Int32) : Int32 := if v < 48 then 0 else if 57 < v then 0 else 1
def iNam (v : Int32) : Int32 := if v < 97 then 0 else if 101 < v then 0 else 1
def iIn (v a b : Int32) : Int32 := if v < a then 0 else if b < v then 0 else 1
def iBd (v a b : Int32) : Int32 := if v < a then -4 else if b < v then -6 else 0
def iHas (s k : Int32) : Int32 := if (s >>> (k &&& 31)) &&& 1 = 1 then 1 else 0
def cp (σ : sS) (a0 a1 n : Nat) : sS := upA σ a1 (va_cpy (σ a0) (σ a1) 0 0 n)
def cl (σ : sS) (a n : Nat) (f e g : Int32) : sS := if g < 0 then σ else if f < g then σ else if e < f then σ else if nI n < e then σ else upA σ a (va_cpy (σ a) (σ a) f.toNatClampNeg (f - g).toNatClampNeg (e - f).toNatClampNeg)
def pr_at : sP := fun as σ => match as with
  | [.inr (.inr (a, .inr n)), .inl i] => cond (Nat.blt n 2147483648) (some (some (.inl (rd σ a n i)), σ)) none
  | _ => none
def pr_set : sP := fun as σ => match as with
  | [.inr (.inr (a, .inr n)), .inl i, .inl v] => cond (Nat.blt n 2147483648) (some (none, wr σ a n i v)) none
  | _ => none
def pr_dig : sP := fun as σ => match as with
  | [.inl v] => some (some (.inl (iDig v)), σ)
  | _ => none
def pr_nam : sP := fun as σ => match as with
  | [.inl v] => some (some (.inl (iNam v)), σ)
  | _ => none
def pr_dof : sP := fun as σ => match as with
  | [.inl v] => some (some (.inl ((v - 97) + 1)), σ)
  | _ => none
theorem prk_at (Y : List kd) (as : List sv) (σ : sS) (r : Option sv) (σ' : sS) (h : pr_at as σ = some (r, σ')) (hw0 : wtS Y as) (d : Nat) (Q : Option sv → sS → Prop) (hq : Q r σ') : CJ Y d y_GF_at as σ Q := by
  unfold pr_at at h
  split at h
  · rename_i a n i
    cases hb : Nat.blt n 2147483648 with
    | false => rw [hb] at h; cases h
    | true =>
      rw [hb] at h
      have hn : n < 2 ^ 31 := Nat.le_of_ble_eq_true hb
      have e : some (Sum.inl (rd σ a n i)) = r ∧ σ = σ' := by simpa using h
      obtain ⟨rfl, rfl⟩ := e
      refine s_GF_at_0 Y d a n i σ Q ⟨fun h0 => ?_, fun h0 => ⟨fun h1 => ?_, fun h1 => ⟨?_, ?_⟩⟩⟩
      · simpa [rd, h0] using hq
      · rw [i32_ltN hn h0] at h1
        have h1 : n ≤ i.toNatClampNeg := by omega
        simpa [rd, h0, h1] using hq
      · rw [i32_ltN hn h0] at h1
        rintro (q | q)
        · exact h0 q
        · omega
      · rw [i32_ltN hn h0] at h1
        have h2 : ¬ n ≤ i.toNatClampNeg := by omega
        simpa [rd, h0, h2] using hq
  · cases h
theorem prk_set (Y : List kd) (as : List sv) (σ : sS) (r : Option sv) (σ' : sS) (h : pr_set as σ = some (r, σ')) (hw0 : wtS Y as) (d : Nat) (Q : Option sv → sS → Prop) (hq : Q r σ') : CJ Y d y_GF_set as σ Q := by
  unfold pr_set at h
  split at h
  · rename_i a n i v
    cases hb : Nat.blt n 2147483648 with
    | false => rw [hb] at h; cases h
    | true =>
      rw [hb] at h
      have hn : n < 2 ^ 31 := Nat.le_of_ble_eq_true hb
      have e : none = r ∧ wr σ a n i v = σ' := by simpa using h
      obtain ⟨rfl, rfl⟩ := e
      refine s_GF_set_0 Y d a n i v σ Q ⟨fun h0 => ?_, fun h0 => ⟨fun h1 => ?_, fun h1 => ⟨?_, ?_⟩⟩⟩
      · simpa [wr, h0] using hq
      · rw [i32_ltN hn h0] at h1
        have h1 : n ≤ i.toNatClampNeg := by omega
        simpa [wr, h0, h1] using hq
      · rw [i32_ltN hn h0] at h1
        rintro (q | q)
        · exact h0 q
        · omega
      · rw [i32_ltN hn h0] at h1
        have h2 : ¬ n ≤ i.toNatClampNeg := by omega
        simpa [wr, h0, h2] using hq
  · cases h
theorem prk_dig (Y : List kd) (as : List sv) (σ : sS) (r : Option sv) (σ' : sS) (h : pr_dig as σ = some (r, σ')) (hw0 : wtS Y as) (d : Nat) (Q : Option sv → sS → Prop) (hq : Q r σ') : CJ Y d y_GF_isDigit as σ Q := by
  unfold pr_dig at h
  split at h
  · rename_i v
    have e : some (Sum.inl (iDig v)) = r ∧ σ = σ' := by simpa using h
    obtain ⟨rfl, rfl⟩ := e
    refine s_GF_isDigit_0 Y d v σ Q ⟨fun h0 => ⟨Or.inl rfl, ?_⟩, fun h0 => ⟨fun h1 => ⟨Or.inl rfl, ?_⟩, fun h1 => ⟨Or.inr rfl, ?_⟩⟩⟩
    · simpa [iDig, h0] using hq
    · simpa [iDig, h0, h1] using hq
    · simpa [iDig, h0, h1] using hq
  · cases h
theorem prk_nam (Y : List kd) (as : List sv) (σ : sS) (r : Option sv) (σ' : sS) (h : pr_nam as σ = some (r, σ')) (hw0 : wtS Y as) (d : Nat) (Q : Option sv → sS → Prop) (hq : Q r σ') : CJ Y d y_GF_isName as σ Q := by
  unfold pr_nam at h
  split at h
  · rename_i v
    have e : some (Sum.inl (iNam v)) = r ∧ σ = σ' := by simpa using h
    obtain ⟨rfl, rfl⟩ := e
    refine s_GF_isName_0 Y d v σ Q ⟨fun h0 => ⟨Or.inl rfl, ?_⟩, fun h0 => ⟨fun h1 => ⟨Or.inl rfl, ?_⟩, fun h1 => ⟨Or.inr rfl, ?_⟩⟩⟩
    · simpa [iNam, h0] using hq
    · simpa [iNam, h0, h1] using hq
    · simpa [iNam, h0, h1] using hq
  · cases h
theorem prk_dof (Y : List kd) (as : List sv) (σ : sS) (r : Option sv) (σ' : sS) (h : pr_dof as σ = some (r, σ')) (hw0 : wtS Y as) (d : Nat) (Q : Option sv → sS → Prop) (hq : Q r σ') : CJ Y d y_GF_digitOf as σ Q := by
  unfold pr_dof at h
  split at h
  · rename_i v
    have e : some (Sum.inl ((v - 97) + 1)) = r ∧ σ = σ' := by simpa using h
    obtain ⟨rfl, rfl⟩ := e
    exact s_GF_digitOf_0 Y d v σ Q hq
  · cases h
theorem c_GF_copy (Y : List kd) (d a0 a1 n : Nat) (hn : n < 2 ^ 31) (σ : sS) (k : sS → Prop) (hk : k (cp σ a0 a1 n)) : CJ Y (d + 1) y_GF_copy [sR a0 (.inr n), sR a1 (.inr n)] σ (rN k) := by
  refine s_GF_copy_0 Y d a0 n a1 n σ (rN k) ?_
  have e : (if nI n < nI n then nI n else nI n) = nI n := by split <;> rfl
  have z : Int32.toNatClampNeg 0 = 0 := rfl
  rw [e, nI_clamp hn, z]
  exact ⟨⟨by decide, by decide, nI_pos hn, by omega, by omega⟩, hk⟩
theorem c_GF_close (Y : List kd) (d a n : Nat) (hn : n < 2 ^ 31) (f e g : Int32) (σ : sS) (k : sS → Prop) (hk : k (cl σ a n f e g)) : CJ Y (d + 1) y_GF_close [sR a (.inr n), sI f, sI e, sI g] σ (rN k) := by
  unfold cl at hk
  refine s_GF_close_0 Y d a n f e g σ (rN k) ⟨fun h0 => ?_, fun h0 => ⟨fun h1 => ?_, fun h1 => ⟨fun h2 => ?_, fun h2 => ⟨fun h3 => ?_, fun h3 => ⟨?_, ?_⟩⟩⟩⟩⟩
  · rw [if_pos h0] at hk; exact hk
  · rw [if_neg h0, if_pos h1] at hk; exact hk
  · rw [if_neg h0, if_neg h1, if_pos h2] at hk; exact hk
  · rw [if_neg h0, if_neg h1, if_neg h2, if_pos h3] at hk; exact hk
  · rw [Int32.lt_iff_toInt_lt, Int32.toInt_zero] at h0
    rw [Int32.lt_iff_toInt_lt] at h1 h2 h3
    rw [nI_toInt hn] at h3
    have a1 : (f - g).toInt = f.toInt - g.toInt := by
      rw [Int32.toInt_sub]
      have := f.toInt_lt; have := g.toInt_lt; have := f.le_toInt; have := g.le_toInt
      exact Int.bmod_eq_of_le (by omega) (by omega)
    have a2 : (e - f).toInt = e.toInt - f.toInt := by
      rw [Int32.toInt_sub]
      have := f.toInt_lt; have := e.toInt_lt; have := f.le_toInt; have := e.le_toInt
      exact Int.bmod_eq_of_le (by omega) (by omega)
    simp only [Int32.lt_iff_toInt_lt, Int32.toInt_zero, i32_clamp, a1, a2]
    omega
  · rw [if_neg h0, if_neg h1, if_neg h2, if_neg h3] at hk; exact hk
end
