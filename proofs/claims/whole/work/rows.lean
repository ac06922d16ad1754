section
-- ===== PART A: goes FIRST, ahead of the names: the tables' words, and 'selects' of the private methods out of them =====
/-- a private method of a class that the tables say can be made, by its rows of tables_1 -/
def lw_okq (q : MethodName × Nat) : Prop := (q.1.cls ≠ "java/lang/invoke/MethodHandle" ∧ q.1.cls ≠ "java/lang/invoke/VarHandle") ∧ Cond.instantiable q.1.cls q.2 ∈ tables_1 ∧ Cond.privateMethod q.1 ∈ tables_1 ∧ Cond.instanceMethod q.1 ∈ tables_1
theorem lw_p0 : lw_okq (⟨"GathersAllFaults", "refuse", "(I)I"⟩, 14) := ⟨⟨by decide +kernel, by decide +kernel⟩, List.mem_of_getElem? (i := 13) (by decide +kernel), List.mem_of_getElem? (i := 294) (by decide +kernel), List.mem_of_getElem? (i := 295) (by decide +kernel)⟩
theorem lw_p1 : lw_okq (⟨"GathersAllFaults$CheckReader", "begins", "(I)Z"⟩, 11) := ⟨⟨by decide +kernel, by decide +kernel⟩, List.mem_of_getElem? (i := 210) (by decide +kernel), List.mem_of_getElem? (i := 325) (by decide +kernel), List.mem_of_getElem? (i := 326) (by decide +kernel)⟩
theorem lw_p2 : lw_okq (⟨"GathersAllFaults$CheckReader", "ends", "()V"⟩, 11) := ⟨⟨by decide +kernel, by decide +kernel⟩, List.mem_of_getElem? (i := 210) (by decide +kernel), List.mem_of_getElem? (i := 329) (by decide +kernel), List.mem_of_getElem? (i := 330) (by decide +kernel)⟩
theorem lw_p3 : lw_okq (⟨"GathersAllFaults$CheckReader", "goBehindDigits", "()V"⟩, 11) := ⟨⟨by decide +kernel, by decide +kernel⟩, List.mem_of_getElem? (i := 210) (by decide +kernel), List.mem_of_getElem? (i := 352) (by decide +kernel), List.mem_of_getElem? (i := 353) (by decide +kernel)⟩
theorem lw_p4 : lw_okq (⟨"GathersAllFaults$CheckReader", "field", "(I)Z"⟩, 11) := ⟨⟨by decide +kernel, by decide +kernel⟩, List.mem_of_getElem? (i := 210) (by decide +kernel), List.mem_of_getElem? (i := 359) (by decide +kernel), List.mem_of_getElem? (i := 360) (by decide +kernel)⟩
theorem lw_p5 : lw_okq (⟨"GathersAllFaults$CheckReader", "last", "(I)Z"⟩, 11) := ⟨⟨by decide +kernel, by decide +kernel⟩, List.mem_of_getElem? (i := 210) (by decide +kernel), List.mem_of_getElem? (i := 366) (by decide +kernel), List.mem_of_getElem? (i := 367) (by decide +kernel)⟩
theorem lw_p6 : lw_okq (⟨"GathersAllFaults$ValueReader", "begins", "(I)Z"⟩, 6) := ⟨⟨by decide +kernel, by decide +kernel⟩, List.mem_of_getElem? (i := 167) (by decide +kernel), List.mem_of_getElem? (i := 374) (by decide +kernel), List.mem_of_getElem? (i := 375) (by decide +kernel)⟩
theorem lw_p7 : lw_okq (⟨"GathersAllFaults$ValueReader", "ends", "()V"⟩, 6) := ⟨⟨by decide +kernel, by decide +kernel⟩, List.mem_of_getElem? (i := 167) (by decide +kernel), List.mem_of_getElem? (i := 381) (by decide +kernel), List.mem_of_getElem? (i := 382) (by decide +kernel)⟩
theorem lw_p8 : lw_okq (⟨"GathersAllFaults$ValueReader", "closes", "()Z"⟩, 6) := ⟨⟨by decide +kernel, by decide +kernel⟩, List.mem_of_getElem? (i := 167) (by decide +kernel), List.mem_of_getElem? (i := 388) (by decide +kernel), List.mem_of_getElem? (i := 389) (by decide +kernel)⟩
theorem lw_p9 : lw_okq (⟨"GathersAllFaults$CheckReader", "takes", "([II)Z"⟩, 11) := ⟨⟨by decide +kernel, by decide +kernel⟩, List.mem_of_getElem? (i := 210) (by decide +kernel), List.mem_of_getElem? (i := 402) (by decide +kernel), List.mem_of_getElem? (i := 403) (by decide +kernel)⟩
theorem lw_p10 : lw_okq (⟨"GathersAllFaults$CheckReader", "settle", "()V"⟩, 11) := ⟨⟨by decide +kernel, by decide +kernel⟩, List.mem_of_getElem? (i := 210) (by decide +kernel), List.mem_of_getElem? (i := 408) (by decide +kernel), List.mem_of_getElem? (i := 409) (by decide +kernel)⟩
theorem lw_p11 : lw_okq (⟨"GathersAllFaults$CheckReader", "addsField", "(II)Z"⟩, 11) := ⟨⟨by decide +kernel, by decide +kernel⟩, List.mem_of_getElem? (i := 210) (by decide +kernel), List.mem_of_getElem? (i := 415) (by decide +kernel), List.mem_of_getElem? (i := 416) (by decide +kernel)⟩
theorem lw_p12 : lw_okq (⟨"GathersAllFaults$CheckReader", "addsDependent", "(III)Z"⟩, 11) := ⟨⟨by decide +kernel, by decide +kernel⟩, List.mem_of_getElem? (i := 210) (by decide +kernel), List.mem_of_getElem? (i := 424) (by decide +kernel), List.mem_of_getElem? (i := 425) (by decide +kernel)⟩
theorem lw_p13 : lw_okq (⟨"GathersAllFaults$CheckReader", "adds", "(III)Z"⟩, 11) := ⟨⟨by decide +kernel, by decide +kernel⟩, List.mem_of_getElem? (i := 210) (by decide +kernel), List.mem_of_getElem? (i := 436) (by decide +kernel), List.mem_of_getElem? (i := 437) (by decide +kernel)⟩
theorem lw_p14 : lw_okq (⟨"GathersAllFaults$CheckReader", "canReturn", "()Z"⟩, 11) := ⟨⟨by decide +kernel, by decide +kernel⟩, List.mem_of_getElem? (i := 210) (by decide +kernel), List.mem_of_getElem? (i := 440) (by decide +kernel), List.mem_of_getElem? (i := 441) (by decide +kernel)⟩
theorem lw_p15 : lw_okq (⟨"GathersAllFaults$ValueReader", "adds", "(II)Z"⟩, 6) := ⟨⟨by decide +kernel, by decide +kernel⟩, List.mem_of_getElem? (i := 167) (by decide +kernel), List.mem_of_getElem? (i := 458) (by decide +kernel), List.mem_of_getElem? (i := 459) (by decide +kernel)⟩
def lw_privs_1 : List (MethodName × Nat) := [(⟨"GathersAllFaults", "refuse", "(I)I"⟩, 14), (⟨"GathersAllFaults$CheckReader", "begins", "(I)Z"⟩, 11), (⟨"GathersAllFaults$CheckReader", "ends", "()V"⟩, 11), (⟨"GathersAllFaults$CheckReader", "goBehindDigits", "()V"⟩, 11), (⟨"GathersAllFaults$CheckReader", "field", "(I)Z"⟩, 11), (⟨"GathersAllFaults$CheckReader", "last", "(I)Z"⟩, 11), (⟨"GathersAllFaults$ValueReader", "begins", "(I)Z"⟩, 6), (⟨"GathersAllFaults$ValueReader", "ends", "()V"⟩, 6), (⟨"GathersAllFaults$ValueReader", "closes", "()Z"⟩, 6), (⟨"GathersAllFaults$CheckReader", "takes", "([II)Z"⟩, 11), (⟨"GathersAllFaults$CheckReader", "settle", "()V"⟩, 11), (⟨"GathersAllFaults$CheckReader", "addsField", "(II)Z"⟩, 11), (⟨"GathersAllFaults$CheckReader", "addsDependent", "(III)Z"⟩, 11), (⟨"GathersAllFaults$CheckReader", "adds", "(III)Z"⟩, 11), (⟨"GathersAllFaults$CheckReader", "canReturn", "()Z"⟩, 11), (⟨"GathersAllFaults$ValueReader", "adds", "(II)Z"⟩, 6)]
theorem lw_r1 : ∀ q ∈ lw_privs_1, lw_okq q := List.forall_mem_cons.mpr ⟨lw_p0, List.forall_mem_cons.mpr ⟨lw_p1, List.forall_mem_cons.mpr ⟨lw_p2, List.forall_mem_cons.mpr ⟨lw_p3, List.forall_mem_cons.mpr ⟨lw_p4, List.forall_mem_cons.mpr ⟨lw_p5, List.forall_mem_cons.mpr ⟨lw_p6, List.forall_mem_cons.mpr ⟨lw_p7, List.forall_mem_cons.mpr ⟨lw_p8, List.forall_mem_cons.mpr ⟨lw_p9, List.forall_mem_cons.mpr ⟨lw_p10, List.forall_mem_cons.mpr ⟨lw_p11, List.forall_mem_cons.mpr ⟨lw_p12, List.forall_mem_cons.mpr ⟨lw_p13, List.forall_mem_cons.mpr ⟨lw_p14, List.forall_mem_cons.mpr ⟨lw_p15, fun _ h => absurd h List.not_mem_nil⟩⟩⟩⟩⟩⟩⟩⟩⟩⟩⟩⟩⟩⟩⟩⟩
theorem lw_p16 : lw_okq (⟨"GathersAllFaults$ValueReader", "takes", "(I)Z"⟩, 6) := ⟨⟨by decide +kernel, by decide +kernel⟩, List.mem_of_getElem? (i := 167) (by decide +kernel), List.mem_of_getElem? (i := 468) (by decide +kernel), List.mem_of_getElem? (i := 469) (by decide +kernel)⟩
theorem lw_p17 : lw_okq (⟨"GathersAllFaults$Tree", "takeOut", "(II)V"⟩, 7) := ⟨⟨by decide +kernel, by decide +kernel⟩, List.mem_of_getElem? (i := 21) (by decide +kernel), List.mem_of_getElem? (i := 527) (by decide +kernel), List.mem_of_getElem? (i := 528) (by decide +kernel)⟩
theorem lw_p18 : lw_okq (⟨"GathersAllFaults$Gatherer", "look", "(III)V"⟩, 5) := ⟨⟨by decide +kernel, by decide +kernel⟩, List.mem_of_getElem? (i := 66) (by decide +kernel), List.mem_of_getElem? (i := 546) (by decide +kernel), List.mem_of_getElem? (i := 547) (by decide +kernel)⟩
theorem lw_p19 : lw_okq (⟨"GathersAllFaults$Gatherer", "deciderOf", "(II)I"⟩, 5) := ⟨⟨by decide +kernel, by decide +kernel⟩, List.mem_of_getElem? (i := 66) (by decide +kernel), List.mem_of_getElem? (i := 550) (by decide +kernel), List.mem_of_getElem? (i := 551) (by decide +kernel)⟩
theorem lw_p20 : lw_okq (⟨"GathersAllFaults$Gatherer", "add", "(II)V"⟩, 5) := ⟨⟨by decide +kernel, by decide +kernel⟩, List.mem_of_getElem? (i := 66) (by decide +kernel), List.mem_of_getElem? (i := 555) (by decide +kernel), List.mem_of_getElem? (i := 556) (by decide +kernel)⟩
theorem lw_p21 : lw_okq (⟨"GathersAllFaults$Gatherer", "lookAtNumber", "(II)V"⟩, 5) := ⟨⟨by decide +kernel, by decide +kernel⟩, List.mem_of_getElem? (i := 66) (by decide +kernel), List.mem_of_getElem? (i := 560) (by decide +kernel), List.mem_of_getElem? (i := 561) (by decide +kernel)⟩
theorem lw_p22 : lw_okq (⟨"GathersAllFaults$Gatherer", "lookAtRecord", "(III)V"⟩, 5) := ⟨⟨by decide +kernel, by decide +kernel⟩, List.mem_of_getElem? (i := 66) (by decide +kernel), List.mem_of_getElem? (i := 564) (by decide +kernel), List.mem_of_getElem? (i := 565) (by decide +kernel)⟩
theorem lw_p23 : lw_okq (⟨"GathersAllFaults$Gatherer", "lookAtFields", "(III)V"⟩, 5) := ⟨⟨by decide +kernel, by decide +kernel⟩, List.mem_of_getElem? (i := 66) (by decide +kernel), List.mem_of_getElem? (i := 568) (by decide +kernel), List.mem_of_getElem? (i := 569) (by decide +kernel)⟩
theorem lw_p24 : lw_okq (⟨"GathersAllFaults$Gatherer", "lookForStrangers", "(II)V"⟩, 5) := ⟨⟨by decide +kernel, by decide +kernel⟩, List.mem_of_getElem? (i := 66) (by decide +kernel), List.mem_of_getElem? (i := 573) (by decide +kernel), List.mem_of_getElem? (i := 574) (by decide +kernel)⟩
theorem lw_p25 : lw_okq (⟨"GathersAllFaults$Gatherer", "lookAtDependent", "(III)V"⟩, 5) := ⟨⟨by decide +kernel, by decide +kernel⟩, List.mem_of_getElem? (i := 66) (by decide +kernel), List.mem_of_getElem? (i := 578) (by decide +kernel), List.mem_of_getElem? (i := 579) (by decide +kernel)⟩
theorem lw_p26 : lw_okq (⟨"GathersAllFaults$Gatherer", "lookAtList", "(III)V"⟩, 5) := ⟨⟨by decide +kernel, by decide +kernel⟩, List.mem_of_getElem? (i := 66) (by decide +kernel), List.mem_of_getElem? (i := 599) (by decide +kernel), List.mem_of_getElem? (i := 600) (by decide +kernel)⟩
theorem lw_p27 : lw_okq (⟨"GathersAllFaults$Gatherer", "lookForTwins", "(II)V"⟩, 5) := ⟨⟨by decide +kernel, by decide +kernel⟩, List.mem_of_getElem? (i := 66) (by decide +kernel), List.mem_of_getElem? (i := 603) (by decide +kernel), List.mem_of_getElem? (i := 604) (by decide +kernel)⟩
theorem lw_p28 : lw_okq (⟨"GathersAllFaults$Gatherer", "keepFewer", "(IIII)V"⟩, 5) := ⟨⟨by decide +kernel, by decide +kernel⟩, List.mem_of_getElem? (i := 66) (by decide +kernel), List.mem_of_getElem? (i := 607) (by decide +kernel), List.mem_of_getElem? (i := 608) (by decide +kernel)⟩
theorem lw_p29 : lw_okq (⟨"GathersAllFaults", "firstAlike", "(I)I"⟩, 14) := ⟨⟨by decide +kernel, by decide +kernel⟩, List.mem_of_getElem? (i := 13) (by decide +kernel), List.mem_of_getElem? (i := 664) (by decide +kernel), List.mem_of_getElem? (i := 665) (by decide +kernel)⟩
theorem lw_p30 : lw_okq (⟨"GathersAllFaults", "countAlike", "(I)I"⟩, 14) := ⟨⟨by decide +kernel, by decide +kernel⟩, List.mem_of_getElem? (i := 13) (by decide +kernel), List.mem_of_getElem? (i := 672) (by decide +kernel), List.mem_of_getElem? (i := 673) (by decide +kernel)⟩
theorem lw_p31 : lw_okq (⟨"GathersAllFaults$Tree", "parentOf", "(I)I"⟩, 7) := ⟨⟨by decide +kernel, by decide +kernel⟩, List.mem_of_getElem? (i := 21) (by decide +kernel), List.mem_of_getElem? (i := 684) (by decide +kernel), List.mem_of_getElem? (i := 685) (by decide +kernel)⟩
def lw_privs_2 : List (MethodName × Nat) := [(⟨"GathersAllFaults$ValueReader", "takes", "(I)Z"⟩, 6), (⟨"GathersAllFaults$Tree", "takeOut", "(II)V"⟩, 7), (⟨"GathersAllFaults$Gatherer", "look", "(III)V"⟩, 5), (⟨"GathersAllFaults$Gatherer", "deciderOf", "(II)I"⟩, 5), (⟨"GathersAllFaults$Gatherer", "add", "(II)V"⟩, 5), (⟨"GathersAllFaults$Gatherer", "lookAtNumber", "(II)V"⟩, 5), (⟨"GathersAllFaults$Gatherer", "lookAtRecord", "(III)V"⟩, 5), (⟨"GathersAllFaults$Gatherer", "lookAtFields", "(III)V"⟩, 5), (⟨"GathersAllFaults$Gatherer", "lookForStrangers", "(II)V"⟩, 5), (⟨"GathersAllFaults$Gatherer", "lookAtDependent", "(III)V"⟩, 5), (⟨"GathersAllFaults$Gatherer", "lookAtList", "(III)V"⟩, 5), (⟨"GathersAllFaults$Gatherer", "lookForTwins", "(II)V"⟩, 5), (⟨"GathersAllFaults$Gatherer", "keepFewer", "(IIII)V"⟩, 5), (⟨"GathersAllFaults", "firstAlike", "(I)I"⟩, 14), (⟨"GathersAllFaults", "countAlike", "(I)I"⟩, 14), (⟨"GathersAllFaults$Tree", "parentOf", "(I)I"⟩, 7)]
theorem lw_r2 : ∀ q ∈ lw_privs_2, lw_okq q := List.forall_mem_cons.mpr ⟨lw_p16, List.forall_mem_cons.mpr ⟨lw_p17, List.forall_mem_cons.mpr ⟨lw_p18, List.forall_mem_cons.mpr ⟨lw_p19, List.forall_mem_cons.mpr ⟨lw_p20, List.forall_mem_cons.mpr ⟨lw_p21, List.forall_mem_cons.mpr ⟨lw_p22, List.forall_mem_cons.mpr ⟨lw_p23, List.forall_mem_cons.mpr ⟨lw_p24, List.forall_mem_cons.mpr ⟨lw_p25, List.forall_mem_cons.mpr ⟨lw_p26, List.forall_mem_cons.mpr ⟨lw_p27, List.forall_mem_cons.mpr ⟨lw_p28, List.forall_mem_cons.mpr ⟨lw_p29, List.forall_mem_cons.mpr ⟨lw_p30, List.forall_mem_cons.mpr ⟨lw_p31, fun _ h => absurd h List.not_mem_nil⟩⟩⟩⟩⟩⟩⟩⟩⟩⟩⟩⟩⟩⟩⟩⟩
theorem lw_p32 : lw_okq (⟨"GathersAllFaults", "refuseLong", "(I)J"⟩, 14) := ⟨⟨by decide +kernel, by decide +kernel⟩, List.mem_of_getElem? (i := 13) (by decide +kernel), List.mem_of_getElem? (i := 701) (by decide +kernel), List.mem_of_getElem? (i := 702) (by decide +kernel)⟩
theorem lw_p33 : lw_okq (⟨"GathersAllFaults", "numbers", "()I"⟩, 14) := ⟨⟨by decide +kernel, by decide +kernel⟩, List.mem_of_getElem? (i := 13) (by decide +kernel), List.mem_of_getElem? (i := 706) (by decide +kernel), List.mem_of_getElem? (i := 707) (by decide +kernel)⟩
theorem lw_p34 : lw_okq (⟨"GathersAllFaults", "tryLosing", "(II)V"⟩, 14) := ⟨⟨by decide +kernel, by decide +kernel⟩, List.mem_of_getElem? (i := 13) (by decide +kernel), List.mem_of_getElem? (i := 710) (by decide +kernel), List.mem_of_getElem? (i := 711) (by decide +kernel)⟩
theorem lw_p35 : lw_okq (⟨"GathersAllFaults", "firstMistold", "()I"⟩, 14) := ⟨⟨by decide +kernel, by decide +kernel⟩, List.mem_of_getElem? (i := 13) (by decide +kernel), List.mem_of_getElem? (i := 734) (by decide +kernel), List.mem_of_getElem? (i := 735) (by decide +kernel)⟩
theorem lw_p36 : lw_okq (⟨"GathersAllFaults", "tryLots", "()V"⟩, 14) := ⟨⟨by decide +kernel, by decide +kernel⟩, List.mem_of_getElem? (i := 13) (by decide +kernel), List.mem_of_getElem? (i := 754) (by decide +kernel), List.mem_of_getElem? (i := 755) (by decide +kernel)⟩
theorem lw_p37 : lw_okq (⟨"GathersAllFaults", "draw", "(I)I"⟩, 14) := ⟨⟨by decide +kernel, by decide +kernel⟩, List.mem_of_getElem? (i := 13) (by decide +kernel), List.mem_of_getElem? (i := 758) (by decide +kernel), List.mem_of_getElem? (i := 759) (by decide +kernel)⟩
theorem lw_p38 : lw_okq (⟨"GathersAllFaults", "greatestPath", "()I"⟩, 14) := ⟨⟨by decide +kernel, by decide +kernel⟩, List.mem_of_getElem? (i := 13) (by decide +kernel), List.mem_of_getElem? (i := 777) (by decide +kernel), List.mem_of_getElem? (i := 778) (by decide +kernel)⟩
theorem lw_p39 : lw_okq (⟨"GathersAllFaultsModel", "measures", "()V"⟩, 54) := ⟨⟨by decide +kernel, by decide +kernel⟩, List.mem_of_getElem? (i := 784) (by decide +kernel), List.mem_of_getElem? (i := 790) (by decide +kernel), List.mem_of_getElem? (i := 791) (by decide +kernel)⟩
theorem lw_p40 : lw_okq (⟨"GathersAllFaultsModel", "many", "(I)I"⟩, 54) := ⟨⟨by decide +kernel, by decide +kernel⟩, List.mem_of_getElem? (i := 784) (by decide +kernel), List.mem_of_getElem? (i := 794) (by decide +kernel), List.mem_of_getElem? (i := 795) (by decide +kernel)⟩
theorem lw_p41 : lw_okq (⟨"GathersAllFaultsModel", "isHolding", "(I)Z"⟩, 54) := ⟨⟨by decide +kernel, by decide +kernel⟩, List.mem_of_getElem? (i := 784) (by decide +kernel), List.mem_of_getElem? (i := 798) (by decide +kernel), List.mem_of_getElem? (i := 799) (by decide +kernel)⟩
theorem lw_p42 : lw_okq (⟨"GathersAllFaultsModel", "no", "(I)I"⟩, 54) := ⟨⟨by decide +kernel, by decide +kernel⟩, List.mem_of_getElem? (i := 784) (by decide +kernel), List.mem_of_getElem? (i := 972) (by decide +kernel), List.mem_of_getElem? (i := 973) (by decide +kernel)⟩
theorem lw_p43 : lw_okq (⟨"GathersAllFaultsModel", "passesValue", "(IZ)V"⟩, 54) := ⟨⟨by decide +kernel, by decide +kernel⟩, List.mem_of_getElem? (i := 784) (by decide +kernel), List.mem_of_getElem? (i := 980) (by decide +kernel), List.mem_of_getElem? (i := 981) (by decide +kernel)⟩
theorem lw_p44 : lw_okq (⟨"GathersAllFaultsModel", "passes", "([I)V"⟩, 54) := ⟨⟨by decide +kernel, by decide +kernel⟩, List.mem_of_getElem? (i := 784) (by decide +kernel), List.mem_of_getElem? (i := 984) (by decide +kernel), List.mem_of_getElem? (i := 985) (by decide +kernel)⟩
theorem lw_p45 : lw_okq (⟨"GathersAllFaultsModel", "passOne", "(I)I"⟩, 54) := ⟨⟨by decide +kernel, by decide +kernel⟩, List.mem_of_getElem? (i := 784) (by decide +kernel), List.mem_of_getElem? (i := 988) (by decide +kernel), List.mem_of_getElem? (i := 989) (by decide +kernel)⟩
theorem lw_p46 : lw_okq (⟨"GathersAllFaultsModel", "readsValue", "()Z"⟩, 54) := ⟨⟨by decide +kernel, by decide +kernel⟩, List.mem_of_getElem? (i := 784) (by decide +kernel), List.mem_of_getElem? (i := 992) (by decide +kernel), List.mem_of_getElem? (i := 993) (by decide +kernel)⟩
theorem lw_p47 : lw_okq (⟨"GathersAllFaultsModel", "readsPart", "()Z"⟩, 54) := ⟨⟨by decide +kernel, by decide +kernel⟩, List.mem_of_getElem? (i := 784) (by decide +kernel), List.mem_of_getElem? (i := 996) (by decide +kernel), List.mem_of_getElem? (i := 997) (by decide +kernel)⟩
def lw_privs_3 : List (MethodName × Nat) := [(⟨"GathersAllFaults", "refuseLong", "(I)J"⟩, 14), (⟨"GathersAllFaults", "numbers", "()I"⟩, 14), (⟨"GathersAllFaults", "tryLosing", "(II)V"⟩, 14), (⟨"GathersAllFaults", "firstMistold", "()I"⟩, 14), (⟨"GathersAllFaults", "tryLots", "()V"⟩, 14), (⟨"GathersAllFaults", "draw", "(I)I"⟩, 14), (⟨"GathersAllFaults", "greatestPath", "()I"⟩, 14), (⟨"GathersAllFaultsModel", "measures", "()V"⟩, 54), (⟨"GathersAllFaultsModel", "many", "(I)I"⟩, 54), (⟨"GathersAllFaultsModel", "isHolding", "(I)Z"⟩, 54), (⟨"GathersAllFaultsModel", "no", "(I)I"⟩, 54), (⟨"GathersAllFaultsModel", "passesValue", "(IZ)V"⟩, 54), (⟨"GathersAllFaultsModel", "passes", "([I)V"⟩, 54), (⟨"GathersAllFaultsModel", "passOne", "(I)I"⟩, 54), (⟨"GathersAllFaultsModel", "readsValue", "()Z"⟩, 54), (⟨"GathersAllFaultsModel", "readsPart", "()Z"⟩, 54)]
theorem lw_r3 : ∀ q ∈ lw_privs_3, lw_okq q := List.forall_mem_cons.mpr ⟨lw_p32, List.forall_mem_cons.mpr ⟨lw_p33, List.forall_mem_cons.mpr ⟨lw_p34, List.forall_mem_cons.mpr ⟨lw_p35, List.forall_mem_cons.mpr ⟨lw_p36, List.forall_mem_cons.mpr ⟨lw_p37, List.forall_mem_cons.mpr ⟨lw_p38, List.forall_mem_cons.mpr ⟨lw_p39, List.forall_mem_cons.mpr ⟨lw_p40, List.forall_mem_cons.mpr ⟨lw_p41, List.forall_mem_cons.mpr ⟨lw_p42, List.forall_mem_cons.mpr ⟨lw_p43, List.forall_mem_cons.mpr ⟨lw_p44, List.forall_mem_cons.mpr ⟨lw_p45, List.forall_mem_cons.mpr ⟨lw_p46, List.forall_mem_cons.mpr ⟨lw_p47, fun _ h => absurd h List.not_mem_nil⟩⟩⟩⟩⟩⟩⟩⟩⟩⟩⟩⟩⟩⟩⟩⟩
theorem lw_p48 : lw_okq (⟨"GathersAllFaultsModel", "sign", "()I"⟩, 54) := ⟨⟨by decide +kernel, by decide +kernel⟩, List.mem_of_getElem? (i := 784) (by decide +kernel), List.mem_of_getElem? (i := 1000) (by decide +kernel), List.mem_of_getElem? (i := 1001) (by decide +kernel)⟩
theorem lw_p49 : lw_okq (⟨"GathersAllFaultsModel", "readsNumber", "()Z"⟩, 54) := ⟨⟨by decide +kernel, by decide +kernel⟩, List.mem_of_getElem? (i := 784) (by decide +kernel), List.mem_of_getElem? (i := 1007) (by decide +kernel), List.mem_of_getElem? (i := 1008) (by decide +kernel)⟩
theorem lw_p50 : lw_okq (⟨"GathersAllFaultsModel", "beginsPart", "(II)I"⟩, 54) := ⟨⟨by decide +kernel, by decide +kernel⟩, List.mem_of_getElem? (i := 784) (by decide +kernel), List.mem_of_getElem? (i := 1011) (by decide +kernel), List.mem_of_getElem? (i := 1012) (by decide +kernel)⟩
theorem lw_p51 : lw_okq (⟨"GathersAllFaultsModel", "isBad", "(I)V"⟩, 54) := ⟨⟨by decide +kernel, by decide +kernel⟩, List.mem_of_getElem? (i := 784) (by decide +kernel), List.mem_of_getElem? (i := 1015) (by decide +kernel), List.mem_of_getElem? (i := 1016) (by decide +kernel)⟩
theorem lw_p52 : lw_okq (⟨"GathersAllFaultsModel", "digit", "()I"⟩, 54) := ⟨⟨by decide +kernel, by decide +kernel⟩, List.mem_of_getElem? (i := 784) (by decide +kernel), List.mem_of_getElem? (i := 1019) (by decide +kernel), List.mem_of_getElem? (i := 1020) (by decide +kernel)⟩
theorem lw_p53 : lw_okq (⟨"GathersAllFaultsModel", "opens", "(IIZ)V"⟩, 54) := ⟨⟨by decide +kernel, by decide +kernel⟩, List.mem_of_getElem? (i := 784) (by decide +kernel), List.mem_of_getElem? (i := 1023) (by decide +kernel), List.mem_of_getElem? (i := 1024) (by decide +kernel)⟩
theorem lw_p54 : lw_okq (⟨"GathersAllFaultsModel", "readsInside", "()Z"⟩, 54) := ⟨⟨by decide +kernel, by decide +kernel⟩, List.mem_of_getElem? (i := 784) (by decide +kernel), List.mem_of_getElem? (i := 1027) (by decide +kernel), List.mem_of_getElem? (i := 1028) (by decide +kernel)⟩
theorem lw_p55 : lw_okq (⟨"GathersAllFaultsModel", "closes", "(I)Z"⟩, 54) := ⟨⟨by decide +kernel, by decide +kernel⟩, List.mem_of_getElem? (i := 784) (by decide +kernel), List.mem_of_getElem? (i := 1031) (by decide +kernel), List.mem_of_getElem? (i := 1032) (by decide +kernel)⟩
theorem lw_p56 : lw_okq (⟨"GathersAllFaultsModel", "reads", "(I)Z"⟩, 54) := ⟨⟨by decide +kernel, by decide +kernel⟩, List.mem_of_getElem? (i := 784) (by decide +kernel), List.mem_of_getElem? (i := 1035) (by decide +kernel), List.mem_of_getElem? (i := 1036) (by decide +kernel)⟩
theorem lw_p57 : lw_okq (⟨"GathersAllFaultsModel", "readsField", "()Z"⟩, 54) := ⟨⟨by decide +kernel, by decide +kernel⟩, List.mem_of_getElem? (i := 784) (by decide +kernel), List.mem_of_getElem? (i := 1039) (by decide +kernel), List.mem_of_getElem? (i := 1040) (by decide +kernel)⟩
theorem lw_p58 : lw_okq (⟨"GathersAllFaultsModel", "nameNow", "()I"⟩, 54) := ⟨⟨by decide +kernel, by decide +kernel⟩, List.mem_of_getElem? (i := 784) (by decide +kernel), List.mem_of_getElem? (i := 1043) (by decide +kernel), List.mem_of_getElem? (i := 1044) (by decide +kernel)⟩
theorem lw_p59 : lw_okq (⟨"GathersAllFaultsModel", "passesCheck", "(IZ)V"⟩, 54) := ⟨⟨by decide +kernel, by decide +kernel⟩, List.mem_of_getElem? (i := 784) (by decide +kernel), List.mem_of_getElem? (i := 1054) (by decide +kernel), List.mem_of_getElem? (i := 1055) (by decide +kernel)⟩
theorem lw_p60 : lw_okq (⟨"GathersAllFaultsModel", "readsAllCheck", "()Z"⟩, 54) := ⟨⟨by decide +kernel, by decide +kernel⟩, List.mem_of_getElem? (i := 784) (by decide +kernel), List.mem_of_getElem? (i := 1058) (by decide +kernel), List.mem_of_getElem? (i := 1059) (by decide +kernel)⟩
theorem lw_p61 : lw_okq (⟨"GathersAllFaultsModel", "readsCheck", "()Z"⟩, 54) := ⟨⟨by decide +kernel, by decide +kernel⟩, List.mem_of_getElem? (i := 784) (by decide +kernel), List.mem_of_getElem? (i := 1062) (by decide +kernel), List.mem_of_getElem? (i := 1063) (by decide +kernel)⟩
theorem lw_p62 : lw_okq (⟨"GathersAllFaultsModel", "isInside", "()Z"⟩, 54) := ⟨⟨by decide +kernel, by decide +kernel⟩, List.mem_of_getElem? (i := 784) (by decide +kernel), List.mem_of_getElem? (i := 1066) (by decide +kernel), List.mem_of_getElem? (i := 1067) (by decide +kernel)⟩
theorem lw_p63 : lw_okq (⟨"GathersAllFaultsModel", "beginsCheck", "(I)I"⟩, 54) := ⟨⟨by decide +kernel, by decide +kernel⟩, List.mem_of_getElem? (i := 784) (by decide +kernel), List.mem_of_getElem? (i := 1070) (by decide +kernel), List.mem_of_getElem? (i := 1071) (by decide +kernel)⟩
def lw_privs_4 : List (MethodName × Nat) := [(⟨"GathersAllFaultsModel", "sign", "()I"⟩, 54), (⟨"GathersAllFaultsModel", "readsNumber", "()Z"⟩, 54), (⟨"GathersAllFaultsModel", "beginsPart", "(II)I"⟩, 54), (⟨"GathersAllFaultsModel", "isBad", "(I)V"⟩, 54), (⟨"GathersAllFaultsModel", "digit", "()I"⟩, 54), (⟨"GathersAllFaultsModel", "opens", "(IIZ)V"⟩, 54), (⟨"GathersAllFaultsModel", "readsInside", "()Z"⟩, 54), (⟨"GathersAllFaultsModel", "closes", "(I)Z"⟩, 54), (⟨"GathersAllFaultsModel", "reads", "(I)Z"⟩, 54), (⟨"GathersAllFaultsModel", "readsField", "()Z"⟩, 54), (⟨"GathersAllFaultsModel", "nameNow", "()I"⟩, 54), (⟨"GathersAllFaultsModel", "passesCheck", "(IZ)V"⟩, 54), (⟨"GathersAllFaultsModel", "readsAllCheck", "()Z"⟩, 54), (⟨"GathersAllFaultsModel", "readsCheck", "()Z"⟩, 54), (⟨"GathersAllFaultsModel", "isInside", "()Z"⟩, 54), (⟨"GathersAllFaultsModel", "beginsCheck", "(I)I"⟩, 54)]
theorem lw_r4 : ∀ q ∈ lw_privs_4, lw_okq q := List.forall_mem_cons.mpr ⟨lw_p48, List.forall_mem_cons.mpr ⟨lw_p49, List.forall_mem_cons.mpr ⟨lw_p50, List.forall_mem_cons.mpr ⟨lw_p51, List.forall_mem_cons.mpr ⟨lw_p52, List.forall_mem_cons.mpr ⟨lw_p53, List.forall_mem_cons.mpr ⟨lw_p54, List.forall_mem_cons.mpr ⟨lw_p55, List.forall_mem_cons.mpr ⟨lw_p56, List.forall_mem_cons.mpr ⟨lw_p57, List.forall_mem_cons.mpr ⟨lw_p58, List.forall_mem_cons.mpr ⟨lw_p59, List.forall_mem_cons.mpr ⟨lw_p60, List.forall_mem_cons.mpr ⟨lw_p61, List.forall_mem_cons.mpr ⟨lw_p62, List.forall_mem_cons.mpr ⟨lw_p63, fun _ h => absurd h List.not_mem_nil⟩⟩⟩⟩⟩⟩⟩⟩⟩⟩⟩⟩⟩⟩⟩⟩
theorem lw_p64 : lw_okq (⟨"GathersAllFaultsModel", "readsBounds", "(II)Z"⟩, 54) := ⟨⟨by decide +kernel, by decide +kernel⟩, List.mem_of_getElem? (i := 784) (by decide +kernel), List.mem_of_getElem? (i := 1074) (by decide +kernel), List.mem_of_getElem? (i := 1075) (by decide +kernel)⟩
theorem lw_p65 : lw_okq (⟨"GathersAllFaultsModel", "endsCheck", "(I)V"⟩, 54) := ⟨⟨by decide +kernel, by decide +kernel⟩, List.mem_of_getElem? (i := 784) (by decide +kernel), List.mem_of_getElem? (i := 1078) (by decide +kernel), List.mem_of_getElem? (i := 1079) (by decide +kernel)⟩
theorem lw_p66 : lw_okq (⟨"GathersAllFaultsModel", "readsInCheck", "()Z"⟩, 54) := ⟨⟨by decide +kernel, by decide +kernel⟩, List.mem_of_getElem? (i := 784) (by decide +kernel), List.mem_of_getElem? (i := 1082) (by decide +kernel), List.mem_of_getElem? (i := 1083) (by decide +kernel)⟩
theorem lw_p67 : lw_okq (⟨"GathersAllFaultsModel", "readsWaiter", "()Z"⟩, 54) := ⟨⟨by decide +kernel, by decide +kernel⟩, List.mem_of_getElem? (i := 784) (by decide +kernel), List.mem_of_getElem? (i := 1086) (by decide +kernel), List.mem_of_getElem? (i := 1087) (by decide +kernel)⟩
theorem lw_p68 : lw_okq (⟨"GathersAllFaultsModel", "closesRecord", "()Z"⟩, 54) := ⟨⟨by decide +kernel, by decide +kernel⟩, List.mem_of_getElem? (i := 784) (by decide +kernel), List.mem_of_getElem? (i := 1090) (by decide +kernel), List.mem_of_getElem? (i := 1091) (by decide +kernel)⟩
theorem lw_p69 : lw_okq (⟨"GathersAllFaultsModel", "readsCheckField", "()Z"⟩, 54) := ⟨⟨by decide +kernel, by decide +kernel⟩, List.mem_of_getElem? (i := 784) (by decide +kernel), List.mem_of_getElem? (i := 1094) (by decide +kernel), List.mem_of_getElem? (i := 1095) (by decide +kernel)⟩
theorem lw_p70 : lw_okq (⟨"GathersAllFaultsModel", "partAt", "(I)I"⟩, 54) := ⟨⟨by decide +kernel, by decide +kernel⟩, List.mem_of_getElem? (i := 784) (by decide +kernel), List.mem_of_getElem? (i := 1110) (by decide +kernel), List.mem_of_getElem? (i := 1111) (by decide +kernel)⟩
theorem lw_p71 : lw_okq (⟨"GathersAllFaultsModel", "putsAt", "(III)V"⟩, 54) := ⟨⟨by decide +kernel, by decide +kernel⟩, List.mem_of_getElem? (i := 784) (by decide +kernel), List.mem_of_getElem? (i := 1122) (by decide +kernel), List.mem_of_getElem? (i := 1123) (by decide +kernel)⟩
theorem lw_p72 : lw_okq (⟨"GathersAllFaultsModel", "takesOut", "(II)V"⟩, 54) := ⟨⟨by decide +kernel, by decide +kernel⟩, List.mem_of_getElem? (i := 784) (by decide +kernel), List.mem_of_getElem? (i := 1126) (by decide +kernel), List.mem_of_getElem? (i := 1127) (by decide +kernel)⟩
theorem lw_p73 : lw_okq (⟨"GathersAllFaultsModel", "manyNow", "()I"⟩, 54) := ⟨⟨by decide +kernel, by decide +kernel⟩, List.mem_of_getElem? (i := 784) (by decide +kernel), List.mem_of_getElem? (i := 1138) (by decide +kernel), List.mem_of_getElem? (i := 1139) (by decide +kernel)⟩
theorem lw_p74 : lw_okq (⟨"GathersAllFaultsModel", "findFaults", "()V"⟩, 54) := ⟨⟨by decide +kernel, by decide +kernel⟩, List.mem_of_getElem? (i := 784) (by decide +kernel), List.mem_of_getElem? (i := 1142) (by decide +kernel), List.mem_of_getElem? (i := 1143) (by decide +kernel)⟩
theorem lw_p75 : lw_okq (⟨"GathersAllFaultsModel", "looks", "(II)V"⟩, 54) := ⟨⟨by decide +kernel, by decide +kernel⟩, List.mem_of_getElem? (i := 784) (by decide +kernel), List.mem_of_getElem? (i := 1146) (by decide +kernel), List.mem_of_getElem? (i := 1147) (by decide +kernel)⟩
theorem lw_p76 : lw_okq (⟨"GathersAllFaultsModel", "goesOn", "(II)V"⟩, 54) := ⟨⟨by decide +kernel, by decide +kernel⟩, List.mem_of_getElem? (i := 784) (by decide +kernel), List.mem_of_getElem? (i := 1150) (by decide +kernel), List.mem_of_getElem? (i := 1151) (by decide +kernel)⟩
theorem lw_p77 : lw_okq (⟨"GathersAllFaultsModel", "findsNumber", "(II)V"⟩, 54) := ⟨⟨by decide +kernel, by decide +kernel⟩, List.mem_of_getElem? (i := 784) (by decide +kernel), List.mem_of_getElem? (i := 1154) (by decide +kernel), List.mem_of_getElem? (i := 1155) (by decide +kernel)⟩
theorem lw_p78 : lw_okq (⟨"GathersAllFaultsModel", "finds", "(II)V"⟩, 54) := ⟨⟨by decide +kernel, by decide +kernel⟩, List.mem_of_getElem? (i := 784) (by decide +kernel), List.mem_of_getElem? (i := 1158) (by decide +kernel), List.mem_of_getElem? (i := 1159) (by decide +kernel)⟩
theorem lw_p79 : lw_okq (⟨"GathersAllFaultsModel", "findsThere", "(II)V"⟩, 54) := ⟨⟨by decide +kernel, by decide +kernel⟩, List.mem_of_getElem? (i := 784) (by decide +kernel), List.mem_of_getElem? (i := 1162) (by decide +kernel), List.mem_of_getElem? (i := 1163) (by decide +kernel)⟩
def lw_privs_5 : List (MethodName × Nat) := [(⟨"GathersAllFaultsModel", "readsBounds", "(II)Z"⟩, 54), (⟨"GathersAllFaultsModel", "endsCheck", "(I)V"⟩, 54), (⟨"GathersAllFaultsModel", "readsInCheck", "()Z"⟩, 54), (⟨"GathersAllFaultsModel", "readsWaiter", "()Z"⟩, 54), (⟨"GathersAllFaultsModel", "closesRecord", "()Z"⟩, 54), (⟨"GathersAllFaultsModel", "readsCheckField", "()Z"⟩, 54), (⟨"GathersAllFaultsModel", "partAt", "(I)I"⟩, 54), (⟨"GathersAllFaultsModel", "putsAt", "(III)V"⟩, 54), (⟨"GathersAllFaultsModel", "takesOut", "(II)V"⟩, 54), (⟨"GathersAllFaultsModel", "manyNow", "()I"⟩, 54), (⟨"GathersAllFaultsModel", "findFaults", "()V"⟩, 54), (⟨"GathersAllFaultsModel", "looks", "(II)V"⟩, 54), (⟨"GathersAllFaultsModel", "goesOn", "(II)V"⟩, 54), (⟨"GathersAllFaultsModel", "findsNumber", "(II)V"⟩, 54), (⟨"GathersAllFaultsModel", "finds", "(II)V"⟩, 54), (⟨"GathersAllFaultsModel", "findsThere", "(II)V"⟩, 54)]
theorem lw_r5 : ∀ q ∈ lw_privs_5, lw_okq q := List.forall_mem_cons.mpr ⟨lw_p64, List.forall_mem_cons.mpr ⟨lw_p65, List.forall_mem_cons.mpr ⟨lw_p66, List.forall_mem_cons.mpr ⟨lw_p67, List.forall_mem_cons.mpr ⟨lw_p68, List.forall_mem_cons.mpr ⟨lw_p69, List.forall_mem_cons.mpr ⟨lw_p70, List.forall_mem_cons.mpr ⟨lw_p71, List.forall_mem_cons.mpr ⟨lw_p72, List.forall_mem_cons.mpr ⟨lw_p73, List.forall_mem_cons.mpr ⟨lw_p74, List.forall_mem_cons.mpr ⟨lw_p75, List.forall_mem_cons.mpr ⟨lw_p76, List.forall_mem_cons.mpr ⟨lw_p77, List.forall_mem_cons.mpr ⟨lw_p78, List.forall_mem_cons.mpr ⟨lw_p79, fun _ h => absurd h List.not_mem_nil⟩⟩⟩⟩⟩⟩⟩⟩⟩⟩⟩⟩⟩⟩⟩⟩
theorem lw_p80 : lw_okq (⟨"GathersAllFaultsModel", "looksAs", "(I)V"⟩, 54) := ⟨⟨by decide +kernel, by decide +kernel⟩, List.mem_of_getElem? (i := 784) (by decide +kernel), List.mem_of_getElem? (i := 1166) (by decide +kernel), List.mem_of_getElem? (i := 1167) (by decide +kernel)⟩
theorem lw_p81 : lw_okq (⟨"GathersAllFaultsModel", "findsRecord", "(II)V"⟩, 54) := ⟨⟨by decide +kernel, by decide +kernel⟩, List.mem_of_getElem? (i := 784) (by decide +kernel), List.mem_of_getElem? (i := 1170) (by decide +kernel), List.mem_of_getElem? (i := 1171) (by decide +kernel)⟩
theorem lw_p82 : lw_okq (⟨"GathersAllFaultsModel", "fieldAt", "(II)I"⟩, 54) := ⟨⟨by decide +kernel, by decide +kernel⟩, List.mem_of_getElem? (i := 784) (by decide +kernel), List.mem_of_getElem? (i := 1174) (by decide +kernel), List.mem_of_getElem? (i := 1175) (by decide +kernel)⟩
theorem lw_p83 : lw_okq (⟨"GathersAllFaultsModel", "endsRecord", "(II)V"⟩, 54) := ⟨⟨by decide +kernel, by decide +kernel⟩, List.mem_of_getElem? (i := 784) (by decide +kernel), List.mem_of_getElem? (i := 1178) (by decide +kernel), List.mem_of_getElem? (i := 1179) (by decide +kernel)⟩
theorem lw_p84 : lw_okq (⟨"GathersAllFaultsModel", "findsMore", "(II)V"⟩, 54) := ⟨⟨by decide +kernel, by decide +kernel⟩, List.mem_of_getElem? (i := 784) (by decide +kernel), List.mem_of_getElem? (i := 1182) (by decide +kernel), List.mem_of_getElem? (i := 1183) (by decide +kernel)⟩
theorem lw_p85 : lw_okq (⟨"GathersAllFaultsModel", "childOf", "(II)I"⟩, 54) := ⟨⟨by decide +kernel, by decide +kernel⟩, List.mem_of_getElem? (i := 784) (by decide +kernel), List.mem_of_getElem? (i := 1186) (by decide +kernel), List.mem_of_getElem? (i := 1187) (by decide +kernel)⟩
theorem lw_p86 : lw_okq (⟨"GathersAllFaultsModel", "isToldField", "(II)Z"⟩, 54) := ⟨⟨by decide +kernel, by decide +kernel⟩, List.mem_of_getElem? (i := 784) (by decide +kernel), List.mem_of_getElem? (i := 1190) (by decide +kernel), List.mem_of_getElem? (i := 1191) (by decide +kernel)⟩
theorem lw_p87 : lw_okq (⟨"GathersAllFaultsModel", "findsWaiter", "(III)V"⟩, 54) := ⟨⟨by decide +kernel, by decide +kernel⟩, List.mem_of_getElem? (i := 784) (by decide +kernel), List.mem_of_getElem? (i := 1194) (by decide +kernel), List.mem_of_getElem? (i := 1195) (by decide +kernel)⟩
theorem lw_p88 : lw_okq (⟨"GathersAllFaultsModel", "fieldOf", "(II)I"⟩, 54) := ⟨⟨by decide +kernel, by decide +kernel⟩, List.mem_of_getElem? (i := 784) (by decide +kernel), List.mem_of_getElem? (i := 1198) (by decide +kernel), List.mem_of_getElem? (i := 1199) (by decide +kernel)⟩
theorem lw_p89 : lw_okq (⟨"GathersAllFaultsModel", "isAnyBelow", "(II)Z"⟩, 54) := ⟨⟨by decide +kernel, by decide +kernel⟩, List.mem_of_getElem? (i := 784) (by decide +kernel), List.mem_of_getElem? (i := 1202) (by decide +kernel), List.mem_of_getElem? (i := 1203) (by decide +kernel)⟩
theorem lw_p90 : lw_okq (⟨"GathersAllFaultsModel", "isLess", "(II)Z"⟩, 54) := ⟨⟨by decide +kernel, by decide +kernel⟩, List.mem_of_getElem? (i := 784) (by decide +kernel), List.mem_of_getElem? (i := 1209) (by decide +kernel), List.mem_of_getElem? (i := 1210) (by decide +kernel)⟩
theorem lw_p91 : lw_okq (⟨"GathersAllFaultsModel", "areSame", "(II)Z"⟩, 54) := ⟨⟨by decide +kernel, by decide +kernel⟩, List.mem_of_getElem? (i := 784) (by decide +kernel), List.mem_of_getElem? (i := 1213) (by decide +kernel), List.mem_of_getElem? (i := 1214) (by decide +kernel)⟩
theorem lw_p92 : lw_okq (⟨"GathersAllFaultsModel", "hasAlike", "(III)Z"⟩, 54) := ⟨⟨by decide +kernel, by decide +kernel⟩, List.mem_of_getElem? (i := 784) (by decide +kernel), List.mem_of_getElem? (i := 1217) (by decide +kernel), List.mem_of_getElem? (i := 1218) (by decide +kernel)⟩
theorem lw_p93 : lw_okq (⟨"GathersAllFaultsModel", "findsList", "(II)V"⟩, 54) := ⟨⟨by decide +kernel, by decide +kernel⟩, List.mem_of_getElem? (i := 784) (by decide +kernel), List.mem_of_getElem? (i := 1224) (by decide +kernel), List.mem_of_getElem? (i := 1225) (by decide +kernel)⟩
theorem lw_p94 : lw_okq (⟨"GathersAllFaultsModel", "findsAgain", "(II)V"⟩, 54) := ⟨⟨by decide +kernel, by decide +kernel⟩, List.mem_of_getElem? (i := 784) (by decide +kernel), List.mem_of_getElem? (i := 1228) (by decide +kernel), List.mem_of_getElem? (i := 1229) (by decide +kernel)⟩
theorem lw_p95 : lw_okq (⟨"GathersAllFaultsModel", "isAgain", "(II)Z"⟩, 54) := ⟨⟨by decide +kernel, by decide +kernel⟩, List.mem_of_getElem? (i := 784) (by decide +kernel), List.mem_of_getElem? (i := 1232) (by decide +kernel), List.mem_of_getElem? (i := 1233) (by decide +kernel)⟩
def lw_privs_6 : List (MethodName × Nat) := [(⟨"GathersAllFaultsModel", "looksAs", "(I)V"⟩, 54), (⟨"GathersAllFaultsModel", "findsRecord", "(II)V"⟩, 54), (⟨"GathersAllFaultsModel", "fieldAt", "(II)I"⟩, 54), (⟨"GathersAllFaultsModel", "endsRecord", "(II)V"⟩, 54), (⟨"GathersAllFaultsModel", "findsMore", "(II)V"⟩, 54), (⟨"GathersAllFaultsModel", "childOf", "(II)I"⟩, 54), (⟨"GathersAllFaultsModel", "isToldField", "(II)Z"⟩, 54), (⟨"GathersAllFaultsModel", "findsWaiter", "(III)V"⟩, 54), (⟨"GathersAllFaultsModel", "fieldOf", "(II)I"⟩, 54), (⟨"GathersAllFaultsModel", "isAnyBelow", "(II)Z"⟩, 54), (⟨"GathersAllFaultsModel", "isLess", "(II)Z"⟩, 54), (⟨"GathersAllFaultsModel", "areSame", "(II)Z"⟩, 54), (⟨"GathersAllFaultsModel", "hasAlike", "(III)Z"⟩, 54), (⟨"GathersAllFaultsModel", "findsList", "(II)V"⟩, 54), (⟨"GathersAllFaultsModel", "findsAgain", "(II)V"⟩, 54), (⟨"GathersAllFaultsModel", "isAgain", "(II)Z"⟩, 54)]
theorem lw_r6 : ∀ q ∈ lw_privs_6, lw_okq q := List.forall_mem_cons.mpr ⟨lw_p80, List.forall_mem_cons.mpr ⟨lw_p81, List.forall_mem_cons.mpr ⟨lw_p82, List.forall_mem_cons.mpr ⟨lw_p83, List.forall_mem_cons.mpr ⟨lw_p84, List.forall_mem_cons.mpr ⟨lw_p85, List.forall_mem_cons.mpr ⟨lw_p86, List.forall_mem_cons.mpr ⟨lw_p87, List.forall_mem_cons.mpr ⟨lw_p88, List.forall_mem_cons.mpr ⟨lw_p89, List.forall_mem_cons.mpr ⟨lw_p90, List.forall_mem_cons.mpr ⟨lw_p91, List.forall_mem_cons.mpr ⟨lw_p92, List.forall_mem_cons.mpr ⟨lw_p93, List.forall_mem_cons.mpr ⟨lw_p94, List.forall_mem_cons.mpr ⟨lw_p95, fun _ h => absurd h List.not_mem_nil⟩⟩⟩⟩⟩⟩⟩⟩⟩⟩⟩⟩⟩⟩⟩⟩
theorem lw_p96 : lw_okq (⟨"GathersAllFaultsModel", "findsEither", "(II)V"⟩, 54) := ⟨⟨by decide +kernel, by decide +kernel⟩, List.mem_of_getElem? (i := 784) (by decide +kernel), List.mem_of_getElem? (i := 1236) (by decide +kernel), List.mem_of_getElem? (i := 1237) (by decide +kernel)⟩
theorem lw_p97 : lw_okq (⟨"GathersAllFaultsModel", "endsEither", "()V"⟩, 54) := ⟨⟨by decide +kernel, by decide +kernel⟩, List.mem_of_getElem? (i := 784) (by decide +kernel), List.mem_of_getElem? (i := 1240) (by decide +kernel), List.mem_of_getElem? (i := 1241) (by decide +kernel)⟩
theorem lw_p98 : lw_okq (⟨"GathersAllFaultsModel", "takesSecond", "(II)V"⟩, 54) := ⟨⟨by decide +kernel, by decide +kernel⟩, List.mem_of_getElem? (i := 784) (by decide +kernel), List.mem_of_getElem? (i := 1244) (by decide +kernel), List.mem_of_getElem? (i := 1245) (by decide +kernel)⟩
theorem lw_p99 : lw_okq (⟨"GathersAllFaultsModel", "toldAt", "(I)I"⟩, 54) := ⟨⟨by decide +kernel, by decide +kernel⟩, List.mem_of_getElem? (i := 784) (by decide +kernel), List.mem_of_getElem? (i := 1269) (by decide +kernel), List.mem_of_getElem? (i := 1270) (by decide +kernel)⟩
theorem lw_p100 : lw_okq (⟨"GathersAllFaultsModel", "allNumbers", "()I"⟩, 54) := ⟨⟨by decide +kernel, by decide +kernel⟩, List.mem_of_getElem? (i := 784) (by decide +kernel), List.mem_of_getElem? (i := 1281) (by decide +kernel), List.mem_of_getElem? (i := 1282) (by decide +kernel)⟩
theorem lw_p101 : lw_okq (⟨"GathersAllFaultsModel", "alike", "(II)I"⟩, 54) := ⟨⟨by decide +kernel, by decide +kernel⟩, List.mem_of_getElem? (i := 784) (by decide +kernel), List.mem_of_getElem? (i := 1293) (by decide +kernel), List.mem_of_getElem? (i := 1294) (by decide +kernel)⟩
theorem lw_p102 : lw_okq (⟨"GathersAllFaultsModel", "minds", "()V"⟩, 54) := ⟨⟨by decide +kernel, by decide +kernel⟩, List.mem_of_getElem? (i := 784) (by decide +kernel), List.mem_of_getElem? (i := 1305) (by decide +kernel), List.mem_of_getElem? (i := 1306) (by decide +kernel)⟩
theorem lw_p103 : lw_okq (⟨"GathersAllFaultsModel", "leavesOut", "(I)V"⟩, 54) := ⟨⟨by decide +kernel, by decide +kernel⟩, List.mem_of_getElem? (i := 784) (by decide +kernel), List.mem_of_getElem? (i := 1309) (by decide +kernel), List.mem_of_getElem? (i := 1310) (by decide +kernel)⟩
theorem lw_p104 : lw_okq (⟨"GathersAllFaultsModel", "forgets", "()V"⟩, 54) := ⟨⟨by decide +kernel, by decide +kernel⟩, List.mem_of_getElem? (i := 784) (by decide +kernel), List.mem_of_getElem? (i := 1313) (by decide +kernel), List.mem_of_getElem? (i := 1314) (by decide +kernel)⟩
theorem lw_p105 : lw_okq (⟨"GathersAllFaultsModel", "faultsWith", "(II)I"⟩, 54) := ⟨⟨by decide +kernel, by decide +kernel⟩, List.mem_of_getElem? (i := 784) (by decide +kernel), List.mem_of_getElem? (i := 1321) (by decide +kernel), List.mem_of_getElem? (i := 1322) (by decide +kernel)⟩
theorem lw_p106 : lw_okq (⟨"GathersAllFaultsModel", "lowestOf", "(I)J"⟩, 54) := ⟨⟨by decide +kernel, by decide +kernel⟩, List.mem_of_getElem? (i := 784) (by decide +kernel), List.mem_of_getElem? (i := 1333) (by decide +kernel), List.mem_of_getElem? (i := 1334) (by decide +kernel)⟩
theorem lw_p107 : lw_okq (⟨"GathersAllFaultsModel", "numbersUpTo", "(I)I"⟩, 54) := ⟨⟨by decide +kernel, by decide +kernel⟩, List.mem_of_getElem? (i := 784) (by decide +kernel), List.mem_of_getElem? (i := 1338) (by decide +kernel), List.mem_of_getElem? (i := 1339) (by decide +kernel)⟩
theorem lw_p108 : lw_okq (⟨"GathersAllFaultsModel", "losesSome", "(I)V"⟩, 54) := ⟨⟨by decide +kernel, by decide +kernel⟩, List.mem_of_getElem? (i := 784) (by decide +kernel), List.mem_of_getElem? (i := 1342) (by decide +kernel), List.mem_of_getElem? (i := 1343) (by decide +kernel)⟩
theorem lw_p109 : lw_okq (⟨"GathersAllFaultsModel", "isCodedSo", "()Z"⟩, 54) := ⟨⟨by decide +kernel, by decide +kernel⟩, List.mem_of_getElem? (i := 784) (by decide +kernel), List.mem_of_getElem? (i := 1360) (by decide +kernel), List.mem_of_getElem? (i := 1361) (by decide +kernel)⟩
theorem lw_p110 : lw_okq (⟨"GathersAllFaultsModel", "changesByLot", "()V"⟩, 54) := ⟨⟨by decide +kernel, by decide +kernel⟩, List.mem_of_getElem? (i := 784) (by decide +kernel), List.mem_of_getElem? (i := 1380) (by decide +kernel), List.mem_of_getElem? (i := 1381) (by decide +kernel)⟩
theorem lw_p111 : lw_okq (⟨"GathersAllFaultsModel", "draw", "(I)I"⟩, 54) := ⟨⟨by decide +kernel, by decide +kernel⟩, List.mem_of_getElem? (i := 784) (by decide +kernel), List.mem_of_getElem? (i := 1384) (by decide +kernel), List.mem_of_getElem? (i := 1385) (by decide +kernel)⟩
def lw_privs_7 : List (MethodName × Nat) := [(⟨"GathersAllFaultsModel", "findsEither", "(II)V"⟩, 54), (⟨"GathersAllFaultsModel", "endsEither", "()V"⟩, 54), (⟨"GathersAllFaultsModel", "takesSecond", "(II)V"⟩, 54), (⟨"GathersAllFaultsModel", "toldAt", "(I)I"⟩, 54), (⟨"GathersAllFaultsModel", "allNumbers", "()I"⟩, 54), (⟨"GathersAllFaultsModel", "alike", "(II)I"⟩, 54), (⟨"GathersAllFaultsModel", "minds", "()V"⟩, 54), (⟨"GathersAllFaultsModel", "leavesOut", "(I)V"⟩, 54), (⟨"GathersAllFaultsModel", "forgets", "()V"⟩, 54), (⟨"GathersAllFaultsModel", "faultsWith", "(II)I"⟩, 54), (⟨"GathersAllFaultsModel", "lowestOf", "(I)J"⟩, 54), (⟨"GathersAllFaultsModel", "numbersUpTo", "(I)I"⟩, 54), (⟨"GathersAllFaultsModel", "losesSome", "(I)V"⟩, 54), (⟨"GathersAllFaultsModel", "isCodedSo", "()Z"⟩, 54), (⟨"GathersAllFaultsModel", "changesByLot", "()V"⟩, 54), (⟨"GathersAllFaultsModel", "draw", "(I)I"⟩, 54)]
theorem lw_r7 : ∀ q ∈ lw_privs_7, lw_okq q := List.forall_mem_cons.mpr ⟨lw_p96, List.forall_mem_cons.mpr ⟨lw_p97, List.forall_mem_cons.mpr ⟨lw_p98, List.forall_mem_cons.mpr ⟨lw_p99, List.forall_mem_cons.mpr ⟨lw_p100, List.forall_mem_cons.mpr ⟨lw_p101, List.forall_mem_cons.mpr ⟨lw_p102, List.forall_mem_cons.mpr ⟨lw_p103, List.forall_mem_cons.mpr ⟨lw_p104, List.forall_mem_cons.mpr ⟨lw_p105, List.forall_mem_cons.mpr ⟨lw_p106, List.forall_mem_cons.mpr ⟨lw_p107, List.forall_mem_cons.mpr ⟨lw_p108, List.forall_mem_cons.mpr ⟨lw_p109, List.forall_mem_cons.mpr ⟨lw_p110, List.forall_mem_cons.mpr ⟨lw_p111, fun _ h => absurd h List.not_mem_nil⟩⟩⟩⟩⟩⟩⟩⟩⟩⟩⟩⟩⟩⟩⟩⟩
theorem lw_p112 : lw_okq (⟨"GathersAllFaultsModel", "greatestPath", "()I"⟩, 54) := ⟨⟨by decide +kernel, by decide +kernel⟩, List.mem_of_getElem? (i := 784) (by decide +kernel), List.mem_of_getElem? (i := 1395) (by decide +kernel), List.mem_of_getElem? (i := 1396) (by decide +kernel)⟩
def lw_privs_8 : List (MethodName × Nat) := [(⟨"GathersAllFaultsModel", "greatestPath", "()I"⟩, 54)]
theorem lw_r8 : ∀ q ∈ lw_privs_8, lw_okq q := List.forall_mem_cons.mpr ⟨lw_p112, fun _ h => absurd h List.not_mem_nil⟩
def lw_privs : List (MethodName × Nat) := lw_privs_1 ++ (lw_privs_2 ++ (lw_privs_3 ++ (lw_privs_4 ++ (lw_privs_5 ++ (lw_privs_6 ++ (lw_privs_7 ++ (lw_privs_8)))))))
def lw_tbl : List Cond := k2_sels lw_privs ++ tables_1
theorem lw_privs_ok : ∀ q ∈ lw_privs, lw_okq q := by
  show ∀ q ∈ lw_privs_1 ++ (lw_privs_2 ++ (lw_privs_3 ++ (lw_privs_4 ++ (lw_privs_5 ++ (lw_privs_6 ++ (lw_privs_7 ++ (lw_privs_8))))))), lw_okq q
  exact List.forall_mem_append.mpr ⟨lw_r1, List.forall_mem_append.mpr ⟨lw_r2, List.forall_mem_append.mpr ⟨lw_r3, List.forall_mem_append.mpr ⟨lw_r4, List.forall_mem_append.mpr ⟨lw_r5, List.forall_mem_append.mpr ⟨lw_r6, List.forall_mem_append.mpr ⟨lw_r7, lw_r8⟩⟩⟩⟩⟩⟩⟩
-- ===== end of PART A; then your names; then what follows =====
end
section
def R0_ : String := "GathersAllFaults$CheckReader"
def T0_ : u_T := fun k => match k with
  | 0 => ("GathersAllFaults$Reader", "open", "[I", true)
  | 1 => ("GathersAllFaults$Reader", "height", "I", false)
  | 2 => ("GathersAllFaults$Reader", "state", "I", false)
  | 3 => ("GathersAllFaults$Reader", "lone", "Z", false)
  | 4 => ("GathersAllFaults$CheckReader", "made", "LGathersAllFaults$Plan;", true)
  | 5 => ("GathersAllFaults$CheckReader", "wanting", "[I", true)
  | 6 => ("GathersAllFaults$CheckReader", "owed", "I", false)
  | 7 => ("GathersAllFaults$CheckReader", "leads", "Z", false)
  | 8 => ("GathersAllFaults$CheckReader", "returns", "I", false)
  | 9 => ("GathersAllFaults$CheckReader", "digit", "I", false)
  | _ => ("GathersAllFaults$CheckReader", "free", "I", false)
def ty0_ : Nat → FieldType := fun k => match k with
  | 0 => .array .int
  | 1 => .int
  | 2 => .int
  | 3 => .boolean
  | 4 => .object "GathersAllFaults$Plan"
  | 5 => .array .int
  | 6 => .int
  | 7 => .boolean
  | 8 => .int
  | 9 => .int
  | _ => .int
theorem nm0_ : ∀ a, a < 11 → ∀ b, b < 11 → a ≠ b → (T0_ a).2.1 ≠ (T0_ b).2.1 := by decide +kernel
theorem ty0_ok : ∀ k, k < 11 → parseFieldDescriptor (T0_ k).2.2.1 = some (ty0_ k) := by decide +kernel
def R1_ : String := "GathersAllFaults$Gatherer"
def T1_ : u_T := fun k => match k with
  | 0 => ("GathersAllFaults$Gatherer", "plan", "LGathersAllFaults$Plan;", true)
  | 1 => ("GathersAllFaults$Gatherer", "tree", "LGathersAllFaults$Tree;", false)
  | 2 => ("GathersAllFaults$Gatherer", "found", "[I", true)
  | 3 => ("GathersAllFaults$Gatherer", "size", "I", false)
  | _ => ("GathersAllFaults$Gatherer", "waiting", "I", false)
def ty1_ : Nat → FieldType := fun k => match k with
  | 0 => .object "GathersAllFaults$Plan"
  | 1 => .object "GathersAllFaults$Tree"
  | 2 => .array .int
  | 3 => .int
  | _ => .int
theorem nm1_ : ∀ a, a < 5 → ∀ b, b < 5 → a ≠ b → (T1_ a).2.1 ≠ (T1_ b).2.1 := by decide +kernel
theorem ty1_ok : ∀ k, k < 5 → parseFieldDescriptor (T1_ k).2.2.1 = some (ty1_ k) := by decide +kernel
def R2_ : String := "GathersAllFaults$Plan"
def T2_ : u_T := fun k => match k with
  | 0 => ("GathersAllFaults$Plan", "sign", "[I", true)
  | 1 => ("GathersAllFaults$Plan", "low", "[I", true)
  | 2 => ("GathersAllFaults$Plan", "high", "[I", true)
  | 3 => ("GathersAllFaults$Plan", "span", "[I", true)
  | 4 => ("GathersAllFaults$Plan", "digit", "[I", true)
  | 5 => ("GathersAllFaults$Plan", "free", "[I", true)
  | 6 => ("GathersAllFaults$Plan", "fields", "[I", true)
  | 7 => ("GathersAllFaults$Plan", "names", "[I", true)
  | 8 => ("GathersAllFaults$Plan", "firstDependent", "[I", true)
  | 9 => ("GathersAllFaults$Plan", "dependents", "[I", true)
  | 10 => ("GathersAllFaults$Plan", "dependentSign", "[I", true)
  | 11 => ("GathersAllFaults$Plan", "dependentOne", "[I", true)
  | 12 => ("GathersAllFaults$Plan", "dependentOther", "[I", true)
  | 13 => ("GathersAllFaults$Plan", "size", "I", false)
  | _ => ("GathersAllFaults$Plan", "dependentCount", "I", false)
def ty2_ : Nat → FieldType := fun k => match k with
  | 0 => .array .int
  | 1 => .array .int
  | 2 => .array .int
  | 3 => .array .int
  | 4 => .array .int
  | 5 => .array .int
  | 6 => .array .int
  | 7 => .array .int
  | 8 => .array .int
  | 9 => .array .int
  | 10 => .array .int
  | 11 => .array .int
  | 12 => .array .int
  | 13 => .int
  | _ => .int
theorem nm2_ : ∀ a, a < 15 → ∀ b, b < 15 → a ≠ b → (T2_ a).2.1 ≠ (T2_ b).2.1 := by decide +kernel
theorem ty2_ok : ∀ k, k < 15 → parseFieldDescriptor (T2_ k).2.2.1 = some (ty2_ k) := by decide +kernel
def R3_ : String := "GathersAllFaults$Tree"
def T3_ : u_T := fun k => match k with
  | 0 => ("GathersAllFaults$Tree", "kind", "[I", true)
  | 1 => ("GathersAllFaults$Tree", "num", "[I", true)
  | 2 => ("GathersAllFaults$Tree", "kids", "[I", true)
  | 3 => ("GathersAllFaults$Tree", "digit", "[I", true)
  | 4 => ("GathersAllFaults$Tree", "span", "[I", true)
  | 5 => ("GathersAllFaults$Tree", "road", "[I", true)
  | _ => ("GathersAllFaults$Tree", "size", "I", false)
def ty3_ : Nat → FieldType := fun k => match k with
  | 0 => .array .int
  | 1 => .array .int
  | 2 => .array .int
  | 3 => .array .int
  | 4 => .array .int
  | 5 => .array .int
  | _ => .int
theorem nm3_ : ∀ a, a < 7 → ∀ b, b < 7 → a ≠ b → (T3_ a).2.1 ≠ (T3_ b).2.1 := by decide +kernel
theorem ty3_ok : ∀ k, k < 7 → parseFieldDescriptor (T3_ k).2.2.1 = some (ty3_ k) := by decide +kernel
def R4_ : String := "GathersAllFaults$ValueReader"
def T4_ : u_T := fun k => match k with
  | 0 => ("GathersAllFaults$Reader", "open", "[I", true)
  | 1 => ("GathersAllFaults$Reader", "height", "I", false)
  | 2 => ("GathersAllFaults$Reader", "state", "I", false)
  | 3 => ("GathersAllFaults$Reader", "lone", "Z", false)
  | 4 => ("GathersAllFaults$ValueReader", "made", "LGathersAllFaults$Tree;", true)
  | _ => ("GathersAllFaults$ValueReader", "digit", "I", false)
def ty4_ : Nat → FieldType := fun k => match k with
  | 0 => .array .int
  | 1 => .int
  | 2 => .int
  | 3 => .boolean
  | 4 => .object "GathersAllFaults$Tree"
  | _ => .int
theorem nm4_ : ∀ a, a < 6 → ∀ b, b < 6 → a ≠ b → (T4_ a).2.1 ≠ (T4_ b).2.1 := by decide +kernel
theorem ty4_ok : ∀ k, k < 6 → parseFieldDescriptor (T4_ k).2.2.1 = some (ty4_ k) := by decide +kernel
def R5_ : String := "GathersAllFaults"
def T5_ : u_T := fun k => match k with
  | 0 => ("GathersAllFaults", "now", "LGathersAllFaults$Tree;", true)
  | 1 => ("GathersAllFaults", "trial", "LGathersAllFaults$Tree;", true)
  | 2 => ("GathersAllFaults", "gatherer", "LGathersAllFaults$Gatherer;", true)
  | 3 => ("GathersAllFaults", "valueReader", "LGathersAllFaults$ValueReader;", true)
  | 4 => ("GathersAllFaults", "checkReader", "LGathersAllFaults$CheckReader;", true)
  | 5 => ("GathersAllFaults", "letters", "[I", true)
  | 6 => ("GathersAllFaults", "letterCount", "I", false)
  | 7 => ("GathersAllFaults", "told", "[I", true)
  | 8 => ("GathersAllFaults", "toldCount", "I", false)
  | 9 => ("GathersAllFaults", "refusals", "[I", true)
  | 10 => ("GathersAllFaults", "imageTree", "LGathersAllFaults$Tree;", true)
  | 11 => ("GathersAllFaults", "imagePlan", "LGathersAllFaults$Plan;", true)
  | 12 => ("GathersAllFaults", "imaged", "Z", false)
  | _ => ("GathersAllFaults", "seed", "I", false)
def ty5_ : Nat → FieldType := fun k => match k with
  | 0 => .object "GathersAllFaults$Tree"
  | 1 => .object "GathersAllFaults$Tree"
  | 2 => .object "GathersAllFaults$Gatherer"
  | 3 => .object "GathersAllFaults$ValueReader"
  | 4 => .object "GathersAllFaults$CheckReader"
  | 5 => .array .int
  | 6 => .int
  | 7 => .array .int
  | 8 => .int
  | 9 => .array .int
  | 10 => .object "GathersAllFaults$Tree"
  | 11 => .object "GathersAllFaults$Plan"
  | 12 => .boolean
  | _ => .int
theorem nm5_ : ∀ a, a < 14 → ∀ b, b < 14 → a ≠ b → (T5_ a).2.1 ≠ (T5_ b).2.1 := by decide +kernel
theorem ty5_ok : ∀ k, k < 14 → parseFieldDescriptor (T5_ k).2.2.1 = some (ty5_ k) := by decide +kernel
def R6_ : String := "GathersAllFaultsModel"
def T6_ : u_T := fun k => match k with
  | 0 => ("GathersAllFaultsModel", "refused", "[I", true)
  | 1 => ("GathersAllFaultsModel", "sort", "[I", true)
  | 2 => ("GathersAllFaultsModel", "number", "[I", true)
  | 3 => ("GathersAllFaultsModel", "name", "[I", true)
  | 4 => ("GathersAllFaultsModel", "size", "[I", true)
  | 5 => ("GathersAllFaultsModel", "path", "[I", true)
  | 6 => ("GathersAllFaultsModel", "parts", "I", false)
  | 7 => ("GathersAllFaultsModel", "kindOf", "[I", true)
  | 8 => ("GathersAllFaultsModel", "lowOf", "[I", true)
  | 9 => ("GathersAllFaultsModel", "highOf", "[I", true)
  | 10 => ("GathersAllFaultsModel", "firstOf", "[I", true)
  | 11 => ("GathersAllFaultsModel", "secondOf", "[I", true)
  | 12 => ("GathersAllFaultsModel", "fieldOwner", "[I", true)
  | 13 => ("GathersAllFaultsModel", "fieldName", "[I", true)
  | 14 => ("GathersAllFaultsModel", "fieldMay", "[I", true)
  | 15 => ("GathersAllFaultsModel", "fieldCheck", "[I", true)
  | 16 => ("GathersAllFaultsModel", "waiterOwner", "[I", true)
  | 17 => ("GathersAllFaultsModel", "waiterKind", "[I", true)
  | 18 => ("GathersAllFaultsModel", "waiterOne", "[I", true)
  | 19 => ("GathersAllFaultsModel", "waiterOther", "[I", true)
  | 20 => ("GathersAllFaultsModel", "checks", "I", false)
  | 21 => ("GathersAllFaultsModel", "fields", "I", false)
  | 22 => ("GathersAllFaultsModel", "waiters", "I", false)
  | 23 => ("GathersAllFaultsModel", "wholes", "I", false)
  | 24 => ("GathersAllFaultsModel", "faultPath", "[I", true)
  | 25 => ("GathersAllFaultsModel", "faultCode", "[I", true)
  | 26 => ("GathersAllFaultsModel", "lookCheck", "[I", true)
  | 27 => ("GathersAllFaultsModel", "lookPart", "[I", true)
  | 28 => ("GathersAllFaultsModel", "lookPhase", "[I", true)
  | 29 => ("GathersAllFaultsModel", "lookMark", "[I", true)
  | 30 => ("GathersAllFaultsModel", "lookWaits", "[I", true)
  | 31 => ("GathersAllFaultsModel", "lookEnd", "[I", true)
  | 32 => ("GathersAllFaultsModel", "lookEndWaits", "[I", true)
  | 33 => ("GathersAllFaultsModel", "found", "I", false)
  | 34 => ("GathersAllFaultsModel", "waiting", "I", false)
  | 35 => ("GathersAllFaultsModel", "deep", "I", false)
  | 36 => ("GathersAllFaultsModel", "tape", "[I", true)
  | 37 => ("GathersAllFaultsModel", "openAt", "[I", true)
  | 38 => ("GathersAllFaultsModel", "openSort", "[I", true)
  | 39 => ("GathersAllFaultsModel", "openNames", "[I", true)
  | 40 => ("GathersAllFaultsModel", "openMany", "[I", true)
  | 41 => ("GathersAllFaultsModel", "openInside", "[I", true)
  | 42 => ("GathersAllFaultsModel", "taped", "I", false)
  | 43 => ("GathersAllFaultsModel", "reading", "I", false)
  | 44 => ("GathersAllFaultsModel", "badAt", "I", false)
  | 45 => ("GathersAllFaultsModel", "open", "I", false)
  | 46 => ("GathersAllFaultsModel", "nameTold", "I", false)
  | 47 => ("GathersAllFaultsModel", "kept", "[I", true)
  | 48 => ("GathersAllFaultsModel", "hasImage", "Z", false)
  | 49 => ("GathersAllFaultsModel", "isKeeping", "Z", false)
  | 50 => ("GathersAllFaultsModel", "cursor", "I", false)
  | 51 => ("GathersAllFaultsModel", "row", "[I", true)
  | 52 => ("GathersAllFaultsModel", "rowMany", "I", false)
  | _ => ("GathersAllFaultsModel", "lots", "I", false)
def ty6_ : Nat → FieldType := fun k => match k with
  | 0 => .array .int
  | 1 => .array .int
  | 2 => .array .int
  | 3 => .array .int
  | 4 => .array .int
  | 5 => .array .int
  | 6 => .int
  | 7 => .array .int
  | 8 => .array .int
  | 9 => .array .int
  | 10 => .array .int
  | 11 => .array .int
  | 12 => .array .int
  | 13 => .array .int
  | 14 => .array .int
  | 15 => .array .int
  | 16 => .array .int
  | 17 => .array .int
  | 18 => .array .int
  | 19 => .array .int
  | 20 => .int
  | 21 => .int
  | 22 => .int
  | 23 => .int
  | 24 => .array .int
  | 25 => .array .int
  | 26 => .array .int
  | 27 => .array .int
  | 28 => .array .int
  | 29 => .array .int
  | 30 => .array .int
  | 31 => .array .int
  | 32 => .array .int
  | 33 => .int
  | 34 => .int
  | 35 => .int
  | 36 => .array .int
  | 37 => .array .int
  | 38 => .array .int
  | 39 => .array .int
  | 40 => .array .int
  | 41 => .array .int
  | 42 => .int
  | 43 => .int
  | 44 => .int
  | 45 => .int
  | 46 => .int
  | 47 => .array .int
  | 48 => .boolean
  | 49 => .boolean
  | 50 => .int
  | 51 => .array .int
  | 52 => .int
  | _ => .int
theorem nm6_ : ∀ a, a < 54 → ∀ b, b < 54 → a ≠ b → (T6_ a).2.1 ≠ (T6_ b).2.1 := by decide +kernel
theorem ty6_ok : ∀ k, k < 54 → parseFieldDescriptor (T6_ k).2.2.1 = some (ty6_ k) := by decide +kernel
abbrev classes : List vw_C := [(R0_, T0_, 11), (R1_, T1_, 5), (R2_, T2_, 15), (R3_, T3_, 7), (R4_, T4_, 6), (R5_, T5_, 14), (R6_, T6_, 54)]
def fs0_ : List (Nat × Nat × (Nat ⊕ Nat)) := [(1, 1, .inr 96), (0, 0, .inl 0), (0, 0, .inl 0), (3, 0, .inl 0), (1, 2, .inl 2), (1, 16, .inr 96), (0, 0, .inl 0), (3, 0, .inl 0), (0, 0, .inl 0), (0, 0, .inl 0), (0, 0, .inl 0)]
def fs1_ : List (Nat × Nat × (Nat ⊕ Nat)) := [(1, 1, .inl 2), (2, 0, .inl 3), (1, 22, .inr 6144), (0, 0, .inl 0), (0, 0, .inl 0)]
def fs2_ : List (Nat × Nat × (Nat ⊕ Nat)) := [(1, 1, .inr 24), (1, 2, .inr 24), (1, 3, .inr 24), (1, 4, .inr 24), (1, 5, .inr 24), (1, 6, .inr 24), (1, 7, .inr 24), (1, 8, .inr 24), (1, 9, .inr 24), (1, 10, .inr 24), (1, 11, .inr 32), (1, 12, .inr 32), (1, 13, .inr 32), (0, 0, .inl 0), (0, 0, .inl 0)]
def fs3_ : List (Nat × Nat × (Nat ⊕ Nat)) := [(1, 1, .inr 20), (1, 2, .inr 20), (1, 3, .inr 20), (1, 4, .inr 20), (1, 5, .inr 20), (1, 6, .inr 20), (0, 0, .inl 0)]
def fs4_ : List (Nat × Nat × (Nat ⊕ Nat)) := [(1, 1, .inr 96), (0, 0, .inl 0), (0, 0, .inl 0), (3, 0, .inl 0), (1, 2, .inl 3), (0, 0, .inl 0)]
def fs5_ : List (Nat × Nat × (Nat ⊕ Nat)) := [(1, 1, .inl 3), (1, 8, .inl 3), (1, 15, .inl 1), (1, 38, .inl 4), (1, 47, .inl 0), (1, 64, .inr 96), (0, 0, .inl 0), (1, 65, .inr 32), (0, 0, .inl 0), (1, 66, .inr 7), (1, 67, .inl 3), (1, 74, .inl 2), (3, 0, .inl 0), (0, 0, .inl 0)]
def fs6_ : List (Nat × Nat × (Nat ⊕ Nat)) := [(1, 1, .inr 7), (1, 2, .inr 21), (1, 3, .inr 21), (1, 4, .inr 21), (1, 5, .inr 21), (1, 6, .inr 21), (0, 0, .inl 0), (1, 7, .inr 25), (1, 8, .inr 25), (1, 9, .inr 25), (1, 10, .inr 25), (1, 11, .inr 25), (1, 12, .inr 25), (1, 13, .inr 25), (1, 14, .inr 25), (1, 15, .inr 25), (1, 16, .inr 33), (1, 17, .inr 33), (1, 18, .inr 33), (1, 19, .inr 33), (0, 0, .inl 0), (0, 0, .inl 0), (0, 0, .inl 0), (0, 0, .inl 0), (1, 20, .inr 16384), (1, 21, .inr 16384), (1, 22, .inr 400), (1, 23, .inr 400), (1, 24, .inr 400), (1, 25, .inr 400), (1, 26, .inr 400), (1, 27, .inr 400), (1, 28, .inr 400), (0, 0, .inl 0), (0, 0, .inl 0), (0, 0, .inl 0), (1, 29, .inr 96), (1, 30, .inr 100), (1, 31, .inr 100), (1, 32, .inr 100), (1, 33, .inr 100), (1, 34, .inr 100), (0, 0, .inl 0), (0, 0, .inl 0), (0, 0, .inl 0), (0, 0, .inl 0), (0, 0, .inl 0), (1, 35, .inr 1400), (3, 0, .inl 0), (3, 0, .inl 0), (0, 0, .inl 0), (1, 36, .inr 32), (0, 0, .inl 0), (0, 0, .inl 0)]
/-- of each class the sorts of its fields: 0 an int, 1 a fixed reference (how far off, what kind), 2 a reference that changes, 3 a boolean -/
def cfs : List (List (Nat × Nat × (Nat ⊕ Nat))) := [fs0_, fs1_, fs2_, fs3_, fs4_, fs5_, fs6_]
def LX : List (Nat ⊕ Nat) := [.inl 5, .inl 3, .inr 20, .inr 20, .inr 20, .inr 20, .inr 20, .inr 20, .inl 3, .inr 20, .inr 20, .inr 20, .inr 20, .inr 20, .inr 20, .inl 1, .inl 2, .inr 24, .inr 24, .inr 24, .inr 24, .inr 24, .inr 24, .inr 24, .inr 24, .inr 24, .inr 24, .inr 32, .inr 32, .inr 32, .inl 3, .inr 20, .inr 20, .inr 20, .inr 20, .inr 20, .inr 20, .inr 6144, .inl 4, .inr 96, .inl 3, .inr 20, .inr 20, .inr 20, .inr 20, .inr 20, .inr 20, .inl 0, .inr 96, .inl 2, .inr 24, .inr 24, .inr 24, .inr 24, .inr 24, .inr 24, .inr 24, .inr 24, .inr 24, .inr 24, .inr 32, .inr 32, .inr 32, .inr 96, .inr 96, .inr 32, .inr 7, .inl 3, .inr 20, .inr 20, .inr 20, .inr 20, .inr 20, .inr 20, .inl 2, .inr 24, .inr 24, .inr 24, .inr 24, .inr 24, .inr 24, .inr 24, .inr 24, .inr 24, .inr 24, .inr 32, .inr 32, .inr 32]
def LM : List (Nat ⊕ Nat) := [.inl 6, .inr 7, .inr 21, .inr 21, .inr 21, .inr 21, .inr 21, .inr 25, .inr 25, .inr 25, .inr 25, .inr 25, .inr 25, .inr 25, .inr 25, .inr 25, .inr 33, .inr 33, .inr 33, .inr 33, .inr 16384, .inr 16384, .inr 400, .inr 400, .inr 400, .inr 400, .inr 400, .inr 400, .inr 400, .inr 96, .inr 100, .inr 100, .inr 100, .inr 100, .inr 100, .inr 1400, .inr 32]
/-- the words that every method of ours has: those of the tables that stay, and which stumble a reader runs -/
def EX : List Cond := [.selects "GathersAllFaults$ValueReader" ⟨"GathersAllFaults$Reader", "stumble", "([II)I"⟩ ⟨"GathersAllFaults$Reader", "stumble", "([II)I"⟩, .selects "GathersAllFaults$CheckReader" ⟨"GathersAllFaults$Reader", "stumble", "([II)I"⟩ ⟨"GathersAllFaults$Reader", "stumble", "([II)I"⟩]
def ALL : List Cond := EX ++ lw_tbl.filter goodWord
/-- words that stay by laws of their own -/
def NW : List Cond := [.methodLinkNest "GathersAllFaults$Reader" 33 ⟨"GathersAllFaults", "at", "([II)I"⟩ "GathersAllFaults", .methodLinkNest "GathersAllFaults$Reader" 40 ⟨"GathersAllFaults", "set", "([III)V"⟩ "GathersAllFaults", .methodLinkNest "GathersAllFaults$CheckReader" 36 ⟨"GathersAllFaults", "isDigit", "(I)Z"⟩ "GathersAllFaults", .methodLinkNest "GathersAllFaults$CheckReader" 45 ⟨"GathersAllFaults", "isName", "(I)Z"⟩ "GathersAllFaults", .methodLinkNest "GathersAllFaults$ValueReader" 22 ⟨"GathersAllFaults", "isDigit", "(I)Z"⟩ "GathersAllFaults", .methodLinkNest "GathersAllFaults$ValueReader" 37 ⟨"GathersAllFaults", "isName", "(I)Z"⟩ "GathersAllFaults", .methodLinkNest "GathersAllFaults$CheckReader" 88 ⟨"GathersAllFaults", "at", "([II)I"⟩ "GathersAllFaults", .methodLinkNest "GathersAllFaults$CheckReader" 99 ⟨"GathersAllFaults", "set", "([III)V"⟩ "GathersAllFaults", .methodLinkNest "GathersAllFaults$CheckReader" 106 ⟨"GathersAllFaults", "digitOf", "(I)I"⟩ "GathersAllFaults", .methodLinkNest "GathersAllFaults$Plan" 62 ⟨"GathersAllFaults", "at", "([II)I"⟩ "GathersAllFaults", .methodLinkNest "GathersAllFaults$Plan" 66 ⟨"GathersAllFaults", "set", "([III)V"⟩ "GathersAllFaults", .methodLinkNest "GathersAllFaults$ValueReader" 63 ⟨"GathersAllFaults", "at", "([II)I"⟩ "GathersAllFaults", .methodLinkNest "GathersAllFaults$ValueReader" 81 ⟨"GathersAllFaults", "set", "([III)V"⟩ "GathersAllFaults", .methodLinkNest "GathersAllFaults$Tree" 42 ⟨"GathersAllFaults", "set", "([III)V"⟩ "GathersAllFaults", .methodLinkNest "GathersAllFaults$ValueReader" 85 ⟨"GathersAllFaults", "digitOf", "(I)I"⟩ "GathersAllFaults", .methodLinkNest "GathersAllFaults$Tree" 38 ⟨"GathersAllFaults", "at", "([II)I"⟩ "GathersAllFaults", .methodLinkNest "GathersAllFaults$Tree" 34 ⟨"GathersAllFaults", "copy", "([I[I)V"⟩ "GathersAllFaults", .methodLinkNest "GathersAllFaults$Plan" 55 ⟨"GathersAllFaults", "copy", "([I[I)V"⟩ "GathersAllFaults", .methodLinkNest "GathersAllFaults$Tree" 57 ⟨"GathersAllFaults", "close", "([IIII)V"⟩ "GathersAllFaults", .methodLinkNest "GathersAllFaults$Gatherer" 40 ⟨"GathersAllFaults", "at", "([II)I"⟩ "GathersAllFaults", .methodLinkNest "GathersAllFaults$Gatherer" 52 ⟨"GathersAllFaults", "set", "([III)V"⟩ "GathersAllFaults", .methodLinkNest "GathersAllFaults$Gatherer" 155 ⟨"GathersAllFaults", "close", "([IIII)V"⟩ "GathersAllFaults", .declares ⟨"GathersAllFaults$Reader", "goesOn", "(I)Z"⟩, .declares ⟨"GathersAllFaults$Reader", "build", "([II)I"⟩]
theorem NW_t0 : (.methodLinkNest "GathersAllFaults$Reader" 33 ⟨"GathersAllFaults", "at", "([II)I"⟩ "GathersAllFaults" : Cond) ∈ tables_1 := List.mem_of_getElem? (i := 317) (by decide +kernel)
theorem NW_t1 : (.methodLinkNest "GathersAllFaults$Reader" 40 ⟨"GathersAllFaults", "set", "([III)V"⟩ "GathersAllFaults" : Cond) ∈ tables_1 := List.mem_of_getElem? (i := 350) (by decide +kernel)
theorem NW_t2 : (.methodLinkNest "GathersAllFaults$CheckReader" 36 ⟨"GathersAllFaults", "isDigit", "(I)Z"⟩ "GathersAllFaults" : Cond) ∈ tables_1 := List.mem_of_getElem? (i := 355) (by decide +kernel)
theorem NW_t3 : (.methodLinkNest "GathersAllFaults$CheckReader" 45 ⟨"GathersAllFaults", "isName", "(I)Z"⟩ "GathersAllFaults" : Cond) ∈ tables_1 := List.mem_of_getElem? (i := 362) (by decide +kernel)
theorem NW_t4 : (.methodLinkNest "GathersAllFaults$ValueReader" 22 ⟨"GathersAllFaults", "isDigit", "(I)Z"⟩ "GathersAllFaults" : Cond) ∈ tables_1 := List.mem_of_getElem? (i := 372) (by decide +kernel)
theorem NW_t5 : (.methodLinkNest "GathersAllFaults$ValueReader" 37 ⟨"GathersAllFaults", "isName", "(I)Z"⟩ "GathersAllFaults" : Cond) ∈ tables_1 := List.mem_of_getElem? (i := 394) (by decide +kernel)
theorem NW_t6 : (.methodLinkNest "GathersAllFaults$CheckReader" 88 ⟨"GathersAllFaults", "at", "([II)I"⟩ "GathersAllFaults" : Cond) ∈ tables_1 := List.mem_of_getElem? (i := 405) (by decide +kernel)
theorem NW_t7 : (.methodLinkNest "GathersAllFaults$CheckReader" 99 ⟨"GathersAllFaults", "set", "([III)V"⟩ "GathersAllFaults" : Cond) ∈ tables_1 := List.mem_of_getElem? (i := 406) (by decide +kernel)
theorem NW_t8 : (.methodLinkNest "GathersAllFaults$CheckReader" 106 ⟨"GathersAllFaults", "digitOf", "(I)I"⟩ "GathersAllFaults" : Cond) ∈ tables_1 := List.mem_of_getElem? (i := 411) (by decide +kernel)
theorem NW_t9 : (.methodLinkNest "GathersAllFaults$Plan" 62 ⟨"GathersAllFaults", "at", "([II)I"⟩ "GathersAllFaults" : Cond) ∈ tables_1 := List.mem_of_getElem? (i := 422) (by decide +kernel)
theorem NW_t10 : (.methodLinkNest "GathersAllFaults$Plan" 66 ⟨"GathersAllFaults", "set", "([III)V"⟩ "GathersAllFaults" : Cond) ∈ tables_1 := List.mem_of_getElem? (i := 431) (by decide +kernel)
theorem NW_t11 : (.methodLinkNest "GathersAllFaults$ValueReader" 63 ⟨"GathersAllFaults", "at", "([II)I"⟩ "GathersAllFaults" : Cond) ∈ tables_1 := List.mem_of_getElem? (i := 456) (by decide +kernel)
theorem NW_t12 : (.methodLinkNest "GathersAllFaults$ValueReader" 81 ⟨"GathersAllFaults", "set", "([III)V"⟩ "GathersAllFaults" : Cond) ∈ tables_1 := List.mem_of_getElem? (i := 461) (by decide +kernel)
theorem NW_t13 : (.methodLinkNest "GathersAllFaults$Tree" 42 ⟨"GathersAllFaults", "set", "([III)V"⟩ "GathersAllFaults" : Cond) ∈ tables_1 := List.mem_of_getElem? (i := 466) (by decide +kernel)
theorem NW_t14 : (.methodLinkNest "GathersAllFaults$ValueReader" 85 ⟨"GathersAllFaults", "digitOf", "(I)I"⟩ "GathersAllFaults" : Cond) ∈ tables_1 := List.mem_of_getElem? (i := 471) (by decide +kernel)
theorem NW_t15 : (.methodLinkNest "GathersAllFaults$Tree" 38 ⟨"GathersAllFaults", "at", "([II)I"⟩ "GathersAllFaults" : Cond) ∈ tables_1 := List.mem_of_getElem? (i := 476) (by decide +kernel)
theorem NW_t16 : (.methodLinkNest "GathersAllFaults$Tree" 34 ⟨"GathersAllFaults", "copy", "([I[I)V"⟩ "GathersAllFaults" : Cond) ∈ tables_1 := List.mem_of_getElem? (i := 485) (by decide +kernel)
theorem NW_t17 : (.methodLinkNest "GathersAllFaults$Plan" 55 ⟨"GathersAllFaults", "copy", "([I[I)V"⟩ "GathersAllFaults" : Cond) ∈ tables_1 := List.mem_of_getElem? (i := 505) (by decide +kernel)
theorem NW_t18 : (.methodLinkNest "GathersAllFaults$Tree" 57 ⟨"GathersAllFaults", "close", "([IIII)V"⟩ "GathersAllFaults" : Cond) ∈ tables_1 := List.mem_of_getElem? (i := 530) (by decide +kernel)
theorem NW_t19 : (.methodLinkNest "GathersAllFaults$Gatherer" 40 ⟨"GathersAllFaults", "at", "([II)I"⟩ "GathersAllFaults" : Cond) ∈ tables_1 := List.mem_of_getElem? (i := 553) (by decide +kernel)
theorem NW_t20 : (.methodLinkNest "GathersAllFaults$Gatherer" 52 ⟨"GathersAllFaults", "set", "([III)V"⟩ "GathersAllFaults" : Cond) ∈ tables_1 := List.mem_of_getElem? (i := 558) (by decide +kernel)
theorem NW_t21 : (.methodLinkNest "GathersAllFaults$Gatherer" 155 ⟨"GathersAllFaults", "close", "([IIII)V"⟩ "GathersAllFaults" : Cond) ∈ tables_1 := List.mem_of_getElem? (i := 610) (by decide +kernel)
theorem NW_t22 : (.declares ⟨"GathersAllFaults$Reader", "goesOn", "(I)Z"⟩ : Cond) ∈ tables_1 := List.mem_of_getElem? (i := 319) (by decide +kernel)
theorem NW_t23 : (.declares ⟨"GathersAllFaults$Reader", "build", "([II)I"⟩ : Cond) ∈ tables_1 := List.mem_of_getElem? (i := 396) (by decide +kernel)
theorem NW_tbl : ∀ w ∈ NW, w ∈ tables_1 := (List.forall_mem_cons.mpr ⟨NW_t0, (List.forall_mem_cons.mpr ⟨NW_t1, (List.forall_mem_cons.mpr ⟨NW_t2, (List.forall_mem_cons.mpr ⟨NW_t3, (List.forall_mem_cons.mpr ⟨NW_t4, (List.forall_mem_cons.mpr ⟨NW_t5, (List.forall_mem_cons.mpr ⟨NW_t6, (List.forall_mem_cons.mpr ⟨NW_t7, (List.forall_mem_cons.mpr ⟨NW_t8, (List.forall_mem_cons.mpr ⟨NW_t9, (List.forall_mem_cons.mpr ⟨NW_t10, (List.forall_mem_cons.mpr ⟨NW_t11, (List.forall_mem_cons.mpr ⟨NW_t12, (List.forall_mem_cons.mpr ⟨NW_t13, (List.forall_mem_cons.mpr ⟨NW_t14, (List.forall_mem_cons.mpr ⟨NW_t15, (List.forall_mem_cons.mpr ⟨NW_t16, (List.forall_mem_cons.mpr ⟨NW_t17, (List.forall_mem_cons.mpr ⟨NW_t18, (List.forall_mem_cons.mpr ⟨NW_t19, (List.forall_mem_cons.mpr ⟨NW_t20, (List.forall_mem_cons.mpr ⟨NW_t21, (List.forall_mem_cons.mpr ⟨NW_t22, (List.forall_mem_cons.mpr ⟨NW_t23, (fun _ h => absurd h List.not_mem_nil)⟩)⟩)⟩)⟩)⟩)⟩)⟩)⟩)⟩)⟩)⟩)⟩)⟩)⟩)⟩)⟩)⟩)⟩)⟩)⟩)⟩)⟩)⟩)⟩)
theorem NW_kind : ∀ w ∈ NW, (∃ a i x h, w = .methodLinkNest a i x h) ∨ ∃ x, w = .declares x := by
  intro w hw
  simp only [NW, List.mem_cons, List.not_mem_nil, or_false] at hw
  rcases hw with rfl | rfl | rfl | rfl | rfl | rfl | rfl | rfl | rfl | rfl | rfl | rfl | rfl | rfl | rfl | rfl | rfl | rfl | rfl | rfl | rfl | rfl | rfl | rfl
  all_goals first | exact Or.inl ⟨_, _, _, _, rfl⟩ | exact Or.inr ⟨_, rfl⟩
theorem NW_warm {s U : State} (hW : s.WarmedH U.vm) : ∀ w ∈ NW, va_Nw w s → va_Nw w U := by
  intro w hw h
  rcases NW_kind w hw with ⟨a, i, x, hh, rfl⟩ | ⟨x, rfl⟩
  · exact va_Nw.warmM hW h
  · exact va_Nw.warmD hW h
theorem NW_tab : ∀ w ∈ NW, w.onTables = true := by
  intro w hw
  rcases NW_kind w hw with ⟨a, i, x, hh, rfl⟩ | ⟨x, rfl⟩ <;> rfl
theorem ALL_good : ∀ w ∈ ALL, (w.onTables && w.keeps) = true ∨ ∃ ty, w = .arrayClass ty := by
  intro w h
  rcases List.mem_append.mp h with h | h
  · simp only [EX, List.mem_cons, List.not_mem_nil, or_false] at h
    rcases h with rfl | rfl <;> exact Or.inl rfl
  · exact good_of_word (List.mem_filter.mp h).2
theorem ALL_in {w : Cond} (i : Nat) (h : tables_1[i]? = some w) (hg : goodWord w = true) : w ∈ ALL := List.mem_append_right _ (List.mem_filter.mpr ⟨List.mem_append_right _ (List.mem_of_getElem? h), hg⟩)
theorem ALL_inP {w : Cond} (i : Nat) (h : (k2_sels lw_privs)[i]? = some w) (hg : goodWord w = true) : w ∈ ALL := List.mem_append_right _ (List.mem_filter.mpr ⟨List.mem_append_left _ (List.mem_of_getElem? h), hg⟩)
def CK : List (String × Nat × Int32) := [("GathersAllFaults", 134, 99999), ("java/lang/Integer", 265, 1431655765), ("java/lang/Integer", 266, 858993459), ("java/lang/Integer", 267, 252645135), ("GathersAllFaults", 213, 1664525), ("GathersAllFaults", 214, 1013904223), ("GathersAllFaults", 215, 2147483647), ("GathersAllFaultsModel", 379, 99999), ("GathersAllFaultsModel", 428, 1664525), ("GathersAllFaultsModel", 429, 1013904223), ("GathersAllFaultsModel", 430, 2147483647)]
theorem CK_in : ∀ q ∈ CK, Cond.constant q.1 q.2.1 q.2.2 ∈ ALL := (List.forall_mem_cons.mpr ⟨ALL_in 636 (by decide +kernel) rfl, (List.forall_mem_cons.mpr ⟨ALL_in 716 (by decide +kernel) rfl, (List.forall_mem_cons.mpr ⟨ALL_in 717 (by decide +kernel) rfl, (List.forall_mem_cons.mpr ⟨ALL_in 718 (by decide +kernel) rfl, (List.forall_mem_cons.mpr ⟨ALL_in 761 (by decide +kernel) rfl, (List.forall_mem_cons.mpr ⟨ALL_in 762 (by decide +kernel) rfl, (List.forall_mem_cons.mpr ⟨ALL_in 763 (by decide +kernel) rfl, (List.forall_mem_cons.mpr ⟨ALL_in 1259 (by decide +kernel) rfl, (List.forall_mem_cons.mpr ⟨ALL_in 1387 (by decide +kernel) rfl, (List.forall_mem_cons.mpr ⟨ALL_in 1388 (by decide +kernel) rfl, (List.forall_mem_cons.mpr ⟨ALL_in 1389 (by decide +kernel) rfl, (fun _ h => absurd h List.not_mem_nil)⟩)⟩)⟩)⟩)⟩)⟩)⟩)⟩)⟩)⟩)⟩)
def CKL : List (String × Nat × Int64) := [("GathersAllFaults", 208, 4000000000000000000), ("GathersAllFaultsModel", 128, 4000000000000000000)]
theorem CKL_in : ∀ q ∈ CKL, Cond.constantLong q.1 q.2.1 q.2.2 ∈ ALL := (List.forall_mem_cons.mpr ⟨ALL_in 704 (by decide +kernel) rfl, (List.forall_mem_cons.mpr ⟨ALL_in 1336 (by decide +kernel) rfl, (fun _ h => absurd h List.not_mem_nil)⟩)⟩)
theorem ws0_in : ∀ w ∈ u_ws R0_ T0_ 11, w ∈ ALL := by
  have h : (u_ws R0_ T0_ 11).all (fun w => decide (w ∈ tables_1) && goodWord w) = true := by decide +kernel
  intro w hw
  have h1 := List.all_eq_true.mp h w hw
  simp only [Bool.and_eq_true, decide_eq_true_eq] at h1
  exact List.mem_append_right _ (List.mem_filter.mpr ⟨List.mem_append_right _ h1.1, h1.2⟩)
theorem ws1_in : ∀ w ∈ u_ws R1_ T1_ 5, w ∈ ALL := by
  have h : (u_ws R1_ T1_ 5).all (fun w => decide (w ∈ tables_1) && goodWord w) = true := by decide +kernel
  intro w hw
  have h1 := List.all_eq_true.mp h w hw
  simp only [Bool.and_eq_true, decide_eq_true_eq] at h1
  exact List.mem_append_right _ (List.mem_filter.mpr ⟨List.mem_append_right _ h1.1, h1.2⟩)
theorem ws2_in : ∀ w ∈ u_ws R2_ T2_ 15, w ∈ ALL := by
  have h : (u_ws R2_ T2_ 15).all (fun w => decide (w ∈ tables_1) && goodWord w) = true := by decide +kernel
  intro w hw
  have h1 := List.all_eq_true.mp h w hw
  simp only [Bool.and_eq_true, decide_eq_true_eq] at h1
  exact List.mem_append_right _ (List.mem_filter.mpr ⟨List.mem_append_right _ h1.1, h1.2⟩)
theorem ws3_in : ∀ w ∈ u_ws R3_ T3_ 7, w ∈ ALL := by
  have h : (u_ws R3_ T3_ 7).all (fun w => decide (w ∈ tables_1) && goodWord w) = true := by decide +kernel
  intro w hw
  have h1 := List.all_eq_true.mp h w hw
  simp only [Bool.and_eq_true, decide_eq_true_eq] at h1
  exact List.mem_append_right _ (List.mem_filter.mpr ⟨List.mem_append_right _ h1.1, h1.2⟩)
theorem ws4_in : ∀ w ∈ u_ws R4_ T4_ 6, w ∈ ALL := by
  have h : (u_ws R4_ T4_ 6).all (fun w => decide (w ∈ tables_1) && goodWord w) = true := by decide +kernel
  intro w hw
  have h1 := List.all_eq_true.mp h w hw
  simp only [Bool.and_eq_true, decide_eq_true_eq] at h1
  exact List.mem_append_right _ (List.mem_filter.mpr ⟨List.mem_append_right _ h1.1, h1.2⟩)
theorem ws5_in : ∀ w ∈ u_ws R5_ T5_ 14, w ∈ ALL := by
  have h : (u_ws R5_ T5_ 14).all (fun w => decide (w ∈ tables_1) && goodWord w) = true := by decide +kernel
  intro w hw
  have h1 := List.all_eq_true.mp h w hw
  simp only [Bool.and_eq_true, decide_eq_true_eq] at h1
  exact List.mem_append_right _ (List.mem_filter.mpr ⟨List.mem_append_right _ h1.1, h1.2⟩)
theorem ws6_in : ∀ w ∈ u_ws R6_ T6_ 54, w ∈ ALL := by
  have h : (u_ws R6_ T6_ 54).all (fun w => decide (w ∈ tables_1) && goodWord w) = true := by decide +kernel
  intro w hw
  have h1 := List.all_eq_true.mp h w hw
  simp only [Bool.and_eq_true, decide_eq_true_eq] at h1
  exact List.mem_append_right _ (List.mem_filter.mpr ⟨List.mem_append_right _ h1.1, h1.2⟩)
/-- what the class of number ci is -/
def cOK (ci : Nat) (C : String) (T : u_T) (N : Nat) : Prop := classes[ci]? = some (C, T, N) ∧ (∀ w ∈ u_ws C T N, w ∈ ALL) ∧ (∀ a, a < N → ∀ b, b < N → a ≠ b → (T a).2.1 ≠ (T b).2.1) ∧ ∃ ty0 : Nat → FieldType, ∀ k, k < N → parseFieldDescriptor (T k).2.2.1 = some (ty0 k)
theorem c0_ok : cOK 0 R0_ T0_ 11 := ⟨rfl, ws0_in, nm0_, ty0_, ty0_ok⟩
theorem c1_ok : cOK 1 R1_ T1_ 5 := ⟨rfl, ws1_in, nm1_, ty1_, ty1_ok⟩
theorem c2_ok : cOK 2 R2_ T2_ 15 := ⟨rfl, ws2_in, nm2_, ty2_, ty2_ok⟩
theorem c3_ok : cOK 3 R3_ T3_ 7 := ⟨rfl, ws3_in, nm3_, ty3_, ty3_ok⟩
theorem c4_ok : cOK 4 R4_ T4_ 6 := ⟨rfl, ws4_in, nm4_, ty4_, ty4_ok⟩
theorem c5_ok : cOK 5 R5_ T5_ 14 := ⟨rfl, ws5_in, nm5_, ty5_, ty5_ok⟩
theorem c6_ok : cOK 6 R6_ T6_ 54 := ⟨rfl, ws6_in, nm6_, ty6_, ty6_ok⟩
end
section
/-! THE SIMPLE MACHINE (sm): worlds of int cells with fixed references, methods by weakest start, all over the kit's rows. No name of the claim's own stands here but ALL, NW, classes, cfs of part 00. -/
abbrev kd : Type := Nat ⊕ Nat
abbrev sv : Type := Int32 ⊕ (Int64 ⊕ (Nat × kd))
abbrev sS : Type := Nat → Nat → Int32
abbrev sL : Type := List (Nat × sv)
abbrev sF : Type := Nat × Nat × kd
abbrev sY : Type := MethodName × ByteArray × Nat × Option FieldType
/-- pc, length, instruction, target, cases of a switch, constants -/
abbrev sT : Type := Nat × Nat × Instr × Nat × List (Int32 × Nat) × Int32 × Int64
abbrev sP : Type := List sv → sS → Option (Option sv × sS)
/-- index, kind, receiver's class, callee, how many arguments, named method, owner or host, what it does if that is known -/
abbrev sE : Type := Nat × Nat × Nat × sY × Nat × MethodName × String × sP
abbrev sI (x : Int32) : sv := .inl x
abbrev sJ (x : Int64) : sv := .inr (.inl x)
abbrev sR (b : Nat) (k : kd) : sv := .inr (.inr (b, k))
def cv (ad : Nat → Nat) (v : sv) : Value := match v with
  | .inl x => .int x
  | .inr (.inl y) => .long y
  | .inr (.inr q) => .ref (ad q.1)
def cvL (ad : Nat → Nat) (ls : sL) : List (Nat × Value) := ls.map (fun q => (q.1, cv ad q.2))
def gl (i : Nat) : sL → Option sv
  | [] => none
  | q :: r => cond (Nat.beq q.1 i) (some q.2) (gl i r)
def il (i : Nat) (v : sv) : sL → sL
  | [] => [(i, v)]
  | q :: r => cond (Nat.blt i q.1) ((i, v) :: q :: r) (q :: il i v r)
def cat2 (v : sv) : Bool := match v with
  | .inr (.inl _) => true
  | _ => false
def sl1 (i : Nat) (v : sv) (ls : sL) : sL := il i v (ls.filter (fun q => !(Nat.beq q.1 i) && !(Nat.beq (q.1 + 1) i && cat2 q.2)))
def sl2 (i : Nat) (v : sv) (ls : sL) : sL := il i v (ls.filter (fun q => !(Nat.beq q.1 i) && (!(Nat.beq q.1 (i + 1)) && !(Nat.beq (q.1 + 1) i && cat2 q.2))))
def up (σ : sS) (a k : Nat) (x : Int32) : sS := fun c => if c = a then upd (σ a) k x else σ c
def fv (ad : Nat → Nat) (σ : sS) (b k : Nat) (s : sF) : Value := match s.1 with
  | 1 => .ref (ad (b + s.2.1))
  | 2 => .ref (ad (σ b k).toNatClampNeg)
  | _ => .int (σ b k)
def fvs (ad : Nat → Nat) (σ : sS) (b : Nat) : Nat → List sF → List Value
  | _, [] => []
  | k, s :: r => fv ad σ b k s :: fvs ad σ b (k + 1) r
def ent (cA : ClassId) (ad : Nat → Nat) (σ : sS) (b : Nat) (k : kd) : va_E := match k with
  | .inl ci => .inr (ci, fvs ad σ b 0 (cfs.getD ci []))
  | .inr n => .inl (cA, n, .inl (σ b))
def wl (cA : ClassId) (ad : Nat → Nat) (σ : sS) (Y : List kd) : va_W := Y.mapIdx (fun b k => (ad b, ent cA ad σ b k))
theorem wl_get {cA : ClassId} {ad : Nat → Nat} {σ : sS} {Y : List kd} {b : Nat} {k : kd} (h : Y[b]? = some k) : (wl cA ad σ Y)[b]? = some (ad b, ent cA ad σ b k) := by
  unfold wl
  rw [List.getElem?_mapIdx, h]
  rfl
theorem fvs_get (ad : Nat → Nat) (σ : sS) (b : Nat) : ∀ (l : List sF) (k j : Nat) (s : sF), l[j]? = some s → (fvs ad σ b k l)[j]? = some (fv ad σ b (k + j) s)
  | [], k, j, s, h => by simp at h
  | x :: r, k, 0, s, h => by
    simp at h
    subst h
    rfl
  | x :: r, k, j + 1, s, h => by
    have h' : r[j]? = some s := by simpa using h
    have := fvs_get ad σ b r (k + 1) j s h'
    simp only [fvs, List.getElem?_cons_succ]
    rw [this]
    congr 2
    omega
theorem fvs_len (ad : Nat → Nat) (σ : sS) (b : Nat) : ∀ (l : List sF) (k : Nat), (fvs ad σ b k l).length = l.length
  | [], k => rfl
  | x :: r, k => by simp [fvs, fvs_len ad σ b r (k + 1)]
theorem up_same (σ : sS) (a k : Nat) (x : Int32) : up σ a k x a = upd (σ a) k x := by simp [up]
theorem up_ne (σ : sS) {a c : Nat} (k : Nat) (x : Int32) (h : c ≠ a) : up σ a k x c = σ c := by simp [up, h]
theorem ent_ne (cA : ClassId) (ad : Nat → Nat) (σ σ' : sS) {b : Nat} (k : kd) (h : σ' b = σ b) : ent cA ad σ' b k = ent cA ad σ b k := by
  cases k with
  | inl ci =>
    have e : ∀ (l : List sF) (j : Nat), fvs ad σ' b j l = fvs ad σ b j l := by
      intro l
      induction l with
      | nil => intro j; rfl
      | cons s r ih =>
        intro j
        simp only [fvs]
        rw [ih (j + 1)]
        congr 1
        unfold fv
        rw [h]
    show (Sum.inr (ci, fvs ad σ' b 0 (cfs.getD ci [])) : va_E) = Sum.inr (ci, fvs ad σ b 0 (cfs.getD ci []))
    rw [e]
  | inr n =>
    show (Sum.inl (cA, n, Sum.inl (σ' b)) : va_E) = Sum.inl (cA, n, Sum.inl (σ b))
    rw [h]
/-- a world in which one cell is another -/
theorem wl_set {cA : ClassId} {ad : Nat → Nat} {σ σ' : sS} {Y : List kd} {a : Nat} {k : kd} (h : Y[a]? = some k) (ho : ∀ c, c ≠ a → σ' c = σ c) {x : va_E} (hx : ent cA ad σ' a k = x) : (wl cA ad σ Y).set a (ad a, x) = wl cA ad σ' Y := by
  apply List.ext_getElem?
  intro i
  have hl := (List.getElem?_eq_some_iff.mp h).1
  by_cases hi : i = a
  · subst hi
    rw [List.getElem?_set_self (by unfold wl; simpa using hl), wl_get h, hx]
  · rw [List.getElem?_set_ne (Ne.symm hi)]
    unfold wl
    rw [List.getElem?_mapIdx, List.getElem?_mapIdx]
    cases hY : Y[i]? with
    | none => rfl
    | some q =>
      show some (ad i, ent cA ad σ i q) = some (ad i, ent cA ad σ' i q)
      rw [ent_ne cA ad σ σ' q (ho i hi)]
theorem fvs_set (ad : Nat → Nat) (σ : sS) (b j : Nat) (x : Int32) : ∀ (l : List sF) (k : Nat) (s : sF), k ≤ j → l[j - k]? = some s → (fvs ad σ b k l).set (j - k) (fv ad (up σ b j x) b j s) = fvs ad (up σ b j x) b k l
  | [], k, s, hk, h => by simp at h
  | q :: r, k, s, hk, h => by
    have tail : ∀ (l : List sF) (k : Nat), j < k → fvs ad σ b k l = fvs ad (up σ b j x) b k l := by
      intro l
      induction l with
      | nil => intro k _; rfl
      | cons s r ih =>
        intro k hk
        simp only [fvs]
        rw [ih (k + 1) (by omega)]
        congr 1
        unfold fv
        rw [up_same]
        have : upd (σ b) j x k = σ b k := by simp [upd]; omega
        rw [this]
    by_cases e : j = k
    · subst e
      have hq : q = s := by simpa using h
      subst hq
      simp only [Nat.sub_self, fvs, List.set_cons_zero]
      rw [tail r (j + 1) (by omega)]
    · have e2 : j - k = (j - (k + 1)) + 1 := by omega
      rw [e2] at h ⊢
      have h' : r[j - (k + 1)]? = some s := by simpa using h
      simp only [fvs, List.set_cons_succ]
      rw [fvs_set ad σ b j x r (k + 1) s (by omega) h']
      congr 1
      unfold fv
      rw [up_same]
      have : upd (σ b) j x k = σ b k := by simp [upd]; omega
      rw [this]
/-! values and locals that fit the layout -/
def wtv (Y : List kd) (v : sv) : Prop := match v with
  | .inr (.inr q) => Y[q.1]? = some q.2
  | _ => True
def wtL (Y : List kd) (ls : sL) : Prop := ∀ q ∈ ls, wtv Y q.2
def wtS (Y : List kd) (st : List sv) : Prop := ∀ v ∈ st, wtv Y v
/-- fixed references point at cells of the kind that the class says -/
def lok (Y : List kd) : Prop := Y.length < 2 ^ 31 ∧ ∀ (b ci : Nat), Y[b]? = some (.inl ci) → ∀ (k : Nat) (s : sF), (cfs.getD ci [])[k]? = some s → s.1 = 1 → Y[b + s.2.1]? = some s.2.2
theorem gl_mem : ∀ (ls : sL) (i : Nat) (v : sv), gl i ls = some v → (i, v) ∈ ls
  | [], i, v, h => by simp [gl] at h
  | q :: r, i, v, h => by
    obtain ⟨j, w⟩ := q
    simp only [gl] at h
    cases hb : Nat.beq j i with
    | true =>
      rw [hb] at h
      have e := Nat.eq_of_beq_eq_true hb
      subst e
      have hw : w = v := by simpa using h
      subst hw
      exact List.mem_cons_self
    | false =>
      rw [hb] at h
      exact List.mem_cons_of_mem _ (gl_mem r i v h)
theorem cvL_mem {ad : Nat → Nat} {ls : sL} {i : Nat} {v : sv} (h : (i, v) ∈ ls) : (i, cv ad v) ∈ cvL ad ls := List.mem_map.mpr ⟨(i, v), h, rfl⟩
theorem lv_gl {ad : Nat → Nat} {lsA : Array Slot} {nL : Nat} {ls : sL} (h : lv_has lsA nL (cvL ad ls)) {i : Nat} {v : sv} (hg : gl i ls = some v) : lsA[i]? = some (.val (cv ad v)) := h.2.2 (i, cv ad v) (cvL_mem (gl_mem ls i v hg))
theorem wt_gl {Y : List kd} {ls : sL} (h : wtL Y ls) {i : Nat} {v : sv} (hg : gl i ls = some v) : wtv Y v := h _ (gl_mem ls i v hg)
theorem il_mem : ∀ (ls : sL) (i : Nat) (v : sv) (q : Nat × sv), q ∈ il i v ls → q = (i, v) ∨ q ∈ ls
  | [], i, v, q, h => by
    simp only [il, List.mem_singleton] at h
    exact Or.inl h
  | p :: r, i, v, q, h => by
    simp only [il] at h
    cases hb : Nat.blt i p.1 with
    | true =>
      rw [hb] at h
      exact List.mem_cons.mp h
    | false =>
      rw [hb] at h
      rcases List.mem_cons.mp h with e | h
      · exact Or.inr (e ▸ List.mem_cons_self)
      · rcases il_mem r i v q h with e | h
        · exact Or.inl e
        · exact Or.inr (List.mem_cons_of_mem _ h)
theorem cv_cat (ad : Nat → Nat) (v : sv) : (cv ad v).category = if cat2 v then 2 else 1 := by
  rcases v with x | y | q <;> rfl
theorem lv_has_mono {lsA : Array Slot} {nL : Nat} {l l' : List (Nat × Value)} (h : lv_has lsA nL l) (hm : ∀ q ∈ l', q ∈ l) : lv_has lsA nL l' := ⟨h.1, h.2.1, fun q hq => h.2.2 q (hm q hq)⟩
theorem sl1_mem {ad : Nat → Nat} {ls : sL} {i : Nat} {v : sv} : ∀ q ∈ cvL ad (sl1 i v ls), q ∈ (i, cv ad v) :: (cvL ad ls).filter (fun q => !(q.1 == i) && !(q.1 + 1 == i && q.2.category == 2)) := by
  intro q hq
  obtain ⟨p, hp, rfl⟩ := List.mem_map.mp hq
  rcases il_mem _ i v p hp with rfl | h
  · exact List.mem_cons_self
  · obtain ⟨h1, h2⟩ := List.mem_filter.mp h
    refine List.mem_cons_of_mem _ (List.mem_filter.mpr ⟨cvL_mem h1, ?_⟩)
    rw [cv_cat]
    have e : ∀ a b : Nat, Nat.beq a b = (a == b) := fun a b => by rw [Bool.eq_iff_iff]; simp [Nat.beq_eq]
    simp only [e] at h2
    cases hc : cat2 p.2 <;> simp [hc] at h2 ⊢ <;> exact h2
theorem sl2_mem {ad : Nat → Nat} {ls : sL} {i : Nat} {v : sv} : ∀ q ∈ cvL ad (sl2 i v ls), q ∈ (i, cv ad v) :: (cvL ad ls).filter (fun q => !(q.1 == i) && (!(q.1 == i + 1) && !(q.1 + 1 == i && q.2.category == 2))) := by
  intro q hq
  obtain ⟨p, hp, rfl⟩ := List.mem_map.mp hq
  rcases il_mem _ i v p hp with rfl | h
  · exact List.mem_cons_self
  · obtain ⟨h1, h2⟩ := List.mem_filter.mp h
    refine List.mem_cons_of_mem _ (List.mem_filter.mpr ⟨cvL_mem h1, ?_⟩)
    rw [cv_cat]
    have e : ∀ a b : Nat, Nat.beq a b = (a == b) := fun a b => by rw [Bool.eq_iff_iff]; simp [Nat.beq_eq]
    simp only [e] at h2
    cases hc : cat2 p.2 <;> simp [hc] at h2 ⊢ <;> exact h2
theorem wt_sl1 {Y : List kd} {ls : sL} {i : Nat} {v : sv} (h : wtL Y ls) (hv : wtv Y v) : wtL Y (sl1 i v ls) := by
  intro q hq
  rcases il_mem _ i v q hq with rfl | h1
  · exact hv
  · exact h q (List.mem_filter.mp h1).1
theorem wt_sl2 {Y : List kd} {ls : sL} {i : Nat} {v : sv} (h : wtL Y ls) (hv : wtv Y v) : wtL Y (sl2 i v ls) := by
  intro q hq
  rcases il_mem _ i v q hq with rfl | h1
  · exact hv
  · exact h q (List.mem_filter.mp h1).1
theorem wtS_tail {Y : List kd} {v : sv} {st : List sv} (h : wtS Y (v :: st)) : wtS Y st := fun w hw => h w (List.mem_cons_of_mem _ hw)
theorem wtS_head {Y : List kd} {v : sv} {st : List sv} (h : wtS Y (v :: st)) : wtv Y v := h v List.mem_cons_self
theorem wtS_cons {Y : List kd} {v : sv} {st : List sv} (hv : wtv Y v) (h : wtS Y st) : wtS Y (v :: st) := fun w hw => by
  rcases List.mem_cons.mp hw with rfl | h1
  · exact hv
  · exact h w h1
end
section
/-! what a method does on worlds: Jd, and the weakest start of one instruction -/
abbrev rmD (d : Nat) : Room := { frames := d, cells := 0, slots := 0, locals := 40 * d + 40 }
def wsY (y : sY) : List Cond := .code y.1 y.2.1 y.2.2.1 y.2.2.2 :: ALL
def sCx (Y : List kd) (y : sY) (d : Nat) (D : va_G) (cA : ClassId) (p : Program) (R : Room) (s : State) (m : MethodId) (args : Array Value) (meth : Method) (c : Code) : Prop :=
  p.tables.exec = Jvm.exec ∧ c.code = y.2.1 ∧ c.maxLocals = y.2.2.1 ∧ s.vm.findClass y.1.cls = some m.cls ∧ meth.sig.returnType = y.2.2.2 ∧ meth.locks = false ∧ (∀ w ∈ ALL, w.before args s = true) ∧ (∀ w ∈ NW, va_Nw w s) ∧ va_K D classes [(cA, .int)] s ∧ d ≤ R.frames ∧ 40 * d + 40 ≤ R.locals ∧ lok Y
def sQc (Y : List kd) (D : va_G) (cA : ClassId) (ad : Nat → Nat) (A : Nat → Prop) (Q : Option sv → sS → Prop) : Array Value → State → Outcome → State → Prop := fun _ st o t =>
  (∃ (r : Option sv) (σ : sS), o = .returned (r.map (cv ad)) ∧ (∀ v ∈ r, wtv Y v) ∧ Q r σ ∧ va_P D classes (wl cA ad σ Y) t.heap) ∧ va_F A st t
/-- from here the method comes to its end, with Q of its answer and of the world -/
def Jd (Y : List kd) (d : Nat) (y : sY) (pc : Nat) (ls : sL) (st : List sv) (σ : sS) (Q : Option sv → sS → Prop) : Prop :=
  ∀ (l : Launch) (D : va_G) (cA : ClassId) (ad : Nat → Nat) (A : Nat → Prop) (p : Program) (e : Env) (R : Room) (s : State) (m : MethodId) (args : Array Value) (below : List Frame) (meth : Method) (c : Code),
    sCx Y y d D cA p R s m args meth c → (∀ q : Nat, s.heap.size ≤ q → A q) →
    ∀ (H : Heap) (locs : List Loc) (lsA : Array Slot), va_P D classes (wl cA ad σ Y) H → va_D A (wl cA ad σ Y) → va_S A s.heap H locs → lv_has lsA y.2.2.1 (cvL ad ls) → wtL Y ls → wtS Y st →
      W p l e R s m args below meth c H locs 0 0 (MQ below (sQc Y D cA ad A Q) args s 0 0 A) (F0 m pc lsA (st.map (cv ad)))
def argL : Nat → List sv → sL
  | _, [] => []
  | i, v :: r => (i, v) :: argL (cond (cat2 v) (i + 2) (i + 1)) r
/-- a call, by its arguments (the receiver first) -/
def CJ (Y : List kd) (d : Nat) (y : sY) (as : List sv) (σ : sS) (Q : Option sv → sS → Prop) : Prop := Jd Y d y 0 (argL 0 as) [] σ Q
theorem Jd.mono {Y : List kd} {d d' : Nat} {y : sY} {pc : Nat} {ls : sL} {st : List sv} {σ : sS} {Q : Option sv → sS → Prop} (h : Jd Y d y pc ls st σ Q) (hd : d ≤ d') : Jd Y d' y pc ls st σ Q := by
  intro l D cA ad A p e R s m args below meth c hC
  obtain ⟨h1, h2, h3, h4, h5, h6, h7, h8, h9, h10, h11, h12⟩ := hC
  exact h l D cA ad A p e R s m args below meth c ⟨h1, h2, h3, h4, h5, h6, h7, h8, h9, Nat.le_trans hd h10, by omega, h12⟩
theorem Jd.sub {Y : List kd} {d : Nat} {y : sY} {pc : Nat} {ls ls' : sL} {st : List sv} {σ : sS} {Q : Option sv → sS → Prop} (h : Jd Y d y pc ls' st σ Q) (hm : ∀ q ∈ ls', q ∈ ls) : Jd Y d y pc ls st σ Q := by
  intro l D cA ad A p e R s m args below meth c hC hA H locs lsA hP hD hS hl hw hws
  refine h l D cA ad A p e R s m args below meth c hC hA H locs lsA hP hD hS (lv_has_mono hl ?_) (fun q hq => hw q (hm q hq)) hws
  intro q hq
  obtain ⟨r, hr, rfl⟩ := List.mem_map.mp hq
  exact List.mem_map.mpr ⟨r, hm r hr, rfl⟩
theorem W.imp {p : Program} {l : Launch} {e : Env} {R : Room} {s : State} {m : MethodId} {args : Array Value} {below : List Frame} {meth : Method} {c : Code} {H : Heap} {locs : List Loc} {cells slots : Nat} {Q Q' : State → Prop} {g : JFrame} (h : W p l e R s m args below meth c H locs cells slots Q g) (hQ : ∀ t, Q t → Q' t) : W p l e R s m args below meth c H locs cells slots Q' g := by
  intro T hT X
  obtain ⟨t, a, b⟩ := h T hT X
  exact ⟨t, a, hQ t b⟩
theorem Jd.imp {Y : List kd} {d : Nat} {y : sY} {pc : Nat} {ls : sL} {st : List sv} {σ : sS} {Q Q' : Option sv → sS → Prop} (h : Jd Y d y pc ls st σ Q) (hQ : ∀ r σ, Q r σ → Q' r σ) : Jd Y d y pc ls st σ Q' := by
  intro l D cA ad A p e R s m args below meth c hC hA H locs lsA hP hD hS hl hw hws
  refine W.imp (h l D cA ad A p e R s m args below meth c hC hA H locs lsA hP hD hS hl hw hws) ?_
  rintro t ⟨o, h1, h2, ⟨⟨r, σ', e1, e2, e3, e4⟩, h4⟩, h5⟩
  exact ⟨o, h1, h2, ⟨⟨r, σ', e1, e2, hQ r σ' e3, e4⟩, h4⟩, h5⟩
theorem CJ.mono {Y : List kd} {d d' : Nat} {y : sY} {as : List sv} {σ : sS} {Q : Option sv → sS → Prop} (h : CJ Y d y as σ Q) (hd : d ≤ d') : CJ Y d' y as σ Q := Jd.mono h hd
theorem CJ.imp {Y : List kd} {d : Nat} {y : sY} {as : List sv} {σ : sS} {Q Q' : Option sv → sS → Prop} (h : CJ Y d y as σ Q) (hQ : ∀ r σ, Q r σ → Q' r σ) : CJ Y d y as σ Q' := Jd.imp h hQ
/-! the contract of the machine out of CJ -/
def sPc (Y : List kd) (D : va_G) (cA : ClassId) (ad : Nat → Nat) (σ : sS) (as : List sv) (sz : Nat) : Array Value → State → Prop :=
  va_Pc (as.map (cv ad)) (fun U => U.heap.size = sz ∧ va_P D classes (wl cA ad σ Y) U.heap ∧ va_K D classes [(cA, .int)] U ∧ va_D (fun _ => True) (wl cA ad σ Y) ∧ ∀ w ∈ NW, va_Nw w U)
theorem sPc_blind {Y : List kd} {D : va_G} {cA : ClassId} {ad : Nat → Nat} {σ : sS} {as : List sv} {sz : Nat} : FrameBlind (sPc Y D cA ad σ as sz) := by
  rintro a U g mk ⟨h1, h2, h3, h4, h5, h6⟩
  exact ⟨h1, h2, h3, va_K.moved (u := U) (U := U.calling g mk a) (Vm.Alike.refl U.vm) h4, h5, fun w hw => va_Nw.same (NW_tab w hw) (u := U) (U := U.calling g mk a) rfl (h6 w hw)⟩
theorem argL_cv (ad : Nat → Nat) : ∀ (as : List sv) (i : Nat), cvL ad (argL i as) = lv_args i (as.map (cv ad))
  | [], i => rfl
  | v :: r, i => by
    simp only [argL, cvL, List.map_cons, lv_args]
    have h := argL_cv ad r (cond (cat2 v) (i + 2) (i + 1))
    simp only [cvL] at h
    rw [h, cv_cat]
    cases cat2 v <;> rfl
theorem argL_mem : ∀ (as : List sv) (i : Nat) (q : Nat × sv), q ∈ argL i as → q.2 ∈ as
  | [], i, q, h => by cases h
  | v :: r, i, q, h => by
    rcases List.mem_cons.mp h with rfl | h
    · exact List.mem_cons_self
    · exact List.mem_cons_of_mem _ (argL_mem r _ q h)
theorem met_of {Y : List kd} {d : Nat} {y : sY} {as : List sv} {σ : sS} {Q : Option sv → sS → Prop} (h : CJ Y d y as σ Q) (hy : plainName y.1.cls = true) (hY : lok Y) (hwt : wtS Y as) (l : Launch) (D : va_G) (cA : ClassId) (ad : Nat → Nat) (sz : Nat) (hn : (lg_sl (as.map (cv ad))).length ≤ y.2.2.1) :
    Met l y.1 (wsY y) (rmD d) (sPc Y D cA ad σ as sz) (sQc Y D cA ad (va_A (wl cA ad σ Y) sz) Q) 0 0 (va_A (wl cA ad σ Y) sz) := by
  refine Met.ofW (cc := y.2.1) (maxL := y.2.2.1) (ret := y.2.2.2) (ws' := ALL) hy rfl ?_
  intro p e s m args below meth c s₁ B hml hv
  obtain ⟨rfl, hsz, hP, hK, hD0, hN⟩ := hv
  have hts := atoms_spec (ws := wsY y) B.pre
  have hown : s.vm.findClass y.1.cls = some m.cls := findClass_of_methodNamed B.named
  subst hsz
  have hl := lv_entry (as.map (cv ad)) (n := y.2.2.1) hn
  rw [lg_entry_eq]
  rw [← argL_cv] at hl
  exact h l D cA ad _ p e _ s m _ below meth c ⟨B.exec, B.bytes, hml, hown, B.returns, B.notSynchronized, fun w hw => hts w (List.mem_cons_of_mem _ hw), hN, hK, Nat.le_refl _, Nat.le_refl _, hY⟩ (fun q hq => Or.inr hq) s.heap [] _ hP hD0.self va_S.rf hl (fun q hq => hwt _ (argL_mem as 0 q hq)) (fun v hv => by cases hv)
end
section
/-! the weakest start of one instruction, and that it is one -/
def w1I (st : List sv) (f : Int32 → List sv → Prop) : Prop := match st with
  | .inl x :: r => f x r
  | _ => False
def w2I (st : List sv) (f : Int32 → Int32 → List sv → Prop) : Prop := match st with
  | .inl y :: .inl x :: r => f x y r
  | _ => False
def w1J (st : List sv) (f : Int64 → List sv → Prop) : Prop := match st with
  | .inr (.inl x) :: r => f x r
  | _ => False
def w2J (st : List sv) (f : Int64 → Int64 → List sv → Prop) : Prop := match st with
  | .inr (.inl y) :: .inr (.inl x) :: r => f x y r
  | _ => False
def w1R (st : List sv) (f : Nat → kd → List sv → Prop) : Prop := match st with
  | .inr (.inr q) :: r => f q.1 q.2 r
  | _ => False
def w1O (st : List sv) (f : Nat → Nat → List sv → Prop) : Prop := match st with
  | .inr (.inr (b, .inl ci)) :: r => f b ci r
  | _ => False
def wXO (st : List sv) (f : sv → Nat → Nat → List sv → Prop) : Prop := match st with
  | v :: .inr (.inr (b, .inl ci)) :: r => f v b ci r
  | _ => False
def wA (st : List sv) (f : Nat → Nat → List sv → Prop) : Prop := match st with
  | .inr (.inr (b, .inr n)) :: r => f b n r
  | _ => False
def wIA (st : List sv) (f : Int32 → Nat → Nat → List sv → Prop) : Prop := match st with
  | .inl i :: .inr (.inr (b, .inr n)) :: r => f i b n r
  | _ => False
def wIIA (st : List sv) (f : Int32 → Int32 → Nat → Nat → List sv → Prop) : Prop := match st with
  | .inl x :: .inl i :: .inr (.inr (b, .inr n)) :: r => f x i b n r
  | _ => False
def wCp (st : List sv) (f : Int32 → Int32 → Nat → Nat → Int32 → Nat → Nat → List sv → Prop) : Prop := match st with
  | .inl n :: .inl dp :: .inr (.inr (a, .inr n1)) :: .inl sp :: .inr (.inr (a0, .inr n0)) :: r => f n dp a n1 sp a0 n0 r
  | _ => False
def wgI (i : Nat) (ls : sL) (f : Int32 → Prop) : Prop := match gl i ls with
  | some (.inl x) => f x
  | _ => False
def wgJ (i : Nat) (ls : sL) (f : Int64 → Prop) : Prop := match gl i ls with
  | some (.inr (.inl x)) => f x
  | _ => False
def wgR (i : Nat) (ls : sL) (f : Nat → kd → Prop) : Prop := match gl i ls with
  | some (.inr (.inr q)) => f q.1 q.2
  | _ => False
def kbeq (a b : kd) : Bool := match a, b with
  | .inl x, .inl y => Nat.beq x y
  | .inr x, .inr y => Nat.beq x y
  | _, _ => false
def wsum : List sv → Nat
  | [] => 0
  | v :: r => cond (cat2 v) 2 1 + wsum r
def ffind (idx ci : Nat) : List (Nat × Nat × Nat × sF) → Option (Nat × sF)
  | [] => none
  | e :: r => cond (Nat.beq e.1 idx && Nat.beq e.2.1 ci) (some e.2.2) (ffind idx ci r)
def cfind (idx : Nat) : List sE → Option sE
  | [] => none
  | e :: r => cond (Nat.beq e.1 idx) (some e) (cfind idx r)
def cfindR (idx ci : Nat) : List sE → Option sE
  | [] => none
  | e :: r => cond (Nat.beq e.1 idx && Nat.beq e.2.2.1 ci) (some e) (cfindR idx ci r)
def rI (k : Int32 → sS → Prop) : Option sv → sS → Prop := fun r σ => match r with
  | some (.inl x) => k x σ
  | _ => False
def rJ (k : Int64 → sS → Prop) : Option sv → sS → Prop := fun r σ => match r with
  | some (.inr (.inl x)) => k x σ
  | _ => False
def rN (k : sS → Prop) : Option sv → sS → Prop := fun r σ => match r with
  | none => k σ
  | _ => False
def rV (ret : Option FieldType) (rest : List sv) (k : List sv → sS → Prop) : Option sv → sS → Prop := match ret with
  | none => rN (fun σ => k rest σ)
  | some .long => rJ (fun x σ => k (.inr (.inl x) :: rest) σ)
  | some _ => rI (fun x σ => k (.inl x :: rest) σ)
def upA (σ : sS) (a : Nat) (f : Nat → Int32) : sS := fun c => if c = a then f else σ c
/-- the call of entry e, t cells of the stack -/
def wcall (Y : List kd) (d : Nat) (e : sE) (t : Nat) (st : List sv) (σ : sS) (K : List sv → sS → Prop) : Prop :=
  cond (Nat.ble t st.length && (Nat.ble (wsum (st.drop t)) 8 && Nat.ble (wsum (st.take t).reverse) e.2.2.2.1.2.2.1)) (match e.2.2.2.2.2.2.2 (st.take t).reverse σ with
    | some (r, σ') => K (r.toList ++ st.drop t) σ'
    | none => CJ Y d e.2.2.2.1 (st.take t).reverse σ (rV e.2.2.2.1.2.2.2 (st.drop t) K)) False
def wbr (a b : Prop) (A B : Prop) : Prop := (a → A) ∧ (b → B)
def wsw (x : Int32) (d : Prop) (f : Nat → Prop) : List (Int32 × Nat) → Prop
  | [] => d
  | q :: r => (x = q.1 → f q.2) ∧ (¬ x = q.1 → wsw x d f r)
def wstatE (Y : List kd) (d : Nat) (ce : sE) (st : List sv) (σ : sS) (K : List sv → sS → Prop) : Prop := match ce.2.1 with
  | 5 => w2I st (fun x y r => cond (Nat.ble (wsum r) 8) (K (.inl (if y < x then y else x) :: r) σ) False)
  | 6 => w2I st (fun x y r => cond (Nat.ble (wsum r) 8) (K (.inl (if x < y then y else x) :: r) σ) False)
  | 7 => wCp st (fun n dp a n1 sp a0 n0 r => cond (Nat.ble (wsum r) 8) ((¬ sp < 0 ∧ ¬ dp < 0 ∧ ¬ n < 0 ∧ sp.toNatClampNeg + n.toNatClampNeg ≤ n0 ∧ dp.toNatClampNeg + n.toNatClampNeg ≤ n1) ∧ K r (upA σ a (va_cpy (σ a0) (σ a) sp.toNatClampNeg dp.toNatClampNeg n.toNatClampNeg))) False)
  | 1 => wcall Y d ce ce.2.2.2.2.1 st σ K
  | 2 => wcall Y d ce ce.2.2.2.2.1 st σ K
  | _ => False
def wstat (Y : List kd) (d : Nat) (ct : List sE) (idx : Nat) (st : List sv) (σ : sS) (K : List sv → sS → Prop) : Prop := match d with
  | 0 => False
  | d + 1 => match cfind idx ct with
    | some ce => wstatE Y d ce st σ K
    | none => False
def wvirtE (Y : List kd) (d : Nat) (ce : sE) (na : Nat) (st : List sv) (σ : sS) (K : List sv → sS → Prop) : Prop := match ce.2.1 with
  | 0 => cond (Nat.beq ce.2.2.2.2.1 na) (wcall Y d ce (ce.2.2.2.2.1 + 1) st σ K) False
  | 3 => cond (Nat.beq ce.2.2.2.2.1 na) (wcall Y d ce (ce.2.2.2.2.1 + 1) st σ K) False
  | 4 => cond (Nat.beq ce.2.2.2.2.1 na) (wcall Y d ce (ce.2.2.2.2.1 + 1) st σ K) False
  | _ => False
def wvirt (Y : List kd) (d : Nat) (ct : List sE) (idx : Nat) (st : List sv) (σ : sS) (K : List sv → sS → Prop) : Prop := match d with
  | 0 => False
  | d + 1 => match cfind idx ct with
    | some c0 => w1O (st.drop c0.2.2.2.2.1) (fun _ ci _ => match cfindR idx ci ct with
      | some ce => wvirtE Y d ce c0.2.2.2.2.1 st σ K
      | none => False)
    | none => False
def wp1 (Y : List kd) (d : Nat) (mL : Nat) (ret : Option FieldType) (ft : List (Nat × Nat × Nat × sF)) (ct : List sE) (e : sT) (ls : sL) (st : List sv) (σ : sS) (K : Nat → sL → List sv → sS → Prop) (Q : Option sv → sS → Prop) : Prop :=
  match e.2.2.1 with
  | .iconst _ | .bipush _ | .sipush _ | .ldc _ | .ldc_w _ => K (e.1 + e.2.1) ls (.inl e.2.2.2.2.2.1 :: st) σ
  | .lconst _ | .ldc2_w _ => K (e.1 + e.2.1) ls (.inr (.inl e.2.2.2.2.2.2) :: st) σ
  | .iload_n k => wgI k.val ls (fun x => K (e.1 + e.2.1) ls (.inl x :: st) σ)
  | .iload i => wgI i ls (fun x => K (e.1 + e.2.1) ls (.inl x :: st) σ)
  | .lload_n k => wgJ k.val ls (fun x => K (e.1 + e.2.1) ls (.inr (.inl x) :: st) σ)
  | .lload i => wgJ i ls (fun x => K (e.1 + e.2.1) ls (.inr (.inl x) :: st) σ)
  | .aload_n k => wgR k.val ls (fun b k => K (e.1 + e.2.1) ls (.inr (.inr (b, k)) :: st) σ)
  | .aload i => wgR i ls (fun b k => K (e.1 + e.2.1) ls (.inr (.inr (b, k)) :: st) σ)
  | .istore_n k => w1I st (fun x r => Nat.ble (k.val + 1) mL = true ∧ K (e.1 + e.2.1) (sl1 k.val (.inl x) ls) r σ)
  | .istore i => w1I st (fun x r => Nat.ble (i + 1) mL = true ∧ K (e.1 + e.2.1) (sl1 i (.inl x) ls) r σ)
  | .lstore_n k => w1J st (fun x r => Nat.ble (k.val + 2) mL = true ∧ K (e.1 + e.2.1) (sl2 k.val (.inr (.inl x)) ls) r σ)
  | .lstore i => w1J st (fun x r => Nat.ble (i + 2) mL = true ∧ K (e.1 + e.2.1) (sl2 i (.inr (.inl x)) ls) r σ)
  | .iinc i _ => wgI i ls (fun x => Nat.ble (i + 1) mL = true ∧ K (e.1 + e.2.1) (sl1 i (.inl (x + e.2.2.2.2.2.1)) ls) st σ)
  | .iadd => w2I st (fun x y r => K (e.1 + e.2.1) ls (.inl (x + y) :: r) σ)
  | .isub => w2I st (fun x y r => K (e.1 + e.2.1) ls (.inl (x - y) :: r) σ)
  | .imul => w2I st (fun x y r => K (e.1 + e.2.1) ls (.inl (x * y) :: r) σ)
  | .idiv => w2I st (fun x y r => ¬ y = 0 ∧ K (e.1 + e.2.1) ls (.inl (x / y) :: r) σ)
  | .irem => w2I st (fun x y r => ¬ y = 0 ∧ K (e.1 + e.2.1) ls (.inl (x - x / y * y) :: r) σ)
  | .iand => w2I st (fun x y r => K (e.1 + e.2.1) ls (.inl (x &&& y) :: r) σ)
  | .ior => w2I st (fun x y r => K (e.1 + e.2.1) ls (.inl (x ||| y) :: r) σ)
  | .ishl => w2I st (fun x y r => K (e.1 + e.2.1) ls (.inl (x <<< (y &&& 31)) :: r) σ)
  | .ishr => w2I st (fun x y r => K (e.1 + e.2.1) ls (.inl (x >>> (y &&& 31)) :: r) σ)
  | .iushr => w2I st (fun x y r => K (e.1 + e.2.1) ls (.inl (x.toUInt32 >>> (y.toUInt32 &&& Int32.toUInt32 31)).toInt32 :: r) σ)
  | .ineg => w1I st (fun x r => K (e.1 + e.2.1) ls (.inl (-x) :: r) σ)
  | .i2l => w1I st (fun x r => K (e.1 + e.2.1) ls (.inr (.inl x.toInt64) :: r) σ)
  | .ladd => w2J st (fun x y r => K (e.1 + e.2.1) ls (.inr (.inl (x + y)) :: r) σ)
  | .lsub => w2J st (fun x y r => K (e.1 + e.2.1) ls (.inr (.inl (x - y)) :: r) σ)
  | .lmul => w2J st (fun x y r => K (e.1 + e.2.1) ls (.inr (.inl (x * y)) :: r) σ)
  | .ldiv => w2J st (fun x y r => ¬ y = 0 ∧ K (e.1 + e.2.1) ls (.inr (.inl (x / y)) :: r) σ)
  | .lrem => w2J st (fun x y r => ¬ y = 0 ∧ K (e.1 + e.2.1) ls (.inr (.inl (x - x / y * y)) :: r) σ)
  | .lcmp => w2J st (fun x y r => K (e.1 + e.2.1) ls (.inl (lg_cmp x y) :: r) σ)
  | .dup => match st with
    | v :: r => cond (cat2 v) False (K (e.1 + e.2.1) ls (v :: v :: r) σ)
    | _ => False
  | .dup2 => match st with
    | v :: w :: r => cond (cat2 v || cat2 w) False (K (e.1 + e.2.1) ls (v :: w :: v :: w :: r) σ)
    | _ => False
  | .pop => match st with
    | v :: r => cond (cat2 v) False (K (e.1 + e.2.1) ls r σ)
    | _ => False
  | .goto _ => K e.2.2.2.1 ls st σ
  | .ifnull _ => w1R st (fun _ _ r => K (e.1 + e.2.1) ls r σ)
  | .ifnonnull _ => w1R st (fun _ _ r => K e.2.2.2.1 ls r σ)
  | .if_icmp .eq _ => w2I st (fun x y r => (x = y → K e.2.2.2.1 ls r σ) ∧ (¬ x = y → K (e.1 + e.2.1) ls r σ))
  | .if_icmp .ne _ => w2I st (fun x y r => (¬ x = y → K e.2.2.2.1 ls r σ) ∧ (x = y → K (e.1 + e.2.1) ls r σ))
  | .if_icmp .lt _ => w2I st (fun x y r => (x < y → K e.2.2.2.1 ls r σ) ∧ (¬ x < y → K (e.1 + e.2.1) ls r σ))
  | .if_icmp .ge _ => w2I st (fun x y r => (¬ x < y → K e.2.2.2.1 ls r σ) ∧ (x < y → K (e.1 + e.2.1) ls r σ))
  | .if_icmp .gt _ => w2I st (fun x y r => (y < x → K e.2.2.2.1 ls r σ) ∧ (¬ y < x → K (e.1 + e.2.1) ls r σ))
  | .if_icmp .le _ => w2I st (fun x y r => (¬ y < x → K e.2.2.2.1 ls r σ) ∧ (y < x → K (e.1 + e.2.1) ls r σ))
  | .ifCond .eq _ => w1I st (fun x r => (x = 0 → K e.2.2.2.1 ls r σ) ∧ (¬ x = 0 → K (e.1 + e.2.1) ls r σ))
  | .ifCond .ne _ => w1I st (fun x r => (¬ x = 0 → K e.2.2.2.1 ls r σ) ∧ (x = 0 → K (e.1 + e.2.1) ls r σ))
  | .ifCond .lt _ => w1I st (fun x r => (x < 0 → K e.2.2.2.1 ls r σ) ∧ (¬ x < 0 → K (e.1 + e.2.1) ls r σ))
  | .ifCond .ge _ => w1I st (fun x r => (¬ x < 0 → K e.2.2.2.1 ls r σ) ∧ (x < 0 → K (e.1 + e.2.1) ls r σ))
  | .ifCond .gt _ => w1I st (fun x r => (0 < x → K e.2.2.2.1 ls r σ) ∧ (¬ 0 < x → K (e.1 + e.2.1) ls r σ))
  | .ifCond .le _ => w1I st (fun x r => (¬ 0 < x → K e.2.2.2.1 ls r σ) ∧ (0 < x → K (e.1 + e.2.1) ls r σ))
  | .tableswitch _ _ _ _ => w1I st (fun x r => wsw x (K e.2.2.2.1 ls r σ) (fun t => K t ls r σ) e.2.2.2.2.1)
  | .lookupswitch _ _ => w1I st (fun x r => wsw x (K e.2.2.2.1 ls r σ) (fun t => K t ls r σ) e.2.2.2.2.1)
  | .arraylength => wA st (fun _ n r => K (e.1 + e.2.1) ls (.inl (nI n) :: r) σ)
  | .iaload => wIA st (fun i b n r => vp_in i n ∧ K (e.1 + e.2.1) ls (.inl (σ b i.toNatClampNeg) :: r) σ)
  | .iastore => wIIA st (fun x i b n r => vp_in i n ∧ K (e.1 + e.2.1) ls r (up σ b i.toNatClampNeg x))
  | .getfield idx => w1O st (fun b ci r => match ffind idx ci ft with
    | some (k, 0, _, _) => K (e.1 + e.2.1) ls (.inl (σ b k) :: r) σ
    | some (k, 3, _, _) => K (e.1 + e.2.1) ls (.inl (σ b k) :: r) σ
    | some (_, 1, off, kk) => K (e.1 + e.2.1) ls (.inr (.inr (b + off, kk)) :: r) σ
    | some (k, 2, _, kk) => Y[(σ b k).toNatClampNeg]? = some kk ∧ K (e.1 + e.2.1) ls (.inr (.inr ((σ b k).toNatClampNeg, kk)) :: r) σ
    | _ => False)
  | .putfield idx => wXO st (fun v b ci r => match ffind idx ci ft, v with
    | some (k, 0, _, _), .inl x => K (e.1 + e.2.1) ls r (up σ b k x)
    | some (k, 3, _, _), .inl x => (x = 0 ∨ x = 1) ∧ K (e.1 + e.2.1) ls r (up σ b k x)
    | some (k, 2, _, kk), .inr (.inr (b', kk')) => cond (kbeq kk' kk) (K (e.1 + e.2.1) ls r (up σ b k (nI b'))) False
    | _, _ => False)
  | .invokestatic idx => wstat Y d ct idx st σ (K (e.1 + e.2.1) ls)
  | .invokevirtual idx => wvirt Y d ct idx st σ (K (e.1 + e.2.1) ls)
  | .ireturn => match st with
    | [.inl x] => match ret with
      | some .int => Q (some (.inl x)) σ
      | some .boolean => (x = 0 ∨ x = 1) ∧ Q (some (.inl x)) σ
      | _ => False
    | _ => False
  | .lreturn => match st, ret with
    | [.inr (.inl x)], some .long => Q (some (.inr (.inl x))) σ
    | _, _ => False
  | .return_ => match st, ret with
    | [], none => Q none σ
    | _, _ => False
  | _ => False
end
section
/-! the tables of a method that the weakest start rests on -/
def csT (pc : Nat) : Int → List Int → List (Int32 × Nat) → Bool
  | _, [], [] => true
  | a, o :: r, q :: r' => decide (q.1.toInt = a) && (decide ((pc : Int) + o = (q.2 : Int)) && csT pc (a + 1) r r')
  | _, _, _ => false
def csL (pc : Nat) : List (Int × Int) → List (Int32 × Nat) → Bool
  | [], [] => true
  | o :: r, q :: r' => decide (q.1.toInt = o.1) && (decide ((pc : Int) + o.2 = (q.2 : Int)) && csL pc r r')
  | _, _ => false
def sSide (own : String) (e : sT) : Bool := match e.2.2.1 with
  | .iconst n => decide (Int32.ofInt n = e.2.2.2.2.2.1) && Nat.beq e.2.1 1
  | .bipush n => decide ((Int8.ofInt n).toInt32 = e.2.2.2.2.2.1) && Nat.beq e.2.1 2
  | .sipush n => decide ((Int16.ofInt n).toInt32 = e.2.2.2.2.2.1) && Nat.beq e.2.1 3
  | .ldc i => decide ((own, i, e.2.2.2.2.2.1) ∈ CK) && Nat.beq e.2.1 2
  | .ldc_w i => decide ((own, i, e.2.2.2.2.2.1) ∈ CK) && Nat.beq e.2.1 3
  | .lconst n => decide (Int64.ofNat n.val = e.2.2.2.2.2.2) && Nat.beq e.2.1 1
  | .ldc2_w i => decide ((own, i, e.2.2.2.2.2.2) ∈ CKL) && Nat.beq e.2.1 3
  | .iload _ | .lload _ | .aload _ | .istore _ | .lstore _ => Nat.beq e.2.1 2
  | .iinc _ n => decide (Int32.ofInt n = e.2.2.2.2.2.1) && Nat.beq e.2.1 3
  | .goto o | .ifnull o | .ifnonnull o | .if_icmp _ o | .ifCond _ o => decide ((e.1 : Int) + o = (e.2.2.2.1 : Int)) && Nat.beq e.2.1 3
  | .tableswitch d lo hi offs => decide ((e.1 : Int) + d = (e.2.2.2.1 : Int)) && (decide (hi = lo + offs.size - 1) && csT e.1 lo offs.toList e.2.2.2.2.1)
  | .lookupswitch d ps => decide ((e.1 : Int) + d = (e.2.2.2.1 : Int)) && ((ps.toList.zip (ps.toList.drop 1)).all (fun (a, next) => a.1 < next.1) && csL e.1 ps.toList e.2.2.2.2.1)
  | .getfield _ | .putfield _ | .invokestatic _ | .invokevirtual _ => Nat.beq e.2.1 3
  | _ => Nat.beq e.2.1 1
def sTok (own : String) (bytes : ByteArray) (e : sT) : Prop := decode bytes e.1 = .ok (e.2.2.1, e.2.1) ∧ sSide own e = true
/-- an entry of the fields: index, class, place, sort -/
def fOK (own : String) (e : Nat × Nat × Nat × sF) : Prop := ∃ (C : String) (T : u_T) (N : Nat) (ref : String), cOK e.2.1 C T N ∧ e.2.2.1 < N ∧ Cond.fieldLink own e.1 ref (T e.2.2.1).2.1 (T e.2.2.1).2.2.1 ∈ ALL ∧ (ref = (T e.2.2.1).1 ∨ Cond.sameField ref (T e.2.2.1).1 (T e.2.2.1).2.1 (T e.2.2.1).2.2.1 ∈ ALL) ∧ (cfs.getD e.2.1 [])[e.2.2.1]? = some e.2.2.2 ∧
  (e.2.2.2.1 = 0 → parseFieldDescriptor (T e.2.2.1).2.2.1 = some .int ∧ (T e.2.2.1).2.2.2 = false) ∧ (e.2.2.2.1 = 3 → parseFieldDescriptor (T e.2.2.1).2.2.1 = some .boolean ∧ (T e.2.2.1).2.2.2 = false) ∧ (e.2.2.2.1 = 2 → ∃ o, parseFieldDescriptor (T e.2.2.1).2.2.1 = some (.object o) ∧ (T e.2.2.1).2.2.2 = false)
/-- what an entry of the calls rests on -/
def notMH (c : String) : Prop := c ≠ "java/lang/invoke/MethodHandle" ∧ c ≠ "java/lang/invoke/VarHandle"
def yOK (Y : List kd) (e : sE) : Prop := plainName e.2.2.2.1.1.cls = true ∧ Cond.code e.2.2.2.1.1 e.2.2.2.1.2.1 e.2.2.2.1.2.2.1 e.2.2.2.1.2.2.2 ∈ ALL ∧ e.2.2.2.1.2.2.1 ≤ 21 ∧ notMH e.2.2.2.1.1.cls ∧ (parseMethodDescriptor e.2.2.2.1.1.desc).map (fun d => d.parameters.length) = some e.2.2.2.2.1 ∧
  ∀ (as : List sv) (σ : sS) (r : Option sv) (σ' : sS), e.2.2.2.2.2.2.2 as σ = some (r, σ') → wtS Y as → ∀ (d : Nat) (Q : Option sv → sS → Prop), Q r σ' → CJ Y d e.2.2.2.1 as σ Q
def eOK (Y : List kd) (own : String) (e : sE) : Prop := match e.2.1 with
  | 0 => yOK Y e ∧ ∃ C T N, classes[e.2.2.1]? = some (C, T, N) ∧ e.2.2.2.1.1.cls = C ∧ Cond.methodLink own e.1 e.2.2.2.1.1 ∈ ALL ∧ Cond.instanceMethod e.2.2.2.1.1 ∈ ALL ∧ Cond.selects C e.2.2.2.1.1 e.2.2.2.1.1 ∈ ALL ∧ Cond.initialized C ∈ ALL
  | 1 => yOK Y e ∧ Cond.methodLinkNest own e.1 e.2.2.2.1.1 e.2.2.2.2.2.2.1 ∈ NW ∧ Cond.static e.2.2.2.1.1 ∈ ALL ∧ Cond.initialized e.2.2.2.1.1.cls ∈ ALL
  | 2 => yOK Y e ∧ Cond.methodLink own e.1 e.2.2.2.1.1 ∈ ALL ∧ Cond.static e.2.2.2.1.1 ∈ ALL ∧ Cond.initialized e.2.2.2.1.1.cls ∈ ALL
  | 3 => yOK Y e ∧ ∃ C T N, classes[e.2.2.1]? = some (C, T, N) ∧ e.2.2.2.1.1 = ⟨e.2.2.2.2.2.2.1, e.2.2.2.2.2.1.name, e.2.2.2.2.2.1.desc⟩ ∧ Cond.methodLink own e.1 e.2.2.2.2.2.1 ∈ ALL ∧ Cond.sameMethod e.2.2.2.2.2.1.cls e.2.2.2.2.2.2.1 e.2.2.2.2.2.1.name e.2.2.2.2.2.1.desc ∈ ALL ∧ Cond.selects C e.2.2.2.2.2.1 e.2.2.2.1.1 ∈ ALL ∧ Cond.instanceMethod e.2.2.2.1.1 ∈ ALL ∧ Cond.initialized e.2.2.2.1.1.cls ∈ ALL ∧ notMH e.2.2.2.2.2.2.1
  | 4 => yOK Y e ∧ ∃ C T N, classes[e.2.2.1]? = some (C, T, N) ∧ Cond.methodLink own e.1 e.2.2.2.2.2.1 ∈ ALL ∧ Cond.sameMethod e.2.2.2.2.2.1.cls e.2.2.2.2.2.2.1 e.2.2.2.2.2.1.name e.2.2.2.2.2.1.desc ∈ ALL ∧ Cond.selects C e.2.2.2.2.2.1 e.2.2.2.1.1 ∈ ALL ∧ Cond.instanceMethod e.2.2.2.1.1 ∈ ALL ∧ Cond.initialized e.2.2.2.1.1.cls ∈ ALL ∧ notMH e.2.2.2.2.2.2.1 ∧ Cond.declares ⟨e.2.2.2.2.2.2.1, e.2.2.2.2.2.1.name, e.2.2.2.2.2.1.desc⟩ ∈ NW ∧ (parseMethodDescriptor e.2.2.2.2.2.1.desc).map (fun d => d.parameters.length) = some e.2.2.2.2.1
  | 5 => Cond.methodLink own e.1 Lib.Math.min.name ∈ ALL ∧ Cond.static Lib.Math.min.name ∈ ALL ∧ Cond.initialized "java/lang/Math" ∈ ALL ∧ Cond.code Lib.Math.min.name Lib.Math.min.code 2 (some .int) ∈ ALL
  | 6 => Cond.methodLink own e.1 Lib.Math.max.name ∈ ALL ∧ Cond.static Lib.Math.max.name ∈ ALL ∧ Cond.initialized "java/lang/Math" ∈ ALL ∧ Cond.code Lib.Math.max.name Lib.Math.max.code 2 (some .int) ∈ ALL
  | 7 => Cond.methodLink own e.1 arraycopyName ∈ ALL ∧ Cond.native arraycopyName ∈ ALL ∧ Cond.static arraycopyName ∈ ALL ∧ Cond.initialized "java/lang/System" ∈ ALL
  | _ => False
theorem w1I_inv {st : List sv} {f : Int32 → List sv → Prop} (h : w1I st f) : ∃ x r, st = .inl x :: r ∧ f x r := by
  unfold w1I at h
  split at h
  · exact ⟨_, _, rfl, h⟩
  · exact h.elim
theorem w2I_inv {st : List sv} {f : Int32 → Int32 → List sv → Prop} (h : w2I st f) : ∃ x y r, st = .inl y :: .inl x :: r ∧ f x y r := by
  unfold w2I at h
  split at h
  · exact ⟨_, _, _, rfl, h⟩
  · exact h.elim
theorem w1J_inv {st : List sv} {f : Int64 → List sv → Prop} (h : w1J st f) : ∃ x r, st = .inr (.inl x) :: r ∧ f x r := by
  unfold w1J at h
  split at h
  · exact ⟨_, _, rfl, h⟩
  · exact h.elim
theorem w2J_inv {st : List sv} {f : Int64 → Int64 → List sv → Prop} (h : w2J st f) : ∃ x y r, st = .inr (.inl y) :: .inr (.inl x) :: r ∧ f x y r := by
  unfold w2J at h
  split at h
  · exact ⟨_, _, _, rfl, h⟩
  · exact h.elim
theorem w1R_inv {st : List sv} {f : Nat → kd → List sv → Prop} (h : w1R st f) : ∃ b k r, st = .inr (.inr (b, k)) :: r ∧ f b k r := by
  unfold w1R at h
  split at h
  · rename_i q r
    exact ⟨q.1, q.2, r, rfl, h⟩
  · exact h.elim
theorem w1O_inv {st : List sv} {f : Nat → Nat → List sv → Prop} (h : w1O st f) : ∃ b k r, st = .inr (.inr (b, .inl k)) :: r ∧ f b k r := by
  unfold w1O at h
  split at h
  · exact ⟨_, _, _, rfl, h⟩
  · exact h.elim
theorem wXO_inv {st : List sv} {f : sv → Nat → Nat → List sv → Prop} (h : wXO st f) : ∃ v b k r, st = v :: .inr (.inr (b, .inl k)) :: r ∧ f v b k r := by
  unfold wXO at h
  split at h
  · exact ⟨_, _, _, _, rfl, h⟩
  · exact h.elim
theorem wA_inv {st : List sv} {f : Nat → Nat → List sv → Prop} (h : wA st f) : ∃ b k r, st = .inr (.inr (b, .inr k)) :: r ∧ f b k r := by
  unfold wA at h
  split at h
  · exact ⟨_, _, _, rfl, h⟩
  · exact h.elim
theorem wIA_inv {st : List sv} {f : Int32 → Nat → Nat → List sv → Prop} (h : wIA st f) : ∃ i b k r, st = .inl i :: .inr (.inr (b, .inr k)) :: r ∧ f i b k r := by
  unfold wIA at h
  split at h
  · exact ⟨_, _, _, _, rfl, h⟩
  · exact h.elim
theorem wIIA_inv {st : List sv} {f : Int32 → Int32 → Nat → Nat → List sv → Prop} (h : wIIA st f) : ∃ x i b k r, st = .inl x :: .inl i :: .inr (.inr (b, .inr k)) :: r ∧ f x i b k r := by
  unfold wIIA at h
  split at h
  · exact ⟨_, _, _, _, _, rfl, h⟩
  · exact h.elim
theorem wCp_inv {st : List sv} {f : Int32 → Int32 → Nat → Nat → Int32 → Nat → Nat → List sv → Prop} (h : wCp st f) : ∃ n dp a n1 sp a0 n0 r, st = .inl n :: .inl dp :: .inr (.inr (a, .inr n1)) :: .inl sp :: .inr (.inr (a0, .inr n0)) :: r ∧ f n dp a n1 sp a0 n0 r := by
  unfold wCp at h
  split at h
  · exact ⟨_, _, _, _, _, _, _, _, rfl, h⟩
  · exact h.elim
theorem wgI_inv {i : Nat} {ls : sL} {f : Int32 → Prop} (h : wgI i ls f) : ∃ x, gl i ls = some (.inl x) ∧ f x := by
  unfold wgI at h
  split at h
  · rename_i x hx
    exact ⟨x, hx, h⟩
  · exact h.elim
theorem wgJ_inv {i : Nat} {ls : sL} {f : Int64 → Prop} (h : wgJ i ls f) : ∃ x, gl i ls = some (.inr (.inl x)) ∧ f x := by
  unfold wgJ at h
  split at h
  · rename_i x hx
    exact ⟨x, hx, h⟩
  · exact h.elim
theorem wgR_inv {i : Nat} {ls : sL} {f : Nat → kd → Prop} (h : wgR i ls f) : ∃ b k, gl i ls = some (.inr (.inr (b, k))) ∧ f b k := by
  unfold wgR at h
  split at h
  · rename_i q hx
    exact ⟨q.1, q.2, hx, h⟩
  · exact h.elim
theorem ffind_mem {idx ci : Nat} : ∀ {ft : List (Nat × Nat × Nat × sF)} {q : Nat × sF}, ffind idx ci ft = some q → (idx, ci, q) ∈ ft
  | [], q, h => by cases h
  | e :: r, q, h => by
    obtain ⟨a, b, c⟩ := e
    simp only [ffind] at h
    cases hb : (Nat.beq a idx && Nat.beq b ci) with
    | true =>
      rw [hb] at h
      simp only [Bool.and_eq_true] at hb
      have e1 := Nat.eq_of_beq_eq_true hb.1
      have e2 := Nat.eq_of_beq_eq_true hb.2
      subst e1; subst e2
      have : c = q := by simpa using h
      subst this
      exact List.mem_cons_self
    | false =>
      rw [hb] at h
      exact List.mem_cons_of_mem _ (ffind_mem h)
theorem cfind_mem {idx : Nat} : ∀ {ct : List sE} {e : sE}, cfind idx ct = some e → e ∈ ct ∧ e.1 = idx
  | [], e, h => by cases h
  | q :: r, e, h => by
    simp only [cfind] at h
    cases hb : Nat.beq q.1 idx with
    | true =>
      rw [hb] at h
      have : q = e := by simpa using h
      subst this
      exact ⟨List.mem_cons_self, Nat.eq_of_beq_eq_true hb⟩
    | false =>
      rw [hb] at h
      exact ⟨List.mem_cons_of_mem _ (cfind_mem h).1, (cfind_mem h).2⟩
theorem cfindR_mem {idx ci : Nat} : ∀ {ct : List sE} {e : sE}, cfindR idx ci ct = some e → e ∈ ct ∧ e.1 = idx ∧ e.2.2.1 = ci
  | [], e, h => by cases h
  | q :: r, e, h => by
    simp only [cfindR] at h
    cases hb : (Nat.beq q.1 idx && Nat.beq q.2.2.1 ci) with
    | true =>
      rw [hb] at h
      have : q = e := by simpa using h
      subst this
      simp only [Bool.and_eq_true] at hb
      exact ⟨List.mem_cons_self, Nat.eq_of_beq_eq_true hb.1, Nat.eq_of_beq_eq_true hb.2⟩
    | false =>
      rw [hb] at h
      exact ⟨List.mem_cons_of_mem _ (cfindR_mem h).1, (cfindR_mem h).2⟩
theorem wsum_cat (ad : Nat → Nat) : ∀ st : List sv, ((st.map (cv ad)).map fun v => v.category).sum = wsum st
  | [] => rfl
  | v :: r => by
    simp only [List.map_cons, List.sum_cons, wsum]
    rw [cv_cat]
    have := wsum_cat ad r
    simp only [List.map_map] at this ⊢
    rw [this]
    cases cat2 v <;> rfl
theorem wsum_sl (ad : Nat → Nat) : ∀ st : List sv, (lg_sl (st.map (cv ad))).length = wsum st
  | [] => rfl
  | v :: r => by
    have := wsum_sl ad r
    simp only [lg_sl] at this ⊢
    simp only [List.map_cons, List.flatMap_cons, List.length_append, wsum]
    rw [this, cv_cat]
    cases cat2 v <;> rfl
/-- the addresses of a world are the same whatever it holds -/
theorem wl_D {A : Nat → Prop} {cA : ClassId} {ad : Nat → Nat} {σ : sS} {Y : List kd} (σ' : sS) (h : va_D A (wl cA ad σ Y)) : va_D A (wl cA ad σ' Y) := by
  have key : ∀ (σ1 : sS) (k : Nat) (q : Nat × va_E), (wl cA ad σ1 Y)[k]? = some q → q.1 = ad k ∧ ∃ e, Y[k]? = some e := by
    intro σ1 k q hk
    unfold wl at hk
    rw [List.getElem?_mapIdx] at hk
    cases hY : Y[k]? with
    | none => rw [hY] at hk; cases hk
    | some e =>
      rw [hY] at hk
      have : (ad k, ent cA ad σ1 k e) = q := by simpa using hk
      subst this
      exact ⟨rfl, e, rfl⟩
  refine ⟨fun i j p q hi hj hpq => ?_, fun k q hk => ?_⟩
  · obtain ⟨e1, k1, f1⟩ := key σ' i p hi
    obtain ⟨e2, k2, f2⟩ := key σ' j q hj
    exact h.1 i j _ _ (wl_get f1) (wl_get f2) (by rw [← e1, ← e2]; exact hpq)
  · obtain ⟨e1, k1, f1⟩ := key σ' k q hk
    rw [e1]
    exact h.2 k _ (wl_get f1)
end
section
/-! one step: from the weakest start of an instruction to Jd -/
section STEP
variable {p : Program} {l : Launch} {e : Env} {R : Room} {s : State} {m : MethodId} {args : Array Value} {below : List Frame} {meth : Method} {c : Code} {H : Heap} {locs : List Loc} {Qf : State → Prop}
variable {Y : List kd} {D : va_G} {cA : ClassId} {ad : Nat → Nat} {A : Nat → Prop} {σ : sS} {lsA : Array Slot} {pc : Nat} {st0 rest : List Value} {Q' : Option sv → sS → Prop} {as' : Array Value}
theorem call_go (hr : va_Run p l e R s m args below meth c H locs 0 0 0 0 (F0 m pc lsA st0) rest (sQc Y D cA ad (va_A (wl cA ad σ Y) H.size) Q' as') (va_A (wl cA ad σ Y) H.size)) (hS : va_S A s.heap H locs) (hD : va_D A (wl cA ad σ Y)) (hA : ∀ q : Nat, s.heap.size ≤ q → A q)
    (kk : ∀ (r : Option sv) (σ' : sS) (H1 : Heap) (locs1 : List Loc), (∀ v ∈ r, wtv Y v) → Q' r σ' → va_P D classes (wl cA ad σ' Y) H1 → va_S A s.heap H1 locs1 → W p l e R s m args below meth c H1 locs1 0 0 Qf (F0 m (pc + 3) lsA ((r.map (cv ad)).toList ++ rest))) : W p l e R s m args below meth c H locs 0 0 Qf (F0 m pc lsA st0) := by
  have hsub : ∀ q, va_A (wl cA ad σ Y) H.size q → A q := by
    intro q hq
    rcases hq with ⟨k, en, hk⟩ | hq
    · exact hD.2 k _ hk
    · exact hA q (Nat.le_trans hS.1 hq)
  intro T hT X
  obtain ⟨v, st₀, t, T', L, h0, X', hL, e1, e2, ⟨⟨r, σ', hv, hw, hq, hp⟩, hz, hk⟩, stp⟩ := hr T hT X
  cases hv
  rw [h0] at hz hk
  obtain ⟨t2, a1, b1⟩ := kk r σ' T'.heap (locs ++ L) hw hq (by rw [e1]; exact hp)
    ⟨Nat.le_trans hS.1 (by rw [e1]; exact hz), fun q h1 h2 => by rw [e1, hk q (Nat.lt_of_lt_of_le h1 hS.1) (fun z => h2 (hsub q z))]; exact hS.2.1 q h1 h2, fun q hq => by
      rcases List.mem_append.mp hq with h | h
      · exact hS.2.2 q h
      · exact hsub _ (hL q h)⟩ T' rfl X'
  exact ⟨t2, stp t2 a1, b1⟩
end STEP
theorem csT_ok {x : Int32} {d : Prop} {f : Nat → Prop} {pc : Nat} : ∀ (offs : List Int) (cs : List (Int32 × Nat)) (a : Int), csT pc a offs cs = true → wsw x d f cs → (∃ (j : Nat) (off : Int) (t : Nat), offs[j]? = some off ∧ x.toInt = a + j ∧ (pc : Int) + off = (t : Int) ∧ f t) ∨ ((∀ j : Nat, j < offs.length → x.toInt ≠ a + j) ∧ d)
  | [], [], a, _, h => Or.inr ⟨fun j hj => absurd hj (Nat.not_lt_zero j), h⟩
  | [], q :: r', a, h, _ => by simp [csT] at h
  | o :: r, [], a, h, _ => by simp [csT] at h
  | o :: r, q :: r', a, h, hw => by
    simp only [csT, Bool.and_eq_true, decide_eq_true_eq] at h
    obtain ⟨h1, h2, h3⟩ := h
    by_cases hx : x = q.1
    · exact Or.inl ⟨0, o, q.2, rfl, by rw [hx, h1]; simp, h2, hw.1 hx⟩
    · rcases csT_ok r r' (a + 1) h3 (hw.2 hx) with ⟨j, off, t, e1, e2, e3, e4⟩ | ⟨e1, e2⟩
      · exact Or.inl ⟨j + 1, off, t, by simpa using e1, by rw [e2]; push_cast; omega, e3, e4⟩
      · refine Or.inr ⟨fun j hj => ?_, e2⟩
        cases j with
        | zero =>
          intro hq
          exact hx (Int32.toInt_inj.mp (by rw [h1, hq]; simp))
        | succ j =>
          have := e1 j (by simpa using hj)
          intro hq
          apply this
          rw [hq]; push_cast; omega
theorem csL_ok {x : Int32} {d : Prop} {f : Nat → Prop} {pc : Nat} {dflt : Int} : ∀ (ps : List (Int × Int)) (cs : List (Int32 × Nat)), csL pc ps cs = true → wsw x d f cs → (∃ (off : Int) (t : Nat), Op.lookupswitch.offset ps dflt x.toInt = off ∧ (pc : Int) + off = (t : Int) ∧ f t) ∨ (Op.lookupswitch.offset ps dflt x.toInt = dflt ∧ d)
  | [], [], _, h => Or.inr ⟨rfl, h⟩
  | [], q :: r', h, _ => by simp [csL] at h
  | o :: r, [], h, _ => by simp [csL] at h
  | (oa, ob) :: r, q :: r', h, hw => by
    simp only [csL, Bool.and_eq_true, decide_eq_true_eq] at h
    obtain ⟨h1, h2, h3⟩ := h
    by_cases hx : x = q.1
    · refine Or.inl ⟨ob, q.2, ?_, h2, hw.1 hx⟩
      rw [Op.lookupswitch.offset_cons, if_pos (by rw [hx, h1])]
    · rw [lv_osw hx h1]
      exact csL_ok r r' h3 (hw.2 hx)
theorem i32_ge {x y : Int32} (h : y ≤ x) : ¬ x < y := by
  rw [Int32.le_iff_toInt_le] at h
  rw [Int32.lt_iff_toInt_lt]
  omega
theorem i32_nge {x y : Int32} (h : ¬ y ≤ x) : x < y := by
  rw [Int32.le_iff_toInt_le] at h
  rw [Int32.lt_iff_toInt_lt]
  omega
theorem wt_I {Y : List kd} {x : Int32} : wtv Y (.inl x) := trivial
theorem wt_J {Y : List kd} {x : Int64} : wtv Y (.inr (.inl x)) := trivial
theorem cat2_1 {ad : Nat → Nat} {v : sv} (h : cat2 v = false) : (cv ad v).category = 1 := by rw [cv_cat, h]; rfl
theorem take_rev (ad : Nat → Nat) (t : Nat) (st : List sv) : st.map (cv ad) = ((st.take t).reverse.map (cv ad)).reverse ++ (st.drop t).map (cv ad) := by
  rw [← List.map_reverse, List.reverse_reverse, ← List.map_append, List.take_append_drop]

theorem goodALL {ws : List Cond} (h : ∀ w ∈ ws, w ∈ ALL) : GoodIn ALL ws := fun w hw => ⟨h w hw, ALL_good w (h w hw)⟩
theorem drop_take {st : List sv} {n : Nat} {v : sv} {r : List sv} (h : st.drop n = v :: r) : (st.take (n + 1)).reverse = v :: (st.take n).reverse ∧ st.drop (n + 1) = r := by
  have h0 : st[n]? = some v := by
    have : (st.drop n)[0]? = some v := by rw [h]; rfl
    rw [List.getElem?_drop] at this
    simpa using this
  refine ⟨?_, ?_⟩
  · rw [List.take_add_one, h0]
    simp
  · have : st.drop (n + 1) = (st.drop n).drop 1 := by rw [List.drop_drop]
    rw [this, h]
    rfl
theorem take_revV (ad : Nat → Nat) {st : List sv} {n b ci : Nat} {r : List sv} (h : st.drop n = .inr (.inr (b, .inl ci)) :: r) : st.map (cv ad) = ((st.take n).reverse.map (cv ad)).reverse ++ .ref (ad b) :: (st.drop (n + 1)).map (cv ad) := by
  rw [(drop_take h).2]
  have := take_rev ad n st
  rw [h] at this
  exact this
theorem rV_out {ret : Option FieldType} {rest : List sv} {K : List sv → sS → Prop} {r : Option sv} {σ : sS} (h : rV ret rest K r σ) : K (r.toList ++ rest) σ := by
  unfold rV at h
  split at h
  · unfold rN at h
    split at h
    · exact h
    · exact h.elim
  · unfold rJ at h
    split at h
    · exact h
    · exact h.elim
  · unfold rI at h
    split at h
    · exact h
    · exact h.elim
section WCALL
variable {p : Program} {l : Launch} {en : Env} {R : Room} {s : State} {m : MethodId} {args : Array Value} {below : List Frame} {meth : Method} {c : Code} {H : Heap} {locs : List Loc} {Qf : State → Prop}
variable {Y : List kd} {D : va_G} {cA : ClassId} {ad : Nat → Nat} {A : Nat → Prop} {σ : sS} {lsA : Array Slot} {pc d t : Nat} {st : List sv} {e : sE} {K3 : List sv → sS → Prop}
theorem wcall_go (hy : yOK Y e) (h : wcall Y d e t st σ K3) (hY : lok Y) (hws : wtS Y st) (hD : va_D A (wl cA ad σ Y)) (hS : va_S A s.heap H locs) (hA : ∀ q : Nat, s.heap.size ≤ q → A q)
    (run : ∀ (Q' : Option sv → sS → Prop), Met l e.2.2.2.1.1 (wsY e.2.2.2.1) (rmD d) (sPc Y D cA ad σ (st.take t).reverse H.size) (sQc Y D cA ad (va_A (wl cA ad σ Y) H.size) Q') 0 0 (va_A (wl cA ad σ Y) H.size) →
      (2 * (F0 m pc lsA (st.map (cv ad))).monitorRoom + (((st.drop t).map (cv ad)).map fun v => v.category).sum ≤ 8 ∧ ((st.take t).reverse.map (cv ad)).length = t ∧ t ≤ st.length) →
      va_Run p l en R s m args below meth c H locs 0 0 0 0 (F0 m pc lsA (st.map (cv ad))) ((st.drop t).map (cv ad)) (sQc Y D cA ad (va_A (wl cA ad σ Y) H.size) Q' ((st.take t).reverse.map (cv ad)).toArray) (va_A (wl cA ad σ Y) H.size))
    (go3 : ∀ (st' : List sv) (σ' : sS), K3 st' σ' → ∀ (H1 : Heap) (locs1 : List Loc), va_P D classes (wl cA ad σ' Y) H1 → va_S A s.heap H1 locs1 → wtS Y st' → W p l en R s m args below meth c H1 locs1 0 0 Qf (F0 m (pc + 3) lsA (st'.map (cv ad)))) :
    W p l en R s m args below meth c H locs 0 0 Qf (F0 m pc lsA (st.map (cv ad))) := by
  unfold wcall at h
  cases hc : (Nat.ble t st.length && (Nat.ble (wsum (st.drop t)) 8 && Nat.ble (wsum (st.take t).reverse) e.2.2.2.1.2.2.1)) with
  | false => rw [hc] at h; exact h.elim
  | true =>
  rw [hc] at h
  simp only [Bool.and_eq_true] at hc
  have c1 := Nat.le_of_ble_eq_true hc.1
  have c2 := Nat.le_of_ble_eq_true hc.2.1
  have c3 := Nat.le_of_ble_eq_true hc.2.2
  have hwa : wtS Y (st.take t).reverse := fun v hv => hws v (List.mem_of_mem_take (List.mem_reverse.mp hv))
  obtain ⟨y1, y2, y3, y4, y5, hpr⟩ := hy
  have hcall : ∃ Q' : Option sv → sS → Prop, CJ Y d e.2.2.2.1 (st.take t).reverse σ Q' ∧ ∀ r σ', Q' r σ' → K3 (r.toList ++ st.drop t) σ' := by
    cases hp : e.2.2.2.2.2.2.2 (st.take t).reverse σ with
    | none =>
      rw [hp] at h
      exact ⟨_, h, fun r σ' hr => rV_out hr⟩
    | some q =>
      obtain ⟨r, σ'⟩ := q
      rw [hp] at h
      exact ⟨fun r0 σ0 => r0 = r ∧ σ0 = σ', hpr _ _ _ _ hp hwa d _ ⟨rfl, rfl⟩, fun r0 σ0 hr => by obtain ⟨rfl, rfl⟩ := hr; exact h⟩
  obtain ⟨Q', hcj, hK⟩ := hcall
  have hM := met_of hcj y1 hY hwa l D cA ad H.size (by rw [wsum_sl]; exact c3)
  have hr := run Q' hM ⟨lv_room (by rw [wsum_cat]; exact c2), by simp [c1], c1⟩
  refine call_go hr hS hD hA (fun r σ' H1 locs1 hwr hq hP1 hS1 => ?_)
  have hcv : (r.map (cv ad)).toList ++ (st.drop t).map (cv ad) = (r.toList ++ st.drop t).map (cv ad) := by
    cases r <;> simp
  rw [hcv]
  exact go3 _ _ (hK r σ' hq) H1 locs1 hP1 hS1 (fun v hv => by
    rcases List.mem_append.mp hv with h1 | h1
    · exact hwr v (by simpa using h1)
    · exact hws v (List.mem_of_mem_drop h1))
end WCALL
set_option maxHeartbeats 4000000 in
set_option maxRecDepth 100000 in
theorem wp1_ok {Y : List kd} {d : Nat} {y : sY} {ft : List (Nat × Nat × Nat × sF)} {ct : List sE} (hF : ∀ q ∈ ft, fOK y.1.cls q) (hC : ∀ q ∈ ct, eOK Y y.1.cls q) {e : sT} (hT : sTok y.1.cls y.2.1 e) {ls : sL} {st : List sv} {σ : sS} {K : Nat → sL → List sv → sS → Prop} {Q : Option sv → sS → Prop}
    (h : wp1 Y d y.2.2.1 y.2.2.2 ft ct e ls st σ K Q) (hK : ∀ pc ls st σ, K pc ls st σ → Jd Y d y pc ls st σ Q) : Jd Y d y e.1 ls st σ Q := by
  intro l D cA ad A p en R s m args below meth c hCx hA H locs lsA hP hD hS hl hw hws
  obtain ⟨hx, hb, hml, hown, hr, hlk, hts, hN, hKK, hfr, hlo, hY⟩ := id hCx
  have go : ∀ (pc : Nat) (ls : sL) (st : List sv) (σ : sS), K pc ls st σ → ∀ (H : Heap) (locs : List Loc) (lsA : Array Slot), va_P D classes (wl cA ad σ Y) H → va_D A (wl cA ad σ Y) → va_S A s.heap H locs → lv_has lsA y.2.2.1 (cvL ad ls) → wtL Y ls → wtS Y st → W p l en R s m args below meth c H locs 0 0 (MQ below (sQc Y D cA ad A Q) args s 0 0 A) (F0 m pc lsA (st.map (cv ad))) := fun pc ls st σ hk => hK pc ls st σ hk l D cA ad A p en R s m args below meth c hCx hA
  obtain ⟨pc, len, i, tgt, cs, k1, k2⟩ := e
  obtain ⟨hdg, hside⟩ := hT
  have hlen1 : ∀ n : Nat, Nat.beq len n = true → len = n := fun n h => Nat.eq_of_beq_eq_true h
  cases i with
  | iconst n =>
    obtain ⟨hk1, hln⟩ := Bool.and_eq_true_iff.mp hside
    have hln := hlen1 1 hln
    subst hln
    have hk1 := of_decide_eq_true hk1
    exact lv_iconst hx hb hdg hk1 (go _ _ _ _ h H locs lsA hP hD hS hl hw (wtS_cons wt_I hws))
  | bipush n =>
    obtain ⟨hk1, hln⟩ := Bool.and_eq_true_iff.mp hside
    have hln := hlen1 2 hln
    subst hln
    have hk1 := of_decide_eq_true hk1
    exact lv_bipush hx hb hdg hk1 (go _ _ _ _ h H locs lsA hP hD hS hl hw (wtS_cons wt_I hws))
  | sipush n =>
    obtain ⟨hk1, hln⟩ := Bool.and_eq_true_iff.mp hside
    have hln := hlen1 3 hln
    subst hln
    have hk1 := of_decide_eq_true hk1
    exact lv_sipush hx hb hdg hk1 (go _ _ _ _ h H locs lsA hP hD hS hl hw (wtS_cons wt_I hws))
  | ldc i =>
    obtain ⟨hk1, hln⟩ := Bool.and_eq_true_iff.mp hside
    have hln := hlen1 2 hln
    subst hln
    have hk1 := of_decide_eq_true hk1
    exact lv_ldc hx hb hown (hts _ (CK_in _ hk1)) hdg (go _ _ _ _ h H locs lsA hP hD hS hl hw (wtS_cons wt_I hws))
  | ldc_w i =>
    obtain ⟨hk1, hln⟩ := Bool.and_eq_true_iff.mp hside
    have hln := hlen1 3 hln
    subst hln
    have hk1 := of_decide_eq_true hk1
    exact lv_ldcw hx hb hown (hts _ (CK_in _ hk1)) hdg (go _ _ _ _ h H locs lsA hP hD hS hl hw (wtS_cons wt_I hws))
  | lconst n =>
    obtain ⟨hk1, hln⟩ := Bool.and_eq_true_iff.mp hside
    have hln := hlen1 1 hln
    subst hln
    have hk1 := of_decide_eq_true hk1
    exact lv_lconst hx hb hdg hk1 (go _ _ _ _ h H locs lsA hP hD hS hl hw (wtS_cons wt_J hws))
  | ldc2_w i =>
    obtain ⟨hk1, hln⟩ := Bool.and_eq_true_iff.mp hside
    have hln := hlen1 3 hln
    subst hln
    have hk1 := of_decide_eq_true hk1
    exact lv_ldc2 hx hb hown (hts _ (CKL_in _ hk1)) hdg (go _ _ _ _ h H locs lsA hP hD hS hl hw (wtS_cons wt_J hws))
  | iload_n k =>
    have hln := hlen1 1 hside
    subst hln
    obtain ⟨x, hg, hk⟩ := wgI_inv h
    exact lv_iload_n hx hb hdg rfl (lv_gl hl hg) (go _ _ _ _ hk H locs lsA hP hD hS hl hw (wtS_cons wt_I hws))
  | iload k =>
    have hln := hlen1 2 hside
    subst hln
    obtain ⟨x, hg, hk⟩ := wgI_inv h
    exact lv_iload hx hb hdg (lv_gl hl hg) (go _ _ _ _ hk H locs lsA hP hD hS hl hw (wtS_cons wt_I hws))
  | lload_n k =>
    have hln := hlen1 1 hside
    subst hln
    obtain ⟨x, hg, hk⟩ := wgJ_inv h
    exact lv_lload_n hx hb hdg rfl (lv_gl hl hg) (go _ _ _ _ hk H locs lsA hP hD hS hl hw (wtS_cons wt_J hws))
  | lload k =>
    have hln := hlen1 2 hside
    subst hln
    obtain ⟨x, hg, hk⟩ := wgJ_inv h
    exact lv_lload hx hb hdg (lv_gl hl hg) (go _ _ _ _ hk H locs lsA hP hD hS hl hw (wtS_cons wt_J hws))
  | aload_n k =>
    have hln := hlen1 1 hside
    subst hln
    have h2 : wgR k.val ls (fun b kk => K (pc + 1) ls (.inr (.inr (b, kk)) :: st) σ) := h
    obtain ⟨b, kk, hg, hk⟩ := wgR_inv h2
    exact lv_aload_n hx hb hdg rfl (lv_gl hl hg) (go _ _ _ _ hk H locs lsA hP hD hS hl hw (wtS_cons (wt_gl hw hg) hws))
  | aload k =>
    have hln := hlen1 2 hside
    subst hln
    have h2 : wgR k ls (fun b kk => K (pc + 2) ls (.inr (.inr (b, kk)) :: st) σ) := h
    obtain ⟨b, kk, hg, hk⟩ := wgR_inv h2
    exact lv_aload hx hb hdg (lv_gl hl hg) (go _ _ _ _ hk H locs lsA hP hD hS hl hw (wtS_cons (wt_gl hw hg) hws))
  | istore_n k =>
    have hln := hlen1 1 hside
    subst hln
    obtain ⟨x, r, rfl, hk⟩ := w1I_inv h
    have hn : k.val < y.2.2.1 := Nat.le_of_ble_eq_true hk.1
    exact lv_istore_n hx hb hdg rfl hl hn rfl (fun ls2 hl2 => go _ _ _ _ hk.2 H locs ls2 hP hD hS (lv_has_mono hl2 sl1_mem) (wt_sl1 hw wt_I) (wtS_tail hws))
  | istore k =>
    have hln := hlen1 2 hside
    subst hln
    obtain ⟨x, r, rfl, hk⟩ := w1I_inv h
    have hn : k < y.2.2.1 := Nat.le_of_ble_eq_true hk.1
    exact lv_istore hx hb hdg hl hn rfl (fun ls2 hl2 => go _ _ _ _ hk.2 H locs ls2 hP hD hS (lv_has_mono hl2 sl1_mem) (wt_sl1 hw wt_I) (wtS_tail hws))
  | lstore_n k =>
    have hln := hlen1 1 hside
    subst hln
    obtain ⟨x, r, rfl, hk⟩ := w1J_inv h
    have hn : k.val + 1 < y.2.2.1 := Nat.le_of_ble_eq_true hk.1
    exact lv_lstore_n hx hb hdg rfl hl hn rfl (fun ls2 hl2 => go _ _ _ _ hk.2 H locs ls2 hP hD hS (lv_has_mono hl2 sl2_mem) (wt_sl2 hw wt_J) (wtS_tail hws))
  | lstore k =>
    have hln := hlen1 2 hside
    subst hln
    obtain ⟨x, r, rfl, hk⟩ := w1J_inv h
    have hn : k + 1 < y.2.2.1 := Nat.le_of_ble_eq_true hk.1
    exact lv_lstore hx hb hdg hl hn rfl (fun ls2 hl2 => go _ _ _ _ hk.2 H locs ls2 hP hD hS (lv_has_mono hl2 sl2_mem) (wt_sl2 hw wt_J) (wtS_tail hws))
  | iinc i n =>
    obtain ⟨hk1, hln⟩ := Bool.and_eq_true_iff.mp hside
    have hln := hlen1 3 hln
    subst hln
    have hk1 := of_decide_eq_true hk1
    obtain ⟨x, hg, hk⟩ := wgI_inv h
    have hn : i < y.2.2.1 := Nat.le_of_ble_eq_true hk.1
    obtain ⟨j, hj, hj2⟩ := List.mem_iff_getElem?.mp (cvL_mem (ad := ad) (gl_mem ls i _ hg)) |> fun ⟨j, hj⟩ => (⟨j, hj, trivial⟩ : ∃ j, (cvL ad ls)[j]? = some (i, cv ad (.inl x)) ∧ True)
    exact lv_iinc (k := j) (x := x) (v := x + k1) hx hb hdg hl hj (by rw [hk1]) hn rfl (fun ls2 hl2 => go _ _ _ _ hk.2 H locs ls2 hP hD hS (lv_has_mono hl2 (sl1_mem (v := .inl (x + k1)))) (wt_sl1 hw wt_I) hws)
  | iadd =>
    have hln := hlen1 1 hside
    subst hln
    obtain ⟨x, z, r, rfl, hk⟩ := w2I_inv h
    exact lv_iadd hx hb hdg (go _ _ _ _ hk H locs lsA hP hD hS hl hw (wtS_cons wt_I (wtS_tail (wtS_tail hws))))
  | isub =>
    have hln := hlen1 1 hside
    subst hln
    obtain ⟨x, z, r, rfl, hk⟩ := w2I_inv h
    exact lv_isub hx hb hdg (go _ _ _ _ hk H locs lsA hP hD hS hl hw (wtS_cons wt_I (wtS_tail (wtS_tail hws))))
  | imul =>
    have hln := hlen1 1 hside
    subst hln
    obtain ⟨x, z, r, rfl, hk⟩ := w2I_inv h
    exact lv_imul hx hb hdg (go _ _ _ _ hk H locs lsA hP hD hS hl hw (wtS_cons wt_I (wtS_tail (wtS_tail hws))))
  | iand =>
    have hln := hlen1 1 hside
    subst hln
    obtain ⟨x, z, r, rfl, hk⟩ := w2I_inv h
    exact lv_iand hx hb hdg (go _ _ _ _ hk H locs lsA hP hD hS hl hw (wtS_cons wt_I (wtS_tail (wtS_tail hws))))
  | ior =>
    have hln := hlen1 1 hside
    subst hln
    obtain ⟨x, z, r, rfl, hk⟩ := w2I_inv h
    exact lv_ior hx hb hdg (go _ _ _ _ hk H locs lsA hP hD hS hl hw (wtS_cons wt_I (wtS_tail (wtS_tail hws))))
  | ishl =>
    have hln := hlen1 1 hside
    subst hln
    obtain ⟨x, z, r, rfl, hk⟩ := w2I_inv h
    exact lv_ishl hx hb hdg (go _ _ _ _ hk H locs lsA hP hD hS hl hw (wtS_cons wt_I (wtS_tail (wtS_tail hws))))
  | ishr =>
    have hln := hlen1 1 hside
    subst hln
    obtain ⟨x, z, r, rfl, hk⟩ := w2I_inv h
    exact lv_ishr hx hb hdg (go _ _ _ _ hk H locs lsA hP hD hS hl hw (wtS_cons wt_I (wtS_tail (wtS_tail hws))))
  | iushr =>
    have hln := hlen1 1 hside
    subst hln
    obtain ⟨x, z, r, rfl, hk⟩ := w2I_inv h
    exact lv_iushr hx hb hdg rfl (go _ _ _ _ hk H locs lsA hP hD hS hl hw (wtS_cons wt_I (wtS_tail (wtS_tail hws))))
  | idiv =>
    have hln := hlen1 1 hside
    subst hln
    obtain ⟨x, z, r, rfl, hk⟩ := w2I_inv h
    exact lv_idiv hx hb hdg hk.1 (go _ _ _ _ hk.2 H locs lsA hP hD hS hl hw (wtS_cons wt_I (wtS_tail (wtS_tail hws))))
  | irem =>
    have hln := hlen1 1 hside
    subst hln
    obtain ⟨x, z, r, rfl, hk⟩ := w2I_inv h
    exact lv_irem hx hb hdg hk.1 (go _ _ _ _ hk.2 H locs lsA hP hD hS hl hw (wtS_cons wt_I (wtS_tail (wtS_tail hws))))
  | ineg =>
    have hln := hlen1 1 hside
    subst hln
    obtain ⟨x, r, rfl, hk⟩ := w1I_inv h
    exact lv_ineg hx hb hdg (go _ _ _ _ hk H locs lsA hP hD hS hl hw (wtS_cons wt_I (wtS_tail hws)))
  | i2l =>
    have hln := hlen1 1 hside
    subst hln
    obtain ⟨x, r, rfl, hk⟩ := w1I_inv h
    exact lv_i2l hx hb hdg rfl (go _ _ _ _ hk H locs lsA hP hD hS hl hw (wtS_cons wt_J (wtS_tail hws)))
  | ladd =>
    have hln := hlen1 1 hside
    subst hln
    obtain ⟨x, z, r, rfl, hk⟩ := w2J_inv h
    exact lv_ladd hx hb hdg (go _ _ _ _ hk H locs lsA hP hD hS hl hw (wtS_cons wt_J (wtS_tail (wtS_tail hws))))
  | lsub =>
    have hln := hlen1 1 hside
    subst hln
    obtain ⟨x, z, r, rfl, hk⟩ := w2J_inv h
    exact lv_lsub hx hb hdg (go _ _ _ _ hk H locs lsA hP hD hS hl hw (wtS_cons wt_J (wtS_tail (wtS_tail hws))))
  | lmul =>
    have hln := hlen1 1 hside
    subst hln
    obtain ⟨x, z, r, rfl, hk⟩ := w2J_inv h
    exact lv_lmul hx hb hdg (go _ _ _ _ hk H locs lsA hP hD hS hl hw (wtS_cons wt_J (wtS_tail (wtS_tail hws))))
  | ldiv =>
    have hln := hlen1 1 hside
    subst hln
    obtain ⟨x, z, r, rfl, hk⟩ := w2J_inv h
    exact lv_ldiv hx hb hdg hk.1 (go _ _ _ _ hk.2 H locs lsA hP hD hS hl hw (wtS_cons wt_J (wtS_tail (wtS_tail hws))))
  | lrem =>
    have hln := hlen1 1 hside
    subst hln
    obtain ⟨x, z, r, rfl, hk⟩ := w2J_inv h
    exact lv_lrem hx hb hdg hk.1 (go _ _ _ _ hk.2 H locs lsA hP hD hS hl hw (wtS_cons wt_J (wtS_tail (wtS_tail hws))))
  | lcmp =>
    have hln := hlen1 1 hside
    subst hln
    obtain ⟨x, z, r, rfl, hk⟩ := w2J_inv h
    exact W.lcmp hx hb hdg (go _ _ _ _ hk H locs lsA hP hD hS hl hw (wtS_cons wt_I (wtS_tail (wtS_tail hws))))
  | dup =>
    have hln := hlen1 1 hside
    subst hln
    match st, hws, h with
    | v :: r, hws, h =>
      cases hv : cat2 v with
      | true => simp only [wp1, hv] at h; exact h.elim
      | false =>
        simp only [wp1, hv] at h
        exact lv_dup hx hb hdg (cat2_1 hv) (go _ _ _ _ h H locs lsA hP hD hS hl hw (wtS_cons (wtS_head hws) hws))
    | [], hws, h => exact False.elim h
  | pop =>
    have hln := hlen1 1 hside
    subst hln
    match st, hws, h with
    | v :: r, hws, h =>
      cases hv : cat2 v with
      | true => simp only [wp1, hv] at h; exact h.elim
      | false =>
        simp only [wp1, hv] at h
        exact lv_pop hx hb hdg (cat2_1 hv) (go _ _ _ _ h H locs lsA hP hD hS hl hw (wtS_tail hws))
    | [], hws, h => exact False.elim h
  | dup2 =>
    have hln := hlen1 1 hside
    subst hln
    match st, hws, h with
    | v :: w :: r, hws, h =>
      cases hv : cat2 v with
      | true => simp only [wp1, hv, Bool.true_or] at h; exact h.elim
      | false =>
        cases hw2 : cat2 w with
        | true => simp only [wp1, hv, hw2, Bool.false_or] at h; exact h.elim
        | false =>
          simp only [wp1, hv, hw2, Bool.false_or] at h
          exact lv_dup2_11 hx hb hdg (cat2_1 hv) (cat2_1 hw2) (go _ _ _ _ h H locs lsA hP hD hS hl hw (wtS_cons (wtS_head hws) (wtS_cons (wtS_head (wtS_tail hws)) hws)))
    | [_], hws, h => exact False.elim h
    | [], hws, h => exact False.elim h
  | goto o =>
    obtain ⟨hk1, hln⟩ := Bool.and_eq_true_iff.mp hside
    have hln := hlen1 3 hln
    subst hln
    have hk1 := of_decide_eq_true hk1
    exact lv_goto hx hb hdg hk1 (go _ _ _ _ h H locs lsA hP hD hS hl hw hws)
  | ifnull o =>
    obtain ⟨hk1, hln⟩ := Bool.and_eq_true_iff.mp hside
    have hln := hlen1 3 hln
    subst hln
    have hk1 := of_decide_eq_true hk1
    have h2 : w1R st (fun _ _ r => K (pc + 3) ls r σ) := h
    obtain ⟨b, k, r, rfl, hk⟩ := w1R_inv h2
    exact lv_ifnull hx hb hdg (go _ _ _ _ hk H locs lsA hP hD hS hl hw (wtS_tail hws))
  | ifnonnull o =>
    obtain ⟨hk1, hln⟩ := Bool.and_eq_true_iff.mp hside
    have hln := hlen1 3 hln
    subst hln
    have hk1 := of_decide_eq_true hk1
    have h2 : w1R st (fun _ _ r => K tgt ls r σ) := h
    obtain ⟨b, k, r, rfl, hk⟩ := w1R_inv h2
    exact lv_ifnonnull hx hb hdg hk1 (go _ _ _ _ hk H locs lsA hP hD hS hl hw (wtS_tail hws))
  | if_icmp cnd o =>
    obtain ⟨hk1, hln⟩ := Bool.and_eq_true_iff.mp hside
    have hln := hlen1 3 hln
    subst hln
    have hk1 := of_decide_eq_true hk1
    cases cnd with
    | eq =>
      obtain ⟨x, z, r, rfl, hk⟩ := w2I_inv h
      exact lv_icmp_eq hx hb hdg hk1 (fun z => (go _ _ _ _ (hk.1 z) H locs lsA hP hD hS hl hw (wtS_tail (wtS_tail hws)))) (fun z => (go _ _ _ _ (hk.2 z) H locs lsA hP hD hS hl hw (wtS_tail (wtS_tail hws))))
    | ne =>
      obtain ⟨x, z, r, rfl, hk⟩ := w2I_inv h
      exact lv_icmp_ne hx hb hdg hk1 (fun z => (go _ _ _ _ (hk.1 z) H locs lsA hP hD hS hl hw (wtS_tail (wtS_tail hws)))) (fun z => (go _ _ _ _ (hk.2 z) H locs lsA hP hD hS hl hw (wtS_tail (wtS_tail hws))))
    | lt =>
      obtain ⟨x, z, r, rfl, hk⟩ := w2I_inv h
      exact lv_icmp_lt hx hb hdg hk1 (fun z => (go _ _ _ _ (hk.1 z) H locs lsA hP hD hS hl hw (wtS_tail (wtS_tail hws)))) (fun z => (go _ _ _ _ (hk.2 z) H locs lsA hP hD hS hl hw (wtS_tail (wtS_tail hws))))
    | ge =>
      obtain ⟨x, z, r, rfl, hk⟩ := w2I_inv h
      exact lv_icmp_ge hx hb hdg hk1 (fun z => (go _ _ _ _ (hk.1 (i32_ge z)) H locs lsA hP hD hS hl hw (wtS_tail (wtS_tail hws)))) (fun z => (go _ _ _ _ (hk.2 (i32_nge z)) H locs lsA hP hD hS hl hw (wtS_tail (wtS_tail hws))))
    | gt =>
      obtain ⟨x, z, r, rfl, hk⟩ := w2I_inv h
      exact lv_icmp_gt hx hb hdg hk1 (fun z => (go _ _ _ _ (hk.1 z) H locs lsA hP hD hS hl hw (wtS_tail (wtS_tail hws)))) (fun z => (go _ _ _ _ (hk.2 z) H locs lsA hP hD hS hl hw (wtS_tail (wtS_tail hws))))
    | le =>
      obtain ⟨x, z, r, rfl, hk⟩ := w2I_inv h
      exact lv_icmp_le hx hb hdg hk1 (fun z => (go _ _ _ _ (hk.1 (i32_ge z)) H locs lsA hP hD hS hl hw (wtS_tail (wtS_tail hws)))) (fun z => (go _ _ _ _ (hk.2 (i32_nge z)) H locs lsA hP hD hS hl hw (wtS_tail (wtS_tail hws))))
  | ifCond cnd o =>
    obtain ⟨hk1, hln⟩ := Bool.and_eq_true_iff.mp hside
    have hln := hlen1 3 hln
    subst hln
    have hk1 := of_decide_eq_true hk1
    cases cnd with
    | eq =>
      obtain ⟨x, r, rfl, hk⟩ := w1I_inv h
      exact lv_if_eq hx hb hdg hk1 (fun z => (go _ _ _ _ (hk.1 z) H locs lsA hP hD hS hl hw (wtS_tail hws))) (fun z => (go _ _ _ _ (hk.2 z) H locs lsA hP hD hS hl hw (wtS_tail hws)))
    | ne =>
      obtain ⟨x, r, rfl, hk⟩ := w1I_inv h
      exact lv_if_ne hx hb hdg hk1 (fun z => (go _ _ _ _ (hk.1 z) H locs lsA hP hD hS hl hw (wtS_tail hws))) (fun z => (go _ _ _ _ (hk.2 z) H locs lsA hP hD hS hl hw (wtS_tail hws)))
    | lt =>
      obtain ⟨x, r, rfl, hk⟩ := w1I_inv h
      exact lv_if_lt hx hb hdg hk1 (fun z => (go _ _ _ _ (hk.1 z) H locs lsA hP hD hS hl hw (wtS_tail hws))) (fun z => (go _ _ _ _ (hk.2 z) H locs lsA hP hD hS hl hw (wtS_tail hws)))
    | ge =>
      obtain ⟨x, r, rfl, hk⟩ := w1I_inv h
      exact lv_if_ge hx hb hdg hk1 (fun z => (go _ _ _ _ (hk.1 (i32_ge z)) H locs lsA hP hD hS hl hw (wtS_tail hws))) (fun z => (go _ _ _ _ (hk.2 (i32_nge z)) H locs lsA hP hD hS hl hw (wtS_tail hws)))
    | gt =>
      obtain ⟨x, r, rfl, hk⟩ := w1I_inv h
      exact lv_if_gt hx hb hdg hk1 (fun z => (go _ _ _ _ (hk.1 z) H locs lsA hP hD hS hl hw (wtS_tail hws))) (fun z => (go _ _ _ _ (hk.2 z) H locs lsA hP hD hS hl hw (wtS_tail hws)))
    | le =>
      obtain ⟨x, r, rfl, hk⟩ := w1I_inv h
      exact lv_if_le hx hb hdg hk1 (fun z => (go _ _ _ _ (hk.1 (i32_ge z)) H locs lsA hP hD hS hl hw (wtS_tail hws))) (fun z => (go _ _ _ _ (hk.2 (i32_nge z)) H locs lsA hP hD hS hl hw (wtS_tail hws)))
  | tableswitch dd lo hi offs =>
    obtain ⟨x, r, rfl, hk⟩ := w1I_inv h
    obtain ⟨h1, h23⟩ := Bool.and_eq_true_iff.mp hside
    obtain ⟨h2, h3⟩ := Bool.and_eq_true_iff.mp h23
    have h1 := of_decide_eq_true h1
    have h2 := of_decide_eq_true h2
    rcases csT_ok offs.toList cs lo h3 hk with ⟨j, off, t, e1, e2, e3, e4⟩ | ⟨e1, e2⟩
    · have hj : j < offs.size := by
        have := (List.getElem?_eq_some_iff.mp e1).1
        simpa using this
      have e5 : offs[(x.toInt - lo).toNat]? = some off := by
        have : (x.toInt - lo).toNat = j := by omega
        rw [this, ← Array.getElem?_toList]
        exact e1
      exact lv_tableIn hx hb hdg (by omega) (by omega) e5 e3 (go _ _ _ _ e4 H locs lsA hP hD hS hl hw (wtS_tail hws))
    · have hout : x.toInt < lo ∨ hi < x.toInt := by
        by_cases q1 : x.toInt < lo
        · exact Or.inl q1
        · by_cases q2 : hi < x.toInt
          · exact Or.inr q2
          · exfalso
            refine e1 (x.toInt - lo).toNat ?_ ?_
            · simp only [Array.length_toList]; omega
            · omega
      exact lv_tableOut hx hb hdg hout h1 (go _ _ _ _ e2 H locs lsA hP hD hS hl hw (wtS_tail hws))
  | lookupswitch dd ps =>
    obtain ⟨x, r, rfl, hk⟩ := w1I_inv h
    obtain ⟨h1, h23⟩ := Bool.and_eq_true_iff.mp hside
    obtain ⟨h2, h3⟩ := Bool.and_eq_true_iff.mp h23
    have h1 := of_decide_eq_true h1
    rcases csL_ok (dflt := dd) ps.toList cs h3 hk with ⟨off, t, e1, e2, e3⟩ | ⟨e1, e2⟩
    · exact lv_lookup hx hb hdg h2 e1 e2 (go _ _ _ _ e3 H locs lsA hP hD hS hl hw (wtS_tail hws))
    · exact lv_lookup hx hb hdg h2 e1 h1 (go _ _ _ _ e2 H locs lsA hP hD hS hl hw (wtS_tail hws))
  | arraylength =>
    have hln := hlen1 1 hside
    subst hln
    obtain ⟨b, n, r, rfl, hk⟩ := wA_inv h
    have hb1 : Y[b]? = some (.inr n) := wtS_head hws
    exact va_alen hx hb hKK hP b 0 (wl_get hb1) rfl rfl hdg (go _ _ _ _ hk H locs lsA hP hD hS hl hw (wtS_cons wt_I (wtS_tail hws)))
  | iaload =>
    have hln := hlen1 1 hside
    subst hln
    obtain ⟨i, b, n, r, rfl, hin, hk⟩ := wIA_inv h
    have hb1 : Y[b]? = some (.inr n) := wtS_head (wtS_tail hws)
    exact va_iald hx hb hKK hP b 0 (wl_get hb1) rfl hin hdg (go _ _ _ _ hk H locs lsA hP hD hS hl hw (wtS_cons wt_I (wtS_tail (wtS_tail hws))))
  | iastore =>
    have hln := hlen1 1 hside
    subst hln
    obtain ⟨x, i, b, n, r, rfl, hin, hk⟩ := wIIA_inv h
    have hb1 : Y[b]? = some (.inr n) := wtS_head (wtS_tail (wtS_tail hws))
    have hset := wl_set (cA := cA) (ad := ad) (σ := σ) (σ' := up σ b i.toNatClampNeg x) hb1 (fun c hc => up_ne σ _ _ hc) (x := .inl (cA, n, .inl (upd (σ b) i.toNatClampNeg x))) (by simp only [ent, up_same])
    refine va_iast hx hb hKK hP hD hS b 0 (wl_get hb1) rfl hin hdg ?_
    intro H1 locs1 hP1 hD1 hS1
    rw [hset] at hP1 hD1
    exact go _ _ _ _ hk H1 locs1 lsA hP1 hD1 hS1 hl hw (wtS_tail (wtS_tail (wtS_tail hws)))
  | ireturn =>
    have hln := hlen1 1 hside
    subst hln
    match st, hws, h with
    | [.inl x], hws, h =>
      have hend : ∀ t : State, t.heap = H → s.WarmedH t.vm → Q (some (.inl x)) σ → sQc Y D cA ad A Q args s (.returned (some (.int x))) t := fun t ht hW hq => ⟨⟨some (.inl x), σ, rfl, (fun v hv => by cases hv; trivial), hq, by rw [ht]; exact hP⟩, hS.F ht⟩
      have h : (match y.2.2.2 with
        | some .int => Q (some (.inl x)) σ
        | some .boolean => (x = 0 ∨ x = 1) ∧ Q (some (.inl x)) σ
        | _ => False) := h
      split at h
      · rename_i hret
        exact W.iret hx hb (hr.trans hret) (fun t ht hW => hend t ht hW h) hS.2.2 hdg hlk
      · rename_i hret
        exact W.zret hx hb (hr.trans hret) (by rcases h.1 with rfl | rfl <;> rfl) (fun t ht hW => hend t ht hW h.2) hS.2.2 hdg hlk
      · exact h.elim
  | lreturn =>
    have hln := hlen1 1 hside
    subst hln
    match st, hws, h with
    | [.inr (.inl x)], hws, h =>
      have hend : ∀ t : State, t.heap = H → s.WarmedH t.vm → Q (some (.inr (.inl x))) σ → sQc Y D cA ad A Q args s (.returned (some (.long x))) t := fun t ht hW hq => ⟨⟨some (.inr (.inl x)), σ, rfl, (fun v hv => by cases hv; trivial), hq, by rw [ht]; exact hP⟩, hS.F ht⟩
      have h : (match [(.inr (.inl x) : sv)], y.2.2.2 with
        | [.inr (.inl x)], some .long => Q (some (.inr (.inl x))) σ
        | _, _ => False) := h
      split at h
      · rename_i z hz hret
        cases hz
        exact W.lret hx hb (hr.trans hret) (fun t ht hW => hend t ht hW h) hS.2.2 hdg hlk
      · exact h.elim
  | return_ =>
    have hln := hlen1 1 hside
    subst hln
    match st, hws, h with
    | [], hws, h =>
      have hend : ∀ t : State, t.heap = H → s.WarmedH t.vm → Q none σ → sQc Y D cA ad A Q args s (.returned none) t := fun t ht hW hq => ⟨⟨none, σ, rfl, (fun v hv => by cases hv), hq, by rw [ht]; exact hP⟩, hS.F ht⟩
      have h : (match ([] : List sv), y.2.2.2 with
        | [], none => Q none σ
        | _, _ => False) := h
      split at h
      · rename_i hret
        exact W.vret hx hb (hr.trans hret) (fun t ht hW => hend t ht hW h) hS.2.2 hdg hlk
      · exact h.elim
  | getfield idx =>
    have hln := hlen1 3 hside
    subst hln
    obtain ⟨b, ci, r, rfl, hk⟩ := w1O_inv h
    have hb1 : Y[b]? = some (.inl ci) := wtS_head hws
    have hfd : ∀ (k : Nat) (sf : sF), ffind idx ci ft = some (k, sf) → (∀ (v : sv), wtv Y v → cv ad v = fv ad σ b k sf → K (pc + 3) ls (v :: r) σ → W p l en R s m args below meth c H locs 0 0 (MQ below (sQc Y D cA ad A Q) args s 0 0 A) (F0 m pc lsA ((.inr (.inr (b, .inl ci)) :: r : List sv).map (cv ad)))) := by
      intro k sf hfi v hv hcv hkk
      obtain ⟨C, T, N, ref, ⟨q1, q2, q3, ty0, q4⟩, q5, q6, q7, q8, -⟩ := hF _ (ffind_mem hfi)
      have hval : (fvs ad σ b 0 (cfs.getD ci []))[k]? = some (cv ad v) := by
        rw [hcv, fvs_get ad σ b _ 0 k sf q8, Nat.zero_add]
      refine va_get (D := D) hx hb hts q2 hown hKK hP b (wl_get hb1) q1 k q5 (hts _ q6) ?_ hval hdg (go _ _ _ _ hkk H locs lsA hP hD hS hl hw (wtS_cons hv (wtS_tail hws)))
      intro x9 h9
      rcases q7 with e | e
      · rw [e]; exact h9
      · exact u_same (hts _ e) x9 h9
    split at hk
    · rename_i k a1 a2 hfi
      exact hfd k _ hfi _ wt_I rfl hk
    · rename_i k a1 a2 hfi
      exact hfd k _ hfi _ wt_I rfl hk
    · rename_i k off kk hfi
      have hwt : Y[b + off]? = some kk := by
        obtain ⟨C, T, N, ref, -, -, -, -, q8, -⟩ := hF _ (ffind_mem hfi)
        exact hY.2 b ci hb1 k _ q8 rfl
      exact hfd k _ hfi (.inr (.inr (b + off, kk))) hwt rfl hk
    · rename_i k a1 kk hfi
      exact hfd k _ hfi (.inr (.inr ((σ b k).toNatClampNeg, kk))) hk.1 rfl hk.2
    · exact hk.elim
  | putfield idx =>
    have hln := hlen1 3 hside
    subst hln
    obtain ⟨v, b, ci, r, rfl, hk⟩ := wXO_inv h
    have hb1 : Y[b]? = some (.inl ci) := wtS_head (wtS_tail hws)
    have hfd : ∀ (k : Nat) (sf : sF) (x : Int32) (ty : FieldType), ffind idx ci ft = some (k, sf) → cv ad v = fv ad (up σ b k x) b k sf → (∀ (T : u_T) , (sf.1 = 0 → parseFieldDescriptor (T k).2.2.1 = some .int ∧ (T k).2.2.2 = false) → (sf.1 = 3 → parseFieldDescriptor (T k).2.2.1 = some .boolean ∧ (T k).2.2.2 = false) → (sf.1 = 2 → ∃ o, parseFieldDescriptor (T k).2.2.1 = some (.object o) ∧ (T k).2.2.2 = false) → ∃ ty, parseFieldDescriptor (T k).2.2.1 = some ty ∧ (T k).2.2.2 = false ∧ narrow ty (cv ad v) = cv ad v ∧ fits ty (cv ad v) = true) → K (pc + 3) ls r (up σ b k x) → W p l en R s m args below meth c H locs 0 0 (MQ below (sQc Y D cA ad A Q) args s 0 0 A) (F0 m pc lsA ((v :: .inr (.inr (b, .inl ci)) :: r : List sv).map (cv ad))) := by
      intro k sf x ty hfi hcv hty hkk
      obtain ⟨C, T, N, ref, ⟨q1, q2, q3, ty0, q4⟩, q5, q6, q7, q8, z0, z3, z2⟩ := hF _ (ffind_mem hfi)
      obtain ⟨ty, t1, t2, t3, t4⟩ := hty T z0 z3 z2
      have hset := wl_set (cA := cA) (ad := ad) (σ := σ) (σ' := up σ b k x) hb1 (fun c hc => up_ne σ _ _ hc) (x := .inr (ci, (fvs ad σ b 0 (cfs.getD ci [])).set k (cv ad v))) (by
        have := fvs_set ad σ b k x (cfs.getD ci []) 0 sf (Nat.zero_le _) (by simpa using q8)
        simp only [Nat.sub_zero] at this
        simp only [ent]
        rw [hcv, this])
      refine va_put (D := D) hx hb hts q2 ty0 q4 q3 hown hKK hP hD hS b (wl_get hb1) q1 k q5 (hts _ q6) ?_ t2 t1 t3 t4 ?_ hdg ?_
      · intro x9 h9
        rcases q7 with e | e
        · rw [e]; exact h9
        · exact u_same (hts _ e) x9 h9
      · rw [fvs_len]
        exact (List.getElem?_eq_some_iff.mp q8).1
      · intro H1 locs1 hP1 hD1 hS1
        rw [hset] at hP1 hD1
        exact go _ _ _ _ hkk H1 locs1 lsA hP1 hD1 hS1 hl hw (wtS_tail (wtS_tail hws))
    split at hk
    · rename_i k a1 a2 x hfi
      refine hfd k _ x .int hfi (by simp [cv, fv, up_same, upd]) (fun T z0 _ _ => ⟨.int, (z0 rfl).1, (z0 rfl).2, rfl, rfl⟩) hk
    · rename_i k a1 a2 x hfi
      refine hfd k _ x .boolean hfi (by simp [cv, fv, up_same, upd]) (fun T _ z3 _ => ⟨.boolean, (z3 rfl).1, (z3 rfl).2, ?_, ?_⟩) hk.2
      · rcases hk.1 with rfl | rfl <;> rfl
      · rcases hk.1 with rfl | rfl <;> rfl
    · rename_i k a1 kk b' kk' hfi
      cases hkb : kbeq kk' kk with
      | false => rw [hkb] at hk; exact hk.elim
      | true =>
        rw [hkb] at hk
        have hb' : Y[b']? = some kk' := wtS_head hws
        have hlt : b' < 2 ^ 31 := Nat.lt_trans (List.getElem?_eq_some_iff.mp hb').1 hY.1
        refine hfd k _ (nI b') .int hfi (by simp [cv, fv, up_same, upd, nI_clamp hlt]) (fun T _ _ z2 => ?_) hk
        obtain ⟨o, z4, z5⟩ := z2 rfl
        exact ⟨.object o, z4, z5, rfl, rfl⟩
    · exact hk.elim
  | invokestatic idx =>
    have hln := hlen1 3 hside
    subst hln
    replace h : wstat Y d ct idx st σ (K (pc + 3) ls) := h
    cases d with
    | zero => exact h.elim
    | succ d =>
    unfold wstat at h
    cases hcf : cfind idx ct with
    | none => simp only [hcf] at h
    | some ce =>
    simp only [hcf] at h
    obtain ⟨hmem, hidx⟩ := cfind_mem hcf
    have hE := hC ce hmem
    subst hidx
    have hfix : CallFix p m c y.2.1 y.2.2.1 s args ALL y.1.cls := ⟨hx, hb, hml, hown, hts⟩
    have go3 : ∀ (st' : List sv) (σ' : sS), K (pc + 3) ls st' σ' → ∀ (H1 : Heap) (locs1 : List Loc), va_P D classes (wl cA ad σ' Y) H1 → va_S A s.heap H1 locs1 → wtS Y st' → W p l en R s m args below meth c H1 locs1 0 0 (MQ below (sQc Y D cA ad A Q) args s 0 0 A) (F0 m (pc + 3) lsA (st'.map (cv ad))) := fun st' σ' hk H1 locs1 hP1 hS1 hw1 => go _ _ _ _ hk H1 locs1 lsA hP1 (wl_D σ' hD) hS1 hl hw hw1
    have w8 : ∀ (r : List sv) (P : Prop), cond (Nat.ble (wsum r) 8) P False → wsum r ≤ 8 ∧ P := by
      intro r P hh
      cases hbl : Nat.ble (wsum r) 8 with
      | false => rw [hbl] at hh; exact hh.elim
      | true => rw [hbl] at hh; exact ⟨Nat.le_of_ble_eq_true hbl, hh⟩
    unfold eOK at hE
    unfold wstatE at h
    split at h
    · rename_i h5
      rw [h5] at hE
      obtain ⟨x, z, r, rfl, hk⟩ := w2I_inv h
      obtain ⟨h8, hk⟩ := w8 _ _ hk
      refine va_mmin hx hb (by rw [hml, hl.1]) hown (hts _ hE.1) (hts _ hE.2.1) (hts _ hE.2.2.1) (hts _ hE.2.2.2) (by omega) ?_ (Nat.zero_le _) (Nat.zero_le _) hdg (go3 _ _ hk H locs hP hS (wtS_cons wt_I (wtS_tail (wtS_tail hws))))
      have := wsum_cat ad r
      show ((r.map (cv ad)).map fun v => v.category).sum + 13 ≤ R.locals
      omega
    · rename_i h5
      rw [h5] at hE
      obtain ⟨x, z, r, rfl, hk⟩ := w2I_inv h
      obtain ⟨h8, hk⟩ := w8 _ _ hk
      refine va_mmax hx hb (by rw [hml, hl.1]) hown (hts _ hE.1) (hts _ hE.2.1) (hts _ hE.2.2.1) (hts _ hE.2.2.2) (by omega) ?_ (Nat.zero_le _) (Nat.zero_le _) hdg (go3 _ _ hk H locs hP hS (wtS_cons wt_I (wtS_tail (wtS_tail hws))))
      have := wsum_cat ad r
      show ((r.map (cv ad)).map fun v => v.category).sum + 13 ≤ R.locals
      omega
    · rename_i h5
      rw [h5] at hE
      obtain ⟨n, dp, a, n1, sp, a0, n0, r, rfl, hk⟩ := wCp_inv h
      obtain ⟨h8, ⟨g1, g2, g3, g4, g5⟩, hk⟩ := w8 _ _ hk
      have ha1 : Y[a]? = some (.inr n1) := wtS_head (wtS_tail (wtS_tail hws))
      have ha0 : Y[a0]? = some (.inr n0) := wtS_head (wtS_tail (wtS_tail (wtS_tail (wtS_tail hws))))
      have hset := wl_set (cA := cA) (ad := ad) (σ := σ) (σ' := upA σ a (va_cpy (σ a0) (σ a) sp.toNatClampNeg dp.toNatClampNeg n.toNatClampNeg)) ha1 (fun c hc => by simp [upA, hc]) (x := .inl (cA, n1, .inl (va_cpy (σ a0) (σ a) sp.toNatClampNeg dp.toNatClampNeg n.toNatClampNeg))) (by simp [ent, upA])
      refine va_copyi hx hb (by rw [hml, hl.1]) hown (hts _ hE.1) (hts _ hE.2.1) (hts _ hE.2.2.1) (hts _ hE.2.2.2) hKK hP hD hS a0 a 0 0 (wl_get ha0) (wl_get ha1) rfl rfl rfl g1 g2 g3 g4 g5 (fun i hi => rfl) (by omega) ?_ hdg ?_
      · have := wsum_cat ad r
        have e9 : nativeFrameWords "java/lang/System" "arraycopy" 5 ≤ 40 := Nat.le_of_ble_eq_true rfl
        show ((r.map (cv ad)).map fun v => v.category).sum + (nativeFrameWords "java/lang/System" "arraycopy" 5 + 11) ≤ R.locals
        omega
      · intro H1 locs1 hP1 hD1 hS1
        rw [hset] at hP1
        exact go3 _ _ hk H1 locs1 hP1 hS1 (wtS_tail (wtS_tail (wtS_tail (wtS_tail (wtS_tail hws)))))
    · rename_i h5
      rw [h5] at hE
      obtain ⟨hy, e1, e2, e3⟩ := hE
      refine wcall_go hy h hY hws hD hS hA (fun Q' hM h8 => ?_) go3
      obtain ⟨y1, y2, y3, y4, y5, -⟩ := hy
      exact va_runSN hfix hM ⟨va_cnB _ hts (goodALL fun w hw => (List.mem_cons.mp hw).elim (fun e => e ▸ y2) id) rfl rfl rfl (hN _ e1) (hts _ e3) ⟨y4.1, y4.2, y5⟩ ⟨by show d + 1 ≤ R.frames; omega, by show 8 + (_ + 11) + (40 * d + 40) ≤ R.locals; omega⟩, hts _ e2, trivial⟩ ⟨sPc_blind, fun U hU hW => ⟨rfl, by rw [hU], by rw [hU]; exact hP, va_K.moved hW.alike hKK, hD.weaken (fun _ _ _ _ => trivial), fun w hw => NW_warm hW w hw (hN w hw)⟩⟩ rfl h8.2.1 hl.1 (take_rev ad _ st) h8.1 hdg ⟨Nat.zero_le _, Nat.zero_le _⟩
    · rename_i h5
      rw [h5] at hE
      obtain ⟨hy, e1, e2, e3⟩ := hE
      refine wcall_go hy h hY hws hD hS hA (fun Q' hM h8 => ?_) go3
      obtain ⟨y1, y2, y3, y4, y5, -⟩ := hy
      exact va_runS hfix hM (va_cwS _ hts (goodALL fun w hw => by
        rcases List.mem_append.mp hw with hw | hw
        · simp only [List.mem_cons, List.not_mem_nil, or_false] at hw
          rcases hw with rfl | rfl | rfl
          · exact e1
          · exact e2
          · exact e3
        · exact (List.mem_cons.mp hw).elim (fun e => e ▸ y2) id) rfl rfl rfl ⟨y4.1, y4.2, y5⟩ ⟨by show d + 1 ≤ R.frames; omega, by show 8 + (_ + 11) + (40 * d + 40) ≤ R.locals; omega⟩) ⟨sPc_blind, fun U hU hW => ⟨rfl, by rw [hU], by rw [hU]; exact hP, va_K.moved hW.alike hKK, hD.weaken (fun _ _ _ _ => trivial), fun w hw => NW_warm hW w hw (hN w hw)⟩⟩ rfl h8.2.1 hl.1 (take_rev ad _ st) h8.1 hdg ⟨Nat.zero_le _, Nat.zero_le _⟩
    · exact h.elim
  | invokevirtual idx =>
    have hln := hlen1 3 hside
    subst hln
    replace h : wvirt Y d ct idx st σ (K (pc + 3) ls) := h
    cases d with
    | zero => exact h.elim
    | succ d =>
    unfold wvirt at h
    cases hcf : cfind idx ct with
    | none => simp only [hcf] at h
    | some c0 =>
    simp only [hcf] at h
    obtain ⟨b, ci, r9, hdrop, hh⟩ := w1O_inv h
    clear h
    cases hcr : cfindR idx ci ct with
    | none => simp only [hcr] at hh
    | some ce =>
    simp only [hcr] at hh
    obtain ⟨hmem, hidx, hci⟩ := cfindR_mem hcr
    have hE := hC ce hmem
    subst hidx; subst hci
    have hfix : CallFix p m c y.2.1 y.2.2.1 s args ALL y.1.cls := ⟨hx, hb, hml, hown, hts⟩
    have go3 : ∀ (st' : List sv) (σ' : sS), K (pc + 3) ls st' σ' → ∀ (H1 : Heap) (locs1 : List Loc), va_P D classes (wl cA ad σ' Y) H1 → va_S A s.heap H1 locs1 → wtS Y st' → W p l en R s m args below meth c H1 locs1 0 0 (MQ below (sQc Y D cA ad A Q) args s 0 0 A) (F0 m (pc + 3) lsA (st'.map (cv ad))) := fun st' σ' hk H1 locs1 hP1 hS1 hw1 => go _ _ _ _ hk H1 locs1 lsA hP1 (wl_D σ' hD) hS1 hl hw hw1
    have wb : ∀ (a b : Nat) (P : Prop), cond (Nat.beq a b) P False → a = b ∧ P := by
      intro a b P hh
      cases hbl : Nat.beq a b with
      | false => rw [hbl] at hh; exact hh.elim
      | true => rw [hbl] at hh; exact ⟨Nat.eq_of_beq_eq_true hbl, hh⟩
    have hbY : Y[b]? = some (.inl ce.2.2.1) := hws (.inr (.inr (b, .inl ce.2.2.1))) (by
      have : (.inr (.inr (b, .inl ce.2.2.1)) : sv) ∈ st.drop c0.2.2.2.2.1 := by rw [hdrop]; exact List.mem_cons_self
      exact List.mem_of_mem_drop this)
    have h := hh
    clear hh
    unfold eOK at hE
    unfold wvirtE at h
    split at h
    · rename_i h5
      rw [h5] at hE
      obtain ⟨hna, h⟩ := wb _ _ _ h
      rw [← hna] at hdrop
      obtain ⟨htk, hdp⟩ := drop_take hdrop
      obtain ⟨hy, C, T, N, e0, e1, e2, e3, e4, e5⟩ := hE
      refine wcall_go hy h hY hws hD hS hA (fun Q' hM h8 => ?_) go3
      obtain ⟨y1, y2, y3, y4, y5, -⟩ := hy
      rw [htk] at hM ⊢
      have h9 : ((st.take ce.2.2.2.2.1).reverse).length = ce.2.2.2.2.1 := by
        have := h8.2.1
        rw [htk] at this
        simp only [List.map_cons, List.length_cons, List.length_map] at this
        omega
      exact va_runV hfix hM (cwV _ hts (goodALL fun w hw => by
        rcases List.mem_append.mp hw with hw | hw
        · simp only [List.mem_cons, List.not_mem_nil, or_false] at hw
          rcases hw with rfl | rfl | rfl | rfl
          · exact e2
          · exact e3
          · exact e4
          · exact e5
        · exact (List.mem_cons.mp hw).elim (fun e => e ▸ y2) id) rfl rfl rfl ⟨e1, y4.1, y4.2, y5⟩ ⟨by show d + 1 ≤ R.frames; omega, by show 8 + (_ + 11) + (40 * d + 40) ≤ R.locals; omega⟩) ⟨sPc_blind, va_recv hKK hP e0 (wl_get hbY), fun U hU hW => ⟨rfl, by rw [hU], by rw [hU]; exact hP, va_K.moved hW.alike hKK, hD.weaken (fun _ _ _ _ => trivial), fun w hw => NW_warm hW w hw (hN w hw)⟩⟩ rfl (by rw [List.length_map]; exact h9) hl.1 (take_revV ad hdrop) h8.1 hdg ⟨Nat.zero_le _, Nat.zero_le _⟩
    · rename_i h5
      rw [h5] at hE
      obtain ⟨hna, h⟩ := wb _ _ _ h
      rw [← hna] at hdrop
      obtain ⟨htk, hdp⟩ := drop_take hdrop
      obtain ⟨hy, C, T, N, e0, e1, e2, e3, e4, e5, e6, e7⟩ := hE
      refine wcall_go hy h hY hws hD hS hA (fun Q' hM h8 => ?_) go3
      obtain ⟨y1, y2, y3, y4, y5, -⟩ := hy
      rw [htk] at hM ⊢
      have h9 : ((st.take ce.2.2.2.2.1).reverse).length = ce.2.2.2.2.1 := by
        have := h8.2.1
        rw [htk] at this
        simp only [List.map_cons, List.length_cons, List.length_map] at this
        omega
      have y5' : (parseMethodDescriptor ce.2.2.2.2.2.1.desc).map (fun d => d.parameters.length) = some ce.2.2.2.2.1 := by
        rw [e1] at y5
        exact y5
      exact va_runU hfix hM (va_cwU _ hts (goodALL fun w hw => by
        rcases List.mem_append.mp hw with hw | hw
        · simp only [List.mem_cons, List.not_mem_nil, or_false] at hw
          rcases hw with rfl | rfl | rfl | rfl | rfl
          · exact e2
          · exact e3
          · exact e4
          · exact e5
          · exact e6
        · exact (List.mem_cons.mp hw).elim (fun e => e ▸ y2) id) rfl rfl rfl e1 ⟨e7.1, e7.2, y5'⟩ ⟨by show d + 1 ≤ R.frames; omega, by show 8 + (_ + 11) + (40 * d + 40) ≤ R.locals; omega⟩) ⟨sPc_blind, va_recv hKK hP e0 (wl_get hbY), fun U hU hW => ⟨rfl, by rw [hU], by rw [hU]; exact hP, va_K.moved hW.alike hKK, hD.weaken (fun _ _ _ _ => trivial), fun w hw => NW_warm hW w hw (hN w hw)⟩⟩ rfl (by rw [List.length_map]; exact h9) hl.1 (take_revV ad hdrop) h8.1 hdg ⟨Nat.zero_le _, Nat.zero_le _⟩
    · rename_i h5
      rw [h5] at hE
      obtain ⟨hna, h⟩ := wb _ _ _ h
      rw [← hna] at hdrop
      obtain ⟨htk, hdp⟩ := drop_take hdrop
      obtain ⟨hy, C, T, N, e0, e2, e3, e4, e5, e6, e7, e8, y5'⟩ := hE
      refine wcall_go hy h hY hws hD hS hA (fun Q' hM h8 => ?_) go3
      obtain ⟨y1, y2, y3, y4, y5, -⟩ := hy
      rw [htk] at hM ⊢
      have h9 : ((st.take ce.2.2.2.2.1).reverse).length = ce.2.2.2.2.1 := by
        have := h8.2.1
        rw [htk] at this
        simp only [List.map_cons, List.length_cons, List.length_map] at this
        omega
      exact va_runU hfix hM (va_cwA _ hts (goodALL fun w hw => by
        rcases List.mem_append.mp hw with hw | hw
        · simp only [List.mem_cons, List.not_mem_nil, or_false] at hw
          rcases hw with rfl | rfl | rfl | rfl | rfl
          · exact e2
          · exact e3
          · exact e4
          · exact e5
          · exact e6
        · exact (List.mem_cons.mp hw).elim (fun e => e ▸ y2) id) rfl rfl rfl (hN _ e8) ⟨e7.1, e7.2, y5'⟩ ⟨by show d + 1 ≤ R.frames; omega, by show 8 + (_ + 11) + (40 * d + 40) ≤ R.locals; omega⟩) ⟨sPc_blind, va_recv hKK hP e0 (wl_get hbY), fun U hU hW => ⟨rfl, by rw [hU], by rw [hU]; exact hP, va_K.moved hW.alike hKK, hD.weaken (fun _ _ _ _ => trivial), fun w hw => NW_warm hW w hw (hN w hw)⟩⟩ rfl (by rw [List.length_map]; exact h9) hl.1 (take_revV ad hdrop) h8.1 hdg ⟨Nat.zero_le _, Nat.zero_le _⟩
    · exact h.elim
  | _ => exact False.elim h
end
section
/-! a stretch of a method: up to the stops -/
def fnd (pc : Nat) : List sT → Option sT
  | [] => none
  | e :: r => cond (Nat.beq e.1 pc) (some e) (fnd pc r)
def lkS (pc : Nat) : List (Nat × List Nat) → Option (List Nat)
  | [] => none
  | e :: r => cond (Nat.beq e.1 pc) (some e.2) (lkS pc r)
def hasK (k : Nat) : List Nat → Bool
  | [] => false
  | j :: r => cond (Nat.beq j k) true (hasK k r)
def keepL (ks : List Nat) : sL → sL
  | [] => []
  | q :: r => cond (hasK q.1 ks) (q :: keepL ks r) (keepL ks r)
def blk (Y : List kd) (d : Nat) (y : sY) (ft : List (Nat × Nat × Nat × sF)) (ct : List sE) (tab : List sT) (stops : List (Nat × List Nat)) (Q : Option sv → sS → Prop) : Nat → Nat → sL → List sv → sS → Prop
  | 0, pc, ls, st, σ => Jd Y d y pc ls st σ Q
  | n + 1, pc, ls, st, σ => match fnd pc tab with
    | none => False
    | some e => wp1 Y d y.2.2.1 y.2.2.2 ft ct e ls st σ (fun pc' ls' st' σ' => match lkS pc' stops with
      | some ks => Jd Y d y pc' (keepL ks ls') st' σ' Q
      | none => blk Y d y ft ct tab stops Q n pc' ls' st' σ') Q
theorem fnd_mem {pc : Nat} : ∀ {tab : List sT} {e : sT}, fnd pc tab = some e → e ∈ tab ∧ e.1 = pc
  | [], e, h => by cases h
  | q :: r, e, h => by
    simp only [fnd] at h
    cases hb : Nat.beq q.1 pc with
    | true =>
      rw [hb] at h
      have : q = e := by simpa using h
      subst this
      exact ⟨List.mem_cons_self, Nat.eq_of_beq_eq_true hb⟩
    | false =>
      rw [hb] at h
      exact ⟨List.mem_cons_of_mem _ (fnd_mem h).1, (fnd_mem h).2⟩
theorem keepL_mem {ks : List Nat} : ∀ {ls : sL} (q : Nat × sv), q ∈ keepL ks ls → q ∈ ls
  | [], q, h => by cases h
  | p :: r, q, h => by
    simp only [keepL] at h
    cases hb : hasK p.1 ks with
    | true =>
      rw [hb] at h
      rcases List.mem_cons.mp h with rfl | h
      · exact List.mem_cons_self
      · exact List.mem_cons_of_mem _ (keepL_mem q h)
    | false =>
      rw [hb] at h
      exact List.mem_cons_of_mem _ (keepL_mem q h)
/-- what a method's tables must be -/
def mOK (Y : List kd) (y : sY) (ft : List (Nat × Nat × Nat × sF)) (ct : List sE) (tab : List sT) : Prop := (∀ e ∈ tab, sTok y.1.cls y.2.1 e) ∧ (∀ q ∈ ft, fOK y.1.cls q) ∧ ∀ q ∈ ct, eOK Y y.1.cls q
theorem blk_ok {Y : List kd} {d : Nat} {y : sY} {ft : List (Nat × Nat × Nat × sF)} {ct : List sE} {tab : List sT} (hM : mOK Y y ft ct tab) (stops : List (Nat × List Nat)) {Q : Option sv → sS → Prop} : ∀ (n pc : Nat) (ls : sL) (st : List sv) (σ : sS), blk Y d y ft ct tab stops Q n pc ls st σ → Jd Y d y pc ls st σ Q
  | 0, pc, ls, st, σ, h => h
  | n + 1, pc, ls, st, σ, h => by
    simp only [blk] at h
    cases hf : fnd pc tab with
    | none => simp only [hf] at h
    | some e =>
      simp only [hf] at h
      obtain ⟨hm, hpc⟩ := fnd_mem hf
      rw [← hpc]
      refine wp1_ok hM.2.1 hM.2.2 (hM.1 e hm) h ?_
      intro pc' ls' st' σ' hk
      cases hl : lkS pc' stops with
      | none =>
        simp only [hl] at hk
        exact blk_ok hM stops n pc' ls' st' σ' hk
      | some ks =>
        simp only [hl] at hk
        exact Jd.sub hk (fun q hq => keepL_mem q hq)
theorem tab_of {own : String} {bytes : ByteArray} {tab : List sT} (h : tab.all (fun e => decide (decode bytes e.1 = .ok (e.2.2.1, e.2.1)) && sSide own e) = true) : ∀ e ∈ tab, sTok own bytes e := by
  intro e he
  have := List.all_eq_true.mp h e he
  simp only [Bool.and_eq_true, decide_eq_true_eq] at this
  exact this
end
