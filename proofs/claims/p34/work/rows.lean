section
-- ===== PART A: goes FIRST, ahead of the names: the tables' words, and 'selects' of the private methods out of them =====
/-- a private method of a class that the tables say can be made, by its rows of tables_1 -/
def lw_okq (q : MethodName × Nat) : Prop := (q.1.cls ≠ "java/lang/invoke/MethodHandle" ∧ q.1.cls ≠ "java/lang/invoke/VarHandle") ∧ Cond.instantiable q.1.cls q.2 ∈ tables_1 ∧ Cond.privateMethod q.1 ∈ tables_1 ∧ Cond.instanceMethod q.1 ∈ tables_1
theorem lw_p0 : lw_okq (⟨"GathersAllFaults$Gatherer", "look", "(III)V"⟩, 5) := ⟨⟨by decide +kernel, by decide +kernel⟩, List.mem_of_getElem? (i := 68) (by decide +kernel), List.mem_of_getElem? (i := 299) (by decide +kernel), List.mem_of_getElem? (i := 300) (by decide +kernel)⟩
theorem lw_p1 : lw_okq (⟨"GathersAllFaults$Gatherer", "deciderOf", "(II)I"⟩, 5) := ⟨⟨by decide +kernel, by decide +kernel⟩, List.mem_of_getElem? (i := 68) (by decide +kernel), List.mem_of_getElem? (i := 303) (by decide +kernel), List.mem_of_getElem? (i := 304) (by decide +kernel)⟩
theorem lw_p2 : lw_okq (⟨"GathersAllFaults$Gatherer", "add", "(II)V"⟩, 5) := ⟨⟨by decide +kernel, by decide +kernel⟩, List.mem_of_getElem? (i := 68) (by decide +kernel), List.mem_of_getElem? (i := 310) (by decide +kernel), List.mem_of_getElem? (i := 311) (by decide +kernel)⟩
theorem lw_p3 : lw_okq (⟨"GathersAllFaults$Gatherer", "lookAtNumber", "(II)V"⟩, 5) := ⟨⟨by decide +kernel, by decide +kernel⟩, List.mem_of_getElem? (i := 68) (by decide +kernel), List.mem_of_getElem? (i := 315) (by decide +kernel), List.mem_of_getElem? (i := 316) (by decide +kernel)⟩
theorem lw_p4 : lw_okq (⟨"GathersAllFaults$Gatherer", "lookAtRecord", "(III)V"⟩, 5) := ⟨⟨by decide +kernel, by decide +kernel⟩, List.mem_of_getElem? (i := 68) (by decide +kernel), List.mem_of_getElem? (i := 319) (by decide +kernel), List.mem_of_getElem? (i := 320) (by decide +kernel)⟩
theorem lw_p5 : lw_okq (⟨"GathersAllFaults$Gatherer", "lookAtFields", "(III)V"⟩, 5) := ⟨⟨by decide +kernel, by decide +kernel⟩, List.mem_of_getElem? (i := 68) (by decide +kernel), List.mem_of_getElem? (i := 323) (by decide +kernel), List.mem_of_getElem? (i := 324) (by decide +kernel)⟩
theorem lw_p6 : lw_okq (⟨"GathersAllFaults$Gatherer", "lookForStrangers", "(II)V"⟩, 5) := ⟨⟨by decide +kernel, by decide +kernel⟩, List.mem_of_getElem? (i := 68) (by decide +kernel), List.mem_of_getElem? (i := 332) (by decide +kernel), List.mem_of_getElem? (i := 333) (by decide +kernel)⟩
theorem lw_p7 : lw_okq (⟨"GathersAllFaults$Gatherer", "lookAtDependent", "(III)V"⟩, 5) := ⟨⟨by decide +kernel, by decide +kernel⟩, List.mem_of_getElem? (i := 68) (by decide +kernel), List.mem_of_getElem? (i := 341) (by decide +kernel), List.mem_of_getElem? (i := 342) (by decide +kernel)⟩
theorem lw_p8 : lw_okq (⟨"GathersAllFaults$Tree", "alikeBelow", "(III)Z"⟩, 7) := ⟨⟨by decide +kernel, by decide +kernel⟩, List.mem_of_getElem? (i := 22) (by decide +kernel), List.mem_of_getElem? (i := 360) (by decide +kernel), List.mem_of_getElem? (i := 361) (by decide +kernel)⟩
theorem lw_p9 : lw_okq (⟨"GathersAllFaults$Gatherer", "lookAtList", "(III)V"⟩, 5) := ⟨⟨by decide +kernel, by decide +kernel⟩, List.mem_of_getElem? (i := 68) (by decide +kernel), List.mem_of_getElem? (i := 365) (by decide +kernel), List.mem_of_getElem? (i := 366) (by decide +kernel)⟩
theorem lw_p10 : lw_okq (⟨"GathersAllFaults$Gatherer", "lookForTwins", "(II)V"⟩, 5) := ⟨⟨by decide +kernel, by decide +kernel⟩, List.mem_of_getElem? (i := 68) (by decide +kernel), List.mem_of_getElem? (i := 369) (by decide +kernel), List.mem_of_getElem? (i := 370) (by decide +kernel)⟩
theorem lw_p11 : lw_okq (⟨"GathersAllFaults$Gatherer", "keepFewer", "(IIII)V"⟩, 5) := ⟨⟨by decide +kernel, by decide +kernel⟩, List.mem_of_getElem? (i := 68) (by decide +kernel), List.mem_of_getElem? (i := 373) (by decide +kernel), List.mem_of_getElem? (i := 374) (by decide +kernel)⟩
theorem lw_p12 : lw_okq (⟨"GathersAllFaults", "refuse", "(I)I"⟩, 14) := ⟨⟨by decide +kernel, by decide +kernel⟩, List.mem_of_getElem? (i := 14) (by decide +kernel), List.mem_of_getElem? (i := 387) (by decide +kernel), List.mem_of_getElem? (i := 388) (by decide +kernel)⟩
theorem lw_p13 : lw_okq (⟨"GathersAllFaults", "numbers", "()I"⟩, 14) := ⟨⟨by decide +kernel, by decide +kernel⟩, List.mem_of_getElem? (i := 14) (by decide +kernel), List.mem_of_getElem? (i := 468) (by decide +kernel), List.mem_of_getElem? (i := 469) (by decide +kernel)⟩
theorem lw_p14 : lw_okq (⟨"GathersAllFaults", "greatestPath", "()I"⟩, 14) := ⟨⟨by decide +kernel, by decide +kernel⟩, List.mem_of_getElem? (i := 14) (by decide +kernel), List.mem_of_getElem? (i := 472) (by decide +kernel), List.mem_of_getElem? (i := 473) (by decide +kernel)⟩
theorem lw_p15 : lw_okq (⟨"GathersAllFaults$CheckReader", "begins", "(I)Z"⟩, 11) := ⟨⟨by decide +kernel, by decide +kernel⟩, List.mem_of_getElem? (i := 212) (by decide +kernel), List.mem_of_getElem? (i := 574) (by decide +kernel), List.mem_of_getElem? (i := 575) (by decide +kernel)⟩
def lw_privs_1 : List (MethodName × Nat) := [(⟨"GathersAllFaults$Gatherer", "look", "(III)V"⟩, 5), (⟨"GathersAllFaults$Gatherer", "deciderOf", "(II)I"⟩, 5), (⟨"GathersAllFaults$Gatherer", "add", "(II)V"⟩, 5), (⟨"GathersAllFaults$Gatherer", "lookAtNumber", "(II)V"⟩, 5), (⟨"GathersAllFaults$Gatherer", "lookAtRecord", "(III)V"⟩, 5), (⟨"GathersAllFaults$Gatherer", "lookAtFields", "(III)V"⟩, 5), (⟨"GathersAllFaults$Gatherer", "lookForStrangers", "(II)V"⟩, 5), (⟨"GathersAllFaults$Gatherer", "lookAtDependent", "(III)V"⟩, 5), (⟨"GathersAllFaults$Tree", "alikeBelow", "(III)Z"⟩, 7), (⟨"GathersAllFaults$Gatherer", "lookAtList", "(III)V"⟩, 5), (⟨"GathersAllFaults$Gatherer", "lookForTwins", "(II)V"⟩, 5), (⟨"GathersAllFaults$Gatherer", "keepFewer", "(IIII)V"⟩, 5), (⟨"GathersAllFaults", "refuse", "(I)I"⟩, 14), (⟨"GathersAllFaults", "numbers", "()I"⟩, 14), (⟨"GathersAllFaults", "greatestPath", "()I"⟩, 14), (⟨"GathersAllFaults$CheckReader", "begins", "(I)Z"⟩, 11)]
theorem lw_r1 : ∀ q ∈ lw_privs_1, lw_okq q := List.forall_mem_cons.mpr ⟨lw_p0, List.forall_mem_cons.mpr ⟨lw_p1, List.forall_mem_cons.mpr ⟨lw_p2, List.forall_mem_cons.mpr ⟨lw_p3, List.forall_mem_cons.mpr ⟨lw_p4, List.forall_mem_cons.mpr ⟨lw_p5, List.forall_mem_cons.mpr ⟨lw_p6, List.forall_mem_cons.mpr ⟨lw_p7, List.forall_mem_cons.mpr ⟨lw_p8, List.forall_mem_cons.mpr ⟨lw_p9, List.forall_mem_cons.mpr ⟨lw_p10, List.forall_mem_cons.mpr ⟨lw_p11, List.forall_mem_cons.mpr ⟨lw_p12, List.forall_mem_cons.mpr ⟨lw_p13, List.forall_mem_cons.mpr ⟨lw_p14, List.forall_mem_cons.mpr ⟨lw_p15, fun _ h => absurd h List.not_mem_nil⟩⟩⟩⟩⟩⟩⟩⟩⟩⟩⟩⟩⟩⟩⟩⟩
theorem lw_p16 : lw_okq (⟨"GathersAllFaults$CheckReader", "ends", "()V"⟩, 11) := ⟨⟨by decide +kernel, by decide +kernel⟩, List.mem_of_getElem? (i := 212) (by decide +kernel), List.mem_of_getElem? (i := 578) (by decide +kernel), List.mem_of_getElem? (i := 579) (by decide +kernel)⟩
theorem lw_p17 : lw_okq (⟨"GathersAllFaults$CheckReader", "goBehindDigits", "()V"⟩, 11) := ⟨⟨by decide +kernel, by decide +kernel⟩, List.mem_of_getElem? (i := 212) (by decide +kernel), List.mem_of_getElem? (i := 601) (by decide +kernel), List.mem_of_getElem? (i := 602) (by decide +kernel)⟩
theorem lw_p18 : lw_okq (⟨"GathersAllFaults$CheckReader", "field", "(I)Z"⟩, 11) := ⟨⟨by decide +kernel, by decide +kernel⟩, List.mem_of_getElem? (i := 212) (by decide +kernel), List.mem_of_getElem? (i := 608) (by decide +kernel), List.mem_of_getElem? (i := 609) (by decide +kernel)⟩
theorem lw_p19 : lw_okq (⟨"GathersAllFaults$CheckReader", "last", "(I)Z"⟩, 11) := ⟨⟨by decide +kernel, by decide +kernel⟩, List.mem_of_getElem? (i := 212) (by decide +kernel), List.mem_of_getElem? (i := 615) (by decide +kernel), List.mem_of_getElem? (i := 616) (by decide +kernel)⟩
theorem lw_p20 : lw_okq (⟨"GathersAllFaults$ValueReader", "begins", "(I)Z"⟩, 6) := ⟨⟨by decide +kernel, by decide +kernel⟩, List.mem_of_getElem? (i := 169) (by decide +kernel), List.mem_of_getElem? (i := 623) (by decide +kernel), List.mem_of_getElem? (i := 624) (by decide +kernel)⟩
theorem lw_p21 : lw_okq (⟨"GathersAllFaults$ValueReader", "ends", "()V"⟩, 6) := ⟨⟨by decide +kernel, by decide +kernel⟩, List.mem_of_getElem? (i := 169) (by decide +kernel), List.mem_of_getElem? (i := 630) (by decide +kernel), List.mem_of_getElem? (i := 631) (by decide +kernel)⟩
theorem lw_p22 : lw_okq (⟨"GathersAllFaults$ValueReader", "closes", "()Z"⟩, 6) := ⟨⟨by decide +kernel, by decide +kernel⟩, List.mem_of_getElem? (i := 169) (by decide +kernel), List.mem_of_getElem? (i := 637) (by decide +kernel), List.mem_of_getElem? (i := 638) (by decide +kernel)⟩
theorem lw_p23 : lw_okq (⟨"GathersAllFaults$CheckReader", "takes", "([II)Z"⟩, 11) := ⟨⟨by decide +kernel, by decide +kernel⟩, List.mem_of_getElem? (i := 212) (by decide +kernel), List.mem_of_getElem? (i := 651) (by decide +kernel), List.mem_of_getElem? (i := 652) (by decide +kernel)⟩
theorem lw_p24 : lw_okq (⟨"GathersAllFaults$CheckReader", "settle", "()V"⟩, 11) := ⟨⟨by decide +kernel, by decide +kernel⟩, List.mem_of_getElem? (i := 212) (by decide +kernel), List.mem_of_getElem? (i := 657) (by decide +kernel), List.mem_of_getElem? (i := 658) (by decide +kernel)⟩
theorem lw_p25 : lw_okq (⟨"GathersAllFaults$CheckReader", "addsField", "(II)Z"⟩, 11) := ⟨⟨by decide +kernel, by decide +kernel⟩, List.mem_of_getElem? (i := 212) (by decide +kernel), List.mem_of_getElem? (i := 664) (by decide +kernel), List.mem_of_getElem? (i := 665) (by decide +kernel)⟩
theorem lw_p26 : lw_okq (⟨"GathersAllFaults$CheckReader", "addsDependent", "(III)Z"⟩, 11) := ⟨⟨by decide +kernel, by decide +kernel⟩, List.mem_of_getElem? (i := 212) (by decide +kernel), List.mem_of_getElem? (i := 669) (by decide +kernel), List.mem_of_getElem? (i := 670) (by decide +kernel)⟩
theorem lw_p27 : lw_okq (⟨"GathersAllFaults$CheckReader", "adds", "(III)Z"⟩, 11) := ⟨⟨by decide +kernel, by decide +kernel⟩, List.mem_of_getElem? (i := 212) (by decide +kernel), List.mem_of_getElem? (i := 680) (by decide +kernel), List.mem_of_getElem? (i := 681) (by decide +kernel)⟩
theorem lw_p28 : lw_okq (⟨"GathersAllFaults$CheckReader", "canReturn", "()Z"⟩, 11) := ⟨⟨by decide +kernel, by decide +kernel⟩, List.mem_of_getElem? (i := 212) (by decide +kernel), List.mem_of_getElem? (i := 684) (by decide +kernel), List.mem_of_getElem? (i := 685) (by decide +kernel)⟩
theorem lw_p29 : lw_okq (⟨"GathersAllFaults$ValueReader", "adds", "(II)Z"⟩, 6) := ⟨⟨by decide +kernel, by decide +kernel⟩, List.mem_of_getElem? (i := 169) (by decide +kernel), List.mem_of_getElem? (i := 702) (by decide +kernel), List.mem_of_getElem? (i := 703) (by decide +kernel)⟩
theorem lw_p30 : lw_okq (⟨"GathersAllFaults$ValueReader", "takes", "(I)Z"⟩, 6) := ⟨⟨by decide +kernel, by decide +kernel⟩, List.mem_of_getElem? (i := 169) (by decide +kernel), List.mem_of_getElem? (i := 711) (by decide +kernel), List.mem_of_getElem? (i := 712) (by decide +kernel)⟩
def lw_privs_2 : List (MethodName × Nat) := [(⟨"GathersAllFaults$CheckReader", "ends", "()V"⟩, 11), (⟨"GathersAllFaults$CheckReader", "goBehindDigits", "()V"⟩, 11), (⟨"GathersAllFaults$CheckReader", "field", "(I)Z"⟩, 11), (⟨"GathersAllFaults$CheckReader", "last", "(I)Z"⟩, 11), (⟨"GathersAllFaults$ValueReader", "begins", "(I)Z"⟩, 6), (⟨"GathersAllFaults$ValueReader", "ends", "()V"⟩, 6), (⟨"GathersAllFaults$ValueReader", "closes", "()Z"⟩, 6), (⟨"GathersAllFaults$CheckReader", "takes", "([II)Z"⟩, 11), (⟨"GathersAllFaults$CheckReader", "settle", "()V"⟩, 11), (⟨"GathersAllFaults$CheckReader", "addsField", "(II)Z"⟩, 11), (⟨"GathersAllFaults$CheckReader", "addsDependent", "(III)Z"⟩, 11), (⟨"GathersAllFaults$CheckReader", "adds", "(III)Z"⟩, 11), (⟨"GathersAllFaults$CheckReader", "canReturn", "()Z"⟩, 11), (⟨"GathersAllFaults$ValueReader", "adds", "(II)Z"⟩, 6), (⟨"GathersAllFaults$ValueReader", "takes", "(I)Z"⟩, 6)]
theorem lw_r2 : ∀ q ∈ lw_privs_2, lw_okq q := List.forall_mem_cons.mpr ⟨lw_p16, List.forall_mem_cons.mpr ⟨lw_p17, List.forall_mem_cons.mpr ⟨lw_p18, List.forall_mem_cons.mpr ⟨lw_p19, List.forall_mem_cons.mpr ⟨lw_p20, List.forall_mem_cons.mpr ⟨lw_p21, List.forall_mem_cons.mpr ⟨lw_p22, List.forall_mem_cons.mpr ⟨lw_p23, List.forall_mem_cons.mpr ⟨lw_p24, List.forall_mem_cons.mpr ⟨lw_p25, List.forall_mem_cons.mpr ⟨lw_p26, List.forall_mem_cons.mpr ⟨lw_p27, List.forall_mem_cons.mpr ⟨lw_p28, List.forall_mem_cons.mpr ⟨lw_p29, List.forall_mem_cons.mpr ⟨lw_p30, fun _ h => absurd h List.not_mem_nil⟩⟩⟩⟩⟩⟩⟩⟩⟩⟩⟩⟩⟩⟩⟩
def lw_privs : List (MethodName × Nat) := lw_privs_1 ++ (lw_privs_2)
def lw_tbl : List Cond := k2_sels lw_privs ++ tables_1
theorem lw_privs_ok : ∀ q ∈ lw_privs, lw_okq q := by
  show ∀ q ∈ lw_privs_1 ++ (lw_privs_2), lw_okq q
  exact List.forall_mem_append.mpr ⟨lw_r1, lw_r2⟩
-- ===== end of PART A; then your names; then what follows =====
end
section
def R0_ : String := "GathersAllFaults$CheckReader"
def T0_ : u_T := fun k => match k with
  | 0 => ("GathersAllFaults$Reader", "open", "[I", true)
  | 1 => ("GathersAllFaults$Reader", "height", "I", false)
  | 2 => ("GathersAllFaults$Reader", "state", "I", false)
  | 3 => ("GathersAllFaults$Reader", "lone", "Z", false)
  | 4 => ("GathersAllFaults$CheckReader", "made", "LGathersAllFaults$Plan;", true)
  | 5 => ("GathersAllFaults$CheckReader", "wanting", "[I", true)
  | 6 => ("GathersAllFaults$CheckReader", "owed", "I", false)
  | 7 => ("GathersAllFaults$CheckReader", "leads", "Z", false)
  | 8 => ("GathersAllFaults$CheckReader", "returns", "I", false)
  | 9 => ("GathersAllFaults$CheckReader", "digit", "I", false)
  | _ => ("GathersAllFaults$CheckReader", "free", "I", false)
def ty0_ : Nat → FieldType := fun k => match k with
  | 0 => .array .int
  | 1 => .int
  | 2 => .int
  | 3 => .boolean
  | 4 => .object "GathersAllFaults$Plan"
  | 5 => .array .int
  | 6 => .int
  | 7 => .boolean
  | 8 => .int
  | 9 => .int
  | _ => .int
theorem nm0_ : ∀ a, a < 11 → ∀ b, b < 11 → a ≠ b → (T0_ a).2.1 ≠ (T0_ b).2.1 := by decide +kernel
theorem ty0_ok : ∀ k, k < 11 → parseFieldDescriptor (T0_ k).2.2.1 = some (ty0_ k) := by decide +kernel
def R1_ : String := "GathersAllFaults$Gatherer"
def T1_ : u_T := fun k => match k with
  | 0 => ("GathersAllFaults$Gatherer", "plan", "LGathersAllFaults$Plan;", true)
  | 1 => ("GathersAllFaults$Gatherer", "tree", "LGathersAllFaults$Tree;", false)
  | 2 => ("GathersAllFaults$Gatherer", "found", "[I", true)
  | 3 => ("GathersAllFaults$Gatherer", "size", "I", false)
  | _ => ("GathersAllFaults$Gatherer", "waiting", "I", false)
def ty1_ : Nat → FieldType := fun k => match k with
  | 0 => .object "GathersAllFaults$Plan"
  | 1 => .object "GathersAllFaults$Tree"
  | 2 => .array .int
  | 3 => .int
  | _ => .int
theorem nm1_ : ∀ a, a < 5 → ∀ b, b < 5 → a ≠ b → (T1_ a).2.1 ≠ (T1_ b).2.1 := by decide +kernel
theorem ty1_ok : ∀ k, k < 5 → parseFieldDescriptor (T1_ k).2.2.1 = some (ty1_ k) := by decide +kernel
def R2_ : String := "GathersAllFaults$Plan"
def T2_ : u_T := fun k => match k with
  | 0 => ("GathersAllFaults$Plan", "sign", "[I", true)
  | 1 => ("GathersAllFaults$Plan", "low", "[I", true)
  | 2 => ("GathersAllFaults$Plan", "high", "[I", true)
  | 3 => ("GathersAllFaults$Plan", "span", "[I", true)
  | 4 => ("GathersAllFaults$Plan", "digit", "[I", true)
  | 5 => ("GathersAllFaults$Plan", "free", "[I", true)
  | 6 => ("GathersAllFaults$Plan", "fields", "[I", true)
  | 7 => ("GathersAllFaults$Plan", "names", "[I", true)
  | 8 => ("GathersAllFaults$Plan", "firstDependent", "[I", true)
  | 9 => ("GathersAllFaults$Plan", "dependents", "[I", true)
  | 10 => ("GathersAllFaults$Plan", "dependentSign", "[I", true)
  | 11 => ("GathersAllFaults$Plan", "dependentOne", "[I", true)
  | 12 => ("GathersAllFaults$Plan", "dependentOther", "[I", true)
  | 13 => ("GathersAllFaults$Plan", "size", "I", false)
  | _ => ("GathersAllFaults$Plan", "dependentCount", "I", false)
def ty2_ : Nat → FieldType := fun k => match k with
  | 0 => .array .int
  | 1 => .array .int
  | 2 => .array .int
  | 3 => .array .int
  | 4 => .array .int
  | 5 => .array .int
  | 6 => .array .int
  | 7 => .array .int
  | 8 => .array .int
  | 9 => .array .int
  | 10 => .array .int
  | 11 => .array .int
  | 12 => .array .int
  | 13 => .int
  | _ => .int
theorem nm2_ : ∀ a, a < 15 → ∀ b, b < 15 → a ≠ b → (T2_ a).2.1 ≠ (T2_ b).2.1 := by decide +kernel
theorem ty2_ok : ∀ k, k < 15 → parseFieldDescriptor (T2_ k).2.2.1 = some (ty2_ k) := by decide +kernel
def R3_ : String := "GathersAllFaults$Tree"
def T3_ : u_T := fun k => match k with
  | 0 => ("GathersAllFaults$Tree", "kind", "[I", true)
  | 1 => ("GathersAllFaults$Tree", "num", "[I", true)
  | 2 => ("GathersAllFaults$Tree", "kids", "[I", true)
  | 3 => ("GathersAllFaults$Tree", "digit", "[I", true)
  | 4 => ("GathersAllFaults$Tree", "span", "[I", true)
  | 5 => ("GathersAllFaults$Tree", "road", "[I", true)
  | _ => ("GathersAllFaults$Tree", "size", "I", false)
def ty3_ : Nat → FieldType := fun k => match k with
  | 0 => .array .int
  | 1 => .array .int
  | 2 => .array .int
  | 3 => .array .int
  | 4 => .array .int
  | 5 => .array .int
  | _ => .int
theorem nm3_ : ∀ a, a < 7 → ∀ b, b < 7 → a ≠ b → (T3_ a).2.1 ≠ (T3_ b).2.1 := by decide +kernel
theorem ty3_ok : ∀ k, k < 7 → parseFieldDescriptor (T3_ k).2.2.1 = some (ty3_ k) := by decide +kernel
def R4_ : String := "GathersAllFaults$ValueReader"
def T4_ : u_T := fun k => match k with
  | 0 => ("GathersAllFaults$Reader", "open", "[I", true)
  | 1 => ("GathersAllFaults$Reader", "height", "I", false)
  | 2 => ("GathersAllFaults$Reader", "state", "I", false)
  | 3 => ("GathersAllFaults$Reader", "lone", "Z", false)
  | 4 => ("GathersAllFaults$ValueReader", "made", "LGathersAllFaults$Tree;", true)
  | _ => ("GathersAllFaults$ValueReader", "digit", "I", false)
def ty4_ : Nat → FieldType := fun k => match k with
  | 0 => .array .int
  | 1 => .int
  | 2 => .int
  | 3 => .boolean
  | 4 => .object "GathersAllFaults$Tree"
  | _ => .int
theorem nm4_ : ∀ a, a < 6 → ∀ b, b < 6 → a ≠ b → (T4_ a).2.1 ≠ (T4_ b).2.1 := by decide +kernel
theorem ty4_ok : ∀ k, k < 6 → parseFieldDescriptor (T4_ k).2.2.1 = some (ty4_ k) := by decide +kernel
def R5_ : String := "GathersAllFaults"
def T5_ : u_T := fun k => match k with
  | 0 => ("GathersAllFaults", "now", "LGathersAllFaults$Tree;", true)
  | 1 => ("GathersAllFaults", "trial", "LGathersAllFaults$Tree;", true)
  | 2 => ("GathersAllFaults", "gatherer", "LGathersAllFaults$Gatherer;", true)
  | 3 => ("GathersAllFaults", "valueReader", "LGathersAllFaults$ValueReader;", true)
  | 4 => ("GathersAllFaults", "checkReader", "LGathersAllFaults$CheckReader;", true)
  | 5 => ("GathersAllFaults", "letters", "[I", true)
  | 6 => ("GathersAllFaults", "letterCount", "I", false)
  | 7 => ("GathersAllFaults", "told", "[I", true)
  | 8 => ("GathersAllFaults", "toldCount", "I", false)
  | 9 => ("GathersAllFaults", "refusals", "[I", true)
  | 10 => ("GathersAllFaults", "imageTree", "LGathersAllFaults$Tree;", true)
  | 11 => ("GathersAllFaults", "imagePlan", "LGathersAllFaults$Plan;", true)
  | 12 => ("GathersAllFaults", "imaged", "Z", false)
  | _ => ("GathersAllFaults", "seed", "I", false)
def ty5_ : Nat → FieldType := fun k => match k with
  | 0 => .object "GathersAllFaults$Tree"
  | 1 => .object "GathersAllFaults$Tree"
  | 2 => .object "GathersAllFaults$Gatherer"
  | 3 => .object "GathersAllFaults$ValueReader"
  | 4 => .object "GathersAllFaults$CheckReader"
  | 5 => .array .int
  | 6 => .int
  | 7 => .array .int
  | 8 => .int
  | 9 => .array .int
  | 10 => .object "GathersAllFaults$Tree"
  | 11 => .object "GathersAllFaults$Plan"
  | 12 => .boolean
  | _ => .int
theorem nm5_ : ∀ a, a < 14 → ∀ b, b < 14 → a ≠ b → (T5_ a).2.1 ≠ (T5_ b).2.1 := by decide +kernel
theorem ty5_ok : ∀ k, k < 14 → parseFieldDescriptor (T5_ k).2.2.1 = some (ty5_ k) := by decide +kernel
def R6_ : String := "GathersAllFaultsLaw$Tape"
def T6_ : u_T := fun k => match k with
  | 0 => ("GathersAllFaultsLaw$Tape", "c", "[I", true)
  | _ => ("GathersAllFaultsLaw$Tape", "n", "I", false)
def ty6_ : Nat → FieldType := fun k => match k with
  | 0 => .array .int
  | _ => .int
theorem nm6_ : ∀ a, a < 2 → ∀ b, b < 2 → a ≠ b → (T6_ a).2.1 ≠ (T6_ b).2.1 := by decide +kernel
theorem ty6_ok : ∀ k, k < 2 → parseFieldDescriptor (T6_ k).2.2.1 = some (ty6_ k) := by decide +kernel
def R7_ : String := "GathersAllFaultsLaw$Val"
def T7_ : u_T := fun k => match k with
  | 0 => ("GathersAllFaultsLaw$Val", "kind", "I", false)
  | 1 => ("GathersAllFaultsLaw$Val", "n", "I", false)
  | 2 => ("GathersAllFaultsLaw$Val", "names", "[I", false)
  | _ => ("GathersAllFaultsLaw$Val", "in", "[LGathersAllFaultsLaw$Val;", false)
def ty7_ : Nat → FieldType := fun k => match k with
  | 0 => .int
  | 1 => .int
  | 2 => .array .int
  | _ => .array (.object "GathersAllFaultsLaw$Val")
theorem nm7_ : ∀ a, a < 4 → ∀ b, b < 4 → a ≠ b → (T7_ a).2.1 ≠ (T7_ b).2.1 := by decide +kernel
theorem ty7_ok : ∀ k, k < 4 → parseFieldDescriptor (T7_ k).2.2.1 = some (ty7_ k) := by decide +kernel
def R8_ : String := "GathersAllFaultsLaw$Chk"
def T8_ : u_T := fun k => match k with
  | 0 => ("GathersAllFaultsLaw$Chk", "sign", "I", true)
  | 1 => ("GathersAllFaultsLaw$Chk", "low", "I", false)
  | 2 => ("GathersAllFaultsLaw$Chk", "high", "I", false)
  | 3 => ("GathersAllFaultsLaw$Chk", "names", "[I", false)
  | 4 => ("GathersAllFaultsLaw$Chk", "in", "[LGathersAllFaultsLaw$Chk;", false)
  | _ => ("GathersAllFaultsLaw$Chk", "waits", "[I", false)
def ty8_ : Nat → FieldType := fun k => match k with
  | 0 => .int
  | 1 => .int
  | 2 => .int
  | 3 => .array .int
  | 4 => .array (.object "GathersAllFaultsLaw$Chk")
  | _ => .array .int
theorem nm8_ : ∀ a, a < 6 → ∀ b, b < 6 → a ≠ b → (T8_ a).2.1 ≠ (T8_ b).2.1 := by decide +kernel
theorem ty8_ok : ∀ k, k < 6 → parseFieldDescriptor (T8_ k).2.2.1 = some (ty8_ k) := by decide +kernel
abbrev classes : List vw_C := [(R0_, T0_, 11), (R1_, T1_, 5), (R2_, T2_, 15), (R3_, T3_, 7), (R4_, T4_, 6), (R5_, T5_, 14), (R6_, T6_, 2), (R7_, T7_, 4), (R8_, T8_, 6)]
def fs0_ : List (Nat × Nat × (Nat ⊕ Nat)) := [(1, 1, .inr 96), (0, 0, .inl 0), (0, 0, .inl 0), (3, 0, .inl 0), (1, 2, .inl 2), (1, 16, .inr 96), (0, 0, .inl 0), (3, 0, .inl 0), (0, 0, .inl 0), (0, 0, .inl 0), (0, 0, .inl 0)]
def fs1_ : List (Nat × Nat × (Nat ⊕ Nat)) := [(1, 1, .inl 2), (2, 0, .inl 3), (1, 22, .inr 6144), (0, 0, .inl 0), (0, 0, .inl 0)]
def fs2_ : List (Nat × Nat × (Nat ⊕ Nat)) := [(1, 1, .inr 24), (1, 2, .inr 24), (1, 3, .inr 24), (1, 4, .inr 24), (1, 5, .inr 24), (1, 6, .inr 24), (1, 7, .inr 24), (1, 8, .inr 24), (1, 9, .inr 24), (1, 10, .inr 24), (1, 11, .inr 32), (1, 12, .inr 32), (1, 13, .inr 32), (0, 0, .inl 0), (0, 0, .inl 0)]
def fs3_ : List (Nat × Nat × (Nat ⊕ Nat)) := [(1, 1, .inr 20), (1, 2, .inr 20), (1, 3, .inr 20), (1, 4, .inr 20), (1, 5, .inr 20), (1, 6, .inr 20), (0, 0, .inl 0)]
def fs4_ : List (Nat × Nat × (Nat ⊕ Nat)) := [(1, 1, .inr 96), (0, 0, .inl 0), (0, 0, .inl 0), (3, 0, .inl 0), (1, 2, .inl 3), (0, 0, .inl 0)]
def fs5_ : List (Nat × Nat × (Nat ⊕ Nat)) := [(1, 1, .inl 3), (1, 8, .inl 3), (1, 15, .inl 1), (1, 38, .inl 4), (1, 47, .inl 0), (1, 64, .inr 96), (0, 0, .inl 0), (1, 65, .inr 32), (0, 0, .inl 0), (1, 66, .inr 7), (1, 67, .inl 3), (1, 74, .inl 2), (3, 0, .inl 0), (0, 0, .inl 0)]
def fs6_ : List (Nat × Nat × (Nat ⊕ Nat)) := []
def fs7_ : List (Nat × Nat × (Nat ⊕ Nat)) := []
def fs8_ : List (Nat × Nat × (Nat ⊕ Nat)) := []
/-- of each class the sorts of its fields: 0 an int, 1 a fixed reference (how far off, what kind), 2 a reference that changes, 3 a boolean -/
def cfs : List (List (Nat × Nat × (Nat ⊕ Nat))) := [fs0_, fs1_, fs2_, fs3_, fs4_, fs5_, fs6_, fs7_, fs8_]
def LX : List (Nat ⊕ Nat) := [.inl 5, .inl 3, .inr 20, .inr 20, .inr 20, .inr 20, .inr 20, .inr 20, .inl 3, .inr 20, .inr 20, .inr 20, .inr 20, .inr 20, .inr 20, .inl 1, .inl 2, .inr 24, .inr 24, .inr 24, .inr 24, .inr 24, .inr 24, .inr 24, .inr 24, .inr 24, .inr 24, .inr 32, .inr 32, .inr 32, .inl 3, .inr 20, .inr 20, .inr 20, .inr 20, .inr 20, .inr 20, .inr 6144, .inl 4, .inr 96, .inl 3, .inr 20, .inr 20, .inr 20, .inr 20, .inr 20, .inr 20, .inl 0, .inr 96, .inl 2, .inr 24, .inr 24, .inr 24, .inr 24, .inr 24, .inr 24, .inr 24, .inr 24, .inr 24, .inr 24, .inr 32, .inr 32, .inr 32, .inr 96, .inr 96, .inr 32, .inr 7, .inl 3, .inr 20, .inr 20, .inr 20, .inr 20, .inr 20, .inr 20, .inl 2, .inr 24, .inr 24, .inr 24, .inr 24, .inr 24, .inr 24, .inr 24, .inr 24, .inr 24, .inr 24, .inr 32, .inr 32, .inr 32]
/-- the words that every method of ours has: those of the tables that stay, and which stumble a reader runs -/
def EX : List Cond := [.selects "GathersAllFaults$ValueReader" ⟨"GathersAllFaults$Reader", "stumble", "([II)I"⟩ ⟨"GathersAllFaults$Reader", "stumble", "([II)I"⟩, .selects "GathersAllFaults$CheckReader" ⟨"GathersAllFaults$Reader", "stumble", "([II)I"⟩ ⟨"GathersAllFaults$Reader", "stumble", "([II)I"⟩]
def ALL : List Cond := EX ++ lw_tbl.filter goodWord
/-- words that stay by laws of their own -/
def NW : List Cond := [.methodLinkNest "GathersAllFaults$Tree" 34 ⟨"GathersAllFaults", "set", "([III)V"⟩ "GathersAllFaults", .methodLinkNest "GathersAllFaults$Plan" 55 ⟨"GathersAllFaults", "set", "([III)V"⟩ "GathersAllFaults", .methodLinkNest "GathersAllFaults$Gatherer" 40 ⟨"GathersAllFaults", "at", "([II)I"⟩ "GathersAllFaults", .methodLinkNest "GathersAllFaults$Gatherer" 52 ⟨"GathersAllFaults", "set", "([III)V"⟩ "GathersAllFaults", .methodLinkNest "GathersAllFaults$Tree" 42 ⟨"GathersAllFaults", "at", "([II)I"⟩ "GathersAllFaults", .methodLinkNest "GathersAllFaults$Plan" 66 ⟨"GathersAllFaults", "at", "([II)I"⟩ "GathersAllFaults", .methodLinkNest "GathersAllFaults$Gatherer" 154 ⟨"GathersAllFaults", "close", "([IIII)V"⟩ "GathersAllFaults", .methodLinkNest "GathersAllFaults$Tree" 38 ⟨"GathersAllFaults", "copy", "([I[I)V"⟩ "GathersAllFaults", .methodLinkNest "GathersAllFaults$Plan" 59 ⟨"GathersAllFaults", "copy", "([I[I)V"⟩ "GathersAllFaults", .methodLinkNest "GathersAllFaults$Reader" 33 ⟨"GathersAllFaults", "at", "([II)I"⟩ "GathersAllFaults", .methodLinkNest "GathersAllFaults$Reader" 40 ⟨"GathersAllFaults", "set", "([III)V"⟩ "GathersAllFaults", .methodLinkNest "GathersAllFaults$CheckReader" 36 ⟨"GathersAllFaults", "isDigit", "(I)Z"⟩ "GathersAllFaults", .methodLinkNest "GathersAllFaults$CheckReader" 45 ⟨"GathersAllFaults", "isName", "(I)Z"⟩ "GathersAllFaults", .methodLinkNest "GathersAllFaults$ValueReader" 22 ⟨"GathersAllFaults", "isDigit", "(I)Z"⟩ "GathersAllFaults", .methodLinkNest "GathersAllFaults$ValueReader" 37 ⟨"GathersAllFaults", "isName", "(I)Z"⟩ "GathersAllFaults", .methodLinkNest "GathersAllFaults$CheckReader" 88 ⟨"GathersAllFaults", "at", "([II)I"⟩ "GathersAllFaults", .methodLinkNest "GathersAllFaults$CheckReader" 99 ⟨"GathersAllFaults", "set", "([III)V"⟩ "GathersAllFaults", .methodLinkNest "GathersAllFaults$CheckReader" 106 ⟨"GathersAllFaults", "digitOf", "(I)I"⟩ "GathersAllFaults", .methodLinkNest "GathersAllFaults$ValueReader" 63 ⟨"GathersAllFaults", "at", "([II)I"⟩ "GathersAllFaults", .methodLinkNest "GathersAllFaults$ValueReader" 81 ⟨"GathersAllFaults", "set", "([III)V"⟩ "GathersAllFaults", .methodLinkNest "GathersAllFaults$ValueReader" 85 ⟨"GathersAllFaults", "digitOf", "(I)I"⟩ "GathersAllFaults", .declares ⟨"GathersAllFaults$Reader", "goesOn", "(I)Z"⟩, .declares ⟨"GathersAllFaults$Reader", "build", "([II)I"⟩]
theorem NW_t0 : (.methodLinkNest "GathersAllFaults$Tree" 34 ⟨"GathersAllFaults", "set", "([III)V"⟩ "GathersAllFaults" : Cond) ∈ tables_1 := List.mem_of_getElem? (i := 27) (by decide +kernel)
theorem NW_t1 : (.methodLinkNest "GathersAllFaults$Plan" 55 ⟨"GathersAllFaults", "set", "([III)V"⟩ "GathersAllFaults" : Cond) ∈ tables_1 := List.mem_of_getElem? (i := 79) (by decide +kernel)
theorem NW_t2 : (.methodLinkNest "GathersAllFaults$Gatherer" 40 ⟨"GathersAllFaults", "at", "([II)I"⟩ "GathersAllFaults" : Cond) ∈ tables_1 := List.mem_of_getElem? (i := 306) (by decide +kernel)
theorem NW_t3 : (.methodLinkNest "GathersAllFaults$Gatherer" 52 ⟨"GathersAllFaults", "set", "([III)V"⟩ "GathersAllFaults" : Cond) ∈ tables_1 := List.mem_of_getElem? (i := 313) (by decide +kernel)
theorem NW_t4 : (.methodLinkNest "GathersAllFaults$Tree" 42 ⟨"GathersAllFaults", "at", "([II)I"⟩ "GathersAllFaults" : Cond) ∈ tables_1 := List.mem_of_getElem? (i := 330) (by decide +kernel)
theorem NW_t5 : (.methodLinkNest "GathersAllFaults$Plan" 66 ⟨"GathersAllFaults", "at", "([II)I"⟩ "GathersAllFaults" : Cond) ∈ tables_1 := List.mem_of_getElem? (i := 339) (by decide +kernel)
theorem NW_t6 : (.methodLinkNest "GathersAllFaults$Gatherer" 154 ⟨"GathersAllFaults", "close", "([IIII)V"⟩ "GathersAllFaults" : Cond) ∈ tables_1 := List.mem_of_getElem? (i := 376) (by decide +kernel)
theorem NW_t7 : (.methodLinkNest "GathersAllFaults$Tree" 38 ⟨"GathersAllFaults", "copy", "([I[I)V"⟩ "GathersAllFaults" : Cond) ∈ tables_1 := List.mem_of_getElem? (i := 451) (by decide +kernel)
theorem NW_t8 : (.methodLinkNest "GathersAllFaults$Plan" 59 ⟨"GathersAllFaults", "copy", "([I[I)V"⟩ "GathersAllFaults" : Cond) ∈ tables_1 := List.mem_of_getElem? (i := 458) (by decide +kernel)
theorem NW_t9 : (.methodLinkNest "GathersAllFaults$Reader" 33 ⟨"GathersAllFaults", "at", "([II)I"⟩ "GathersAllFaults" : Cond) ∈ tables_1 := List.mem_of_getElem? (i := 566) (by decide +kernel)
theorem NW_t10 : (.methodLinkNest "GathersAllFaults$Reader" 40 ⟨"GathersAllFaults", "set", "([III)V"⟩ "GathersAllFaults" : Cond) ∈ tables_1 := List.mem_of_getElem? (i := 599) (by decide +kernel)
theorem NW_t11 : (.methodLinkNest "GathersAllFaults$CheckReader" 36 ⟨"GathersAllFaults", "isDigit", "(I)Z"⟩ "GathersAllFaults" : Cond) ∈ tables_1 := List.mem_of_getElem? (i := 604) (by decide +kernel)
theorem NW_t12 : (.methodLinkNest "GathersAllFaults$CheckReader" 45 ⟨"GathersAllFaults", "isName", "(I)Z"⟩ "GathersAllFaults" : Cond) ∈ tables_1 := List.mem_of_getElem? (i := 611) (by decide +kernel)
theorem NW_t13 : (.methodLinkNest "GathersAllFaults$ValueReader" 22 ⟨"GathersAllFaults", "isDigit", "(I)Z"⟩ "GathersAllFaults" : Cond) ∈ tables_1 := List.mem_of_getElem? (i := 621) (by decide +kernel)
theorem NW_t14 : (.methodLinkNest "GathersAllFaults$ValueReader" 37 ⟨"GathersAllFaults", "isName", "(I)Z"⟩ "GathersAllFaults" : Cond) ∈ tables_1 := List.mem_of_getElem? (i := 643) (by decide +kernel)
theorem NW_t15 : (.methodLinkNest "GathersAllFaults$CheckReader" 88 ⟨"GathersAllFaults", "at", "([II)I"⟩ "GathersAllFaults" : Cond) ∈ tables_1 := List.mem_of_getElem? (i := 654) (by decide +kernel)
theorem NW_t16 : (.methodLinkNest "GathersAllFaults$CheckReader" 99 ⟨"GathersAllFaults", "set", "([III)V"⟩ "GathersAllFaults" : Cond) ∈ tables_1 := List.mem_of_getElem? (i := 655) (by decide +kernel)
theorem NW_t17 : (.methodLinkNest "GathersAllFaults$CheckReader" 106 ⟨"GathersAllFaults", "digitOf", "(I)I"⟩ "GathersAllFaults" : Cond) ∈ tables_1 := List.mem_of_getElem? (i := 660) (by decide +kernel)
theorem NW_t18 : (.methodLinkNest "GathersAllFaults$ValueReader" 63 ⟨"GathersAllFaults", "at", "([II)I"⟩ "GathersAllFaults" : Cond) ∈ tables_1 := List.mem_of_getElem? (i := 700) (by decide +kernel)
theorem NW_t19 : (.methodLinkNest "GathersAllFaults$ValueReader" 81 ⟨"GathersAllFaults", "set", "([III)V"⟩ "GathersAllFaults" : Cond) ∈ tables_1 := List.mem_of_getElem? (i := 705) (by decide +kernel)
theorem NW_t20 : (.methodLinkNest "GathersAllFaults$ValueReader" 85 ⟨"GathersAllFaults", "digitOf", "(I)I"⟩ "GathersAllFaults" : Cond) ∈ tables_1 := List.mem_of_getElem? (i := 714) (by decide +kernel)
theorem NW_t21 : (.declares ⟨"GathersAllFaults$Reader", "goesOn", "(I)Z"⟩ : Cond) ∈ tables_1 := List.mem_of_getElem? (i := 568) (by decide +kernel)
theorem NW_t22 : (.declares ⟨"GathersAllFaults$Reader", "build", "([II)I"⟩ : Cond) ∈ tables_1 := List.mem_of_getElem? (i := 645) (by decide +kernel)
theorem NW_tbl : ∀ w ∈ NW, w ∈ tables_1 := (List.forall_mem_cons.mpr ⟨NW_t0, (List.forall_mem_cons.mpr ⟨NW_t1, (List.forall_mem_cons.mpr ⟨NW_t2, (List.forall_mem_cons.mpr ⟨NW_t3, (List.forall_mem_cons.mpr ⟨NW_t4, (List.forall_mem_cons.mpr ⟨NW_t5, (List.forall_mem_cons.mpr ⟨NW_t6, (List.forall_mem_cons.mpr ⟨NW_t7, (List.forall_mem_cons.mpr ⟨NW_t8, (List.forall_mem_cons.mpr ⟨NW_t9, (List.forall_mem_cons.mpr ⟨NW_t10, (List.forall_mem_cons.mpr ⟨NW_t11, (List.forall_mem_cons.mpr ⟨NW_t12, (List.forall_mem_cons.mpr ⟨NW_t13, (List.forall_mem_cons.mpr ⟨NW_t14, (List.forall_mem_cons.mpr ⟨NW_t15, (List.forall_mem_cons.mpr ⟨NW_t16, (List.forall_mem_cons.mpr ⟨NW_t17, (List.forall_mem_cons.mpr ⟨NW_t18, (List.forall_mem_cons.mpr ⟨NW_t19, (List.forall_mem_cons.mpr ⟨NW_t20, (List.forall_mem_cons.mpr ⟨NW_t21, (List.forall_mem_cons.mpr ⟨NW_t22, (fun _ h => absurd h List.not_mem_nil)⟩)⟩)⟩)⟩)⟩)⟩)⟩)⟩)⟩)⟩)⟩)⟩)⟩)⟩)⟩)⟩)⟩)⟩)⟩)⟩)⟩)⟩)⟩)
theorem NW_kind : ∀ w ∈ NW, (∃ a i x h, w = .methodLinkNest a i x h) ∨ ∃ x, w = .declares x := by
  intro w hw
  simp only [NW, List.mem_cons, List.not_mem_nil, or_false] at hw
  rcases hw with rfl | rfl | rfl | rfl | rfl | rfl | rfl | rfl | rfl | rfl | rfl | rfl | rfl | rfl | rfl | rfl | rfl | rfl | rfl | rfl | rfl | rfl | rfl
  all_goals first | exact Or.inl ⟨_, _, _, _, rfl⟩ | exact Or.inr ⟨_, rfl⟩
theorem NW_warm {s U : State} (hW : s.WarmedH U.vm) : ∀ w ∈ NW, va_Nw w s → va_Nw w U := by
  intro w hw h
  rcases NW_kind w hw with ⟨a, i, x, hh, rfl⟩ | ⟨x, rfl⟩
  · exact va_Nw.warmM hW h
  · exact va_Nw.warmD hW h
theorem NW_tab : ∀ w ∈ NW, w.onTables = true := by
  intro w hw
  rcases NW_kind w hw with ⟨a, i, x, hh, rfl⟩ | ⟨x, rfl⟩ <;> rfl
theorem ALL_good : ∀ w ∈ ALL, (w.onTables && w.keeps) = true ∨ ∃ ty, w = .arrayClass ty := by
  intro w h
  rcases List.mem_append.mp h with h | h
  · simp only [EX, List.mem_cons, List.not_mem_nil, or_false] at h
    rcases h with rfl | rfl <;> exact Or.inl rfl
  · exact good_of_word (List.mem_filter.mp h).2
theorem ALL_in {w : Cond} (i : Nat) (h : tables_1[i]? = some w) (hg : goodWord w = true) : w ∈ ALL := List.mem_append_right _ (List.mem_filter.mpr ⟨List.mem_append_right _ (List.mem_of_getElem? h), hg⟩)
theorem ALL_inP {w : Cond} (i : Nat) (h : (k2_sels lw_privs)[i]? = some w) (hg : goodWord w = true) : w ∈ ALL := List.mem_append_right _ (List.mem_filter.mpr ⟨List.mem_append_left _ (List.mem_of_getElem? h), hg⟩)
def CK : List (String × Nat × Int32) := [("GathersAllFaults", 134, 99999), ("GathersAllFaultsLaw", 7, 2147483647)]
theorem CK_in : ∀ q ∈ CK, Cond.constant q.1 q.2.1 q.2.2 ∈ ALL := (List.forall_mem_cons.mpr ⟨ALL_in 413 (by decide +kernel) rfl, (List.forall_mem_cons.mpr ⟨ALL_in 776 (by decide +kernel) rfl, (fun _ h => absurd h List.not_mem_nil)⟩)⟩)
def CKL : List (String × Nat × Int64) := []
theorem CKL_in : ∀ q ∈ CKL, Cond.constantLong q.1 q.2.1 q.2.2 ∈ ALL := (fun _ h => absurd h List.not_mem_nil)
theorem ws0_in : ∀ w ∈ u_ws R0_ T0_ 11, w ∈ ALL := by
  have h : (u_ws R0_ T0_ 11).all (fun w => decide (w ∈ tables_1) && goodWord w) = true := by decide +kernel
  intro w hw
  have h1 := List.all_eq_true.mp h w hw
  simp only [Bool.and_eq_true, decide_eq_true_eq] at h1
  exact List.mem_append_right _ (List.mem_filter.mpr ⟨List.mem_append_right _ h1.1, h1.2⟩)
theorem ws1_in : ∀ w ∈ u_ws R1_ T1_ 5, w ∈ ALL := by
  have h : (u_ws R1_ T1_ 5).all (fun w => decide (w ∈ tables_1) && goodWord w) = true := by decide +kernel
  intro w hw
  have h1 := List.all_eq_true.mp h w hw
  simp only [Bool.and_eq_true, decide_eq_true_eq] at h1
  exact List.mem_append_right _ (List.mem_filter.mpr ⟨List.mem_append_right _ h1.1, h1.2⟩)
theorem ws2_in : ∀ w ∈ u_ws R2_ T2_ 15, w ∈ ALL := by
  have h : (u_ws R2_ T2_ 15).all (fun w => decide (w ∈ tables_1) && goodWord w) = true := by decide +kernel
  intro w hw
  have h1 := List.all_eq_true.mp h w hw
  simp only [Bool.and_eq_true, decide_eq_true_eq] at h1
  exact List.mem_append_right _ (List.mem_filter.mpr ⟨List.mem_append_right _ h1.1, h1.2⟩)
theorem ws3_in : ∀ w ∈ u_ws R3_ T3_ 7, w ∈ ALL := by
  have h : (u_ws R3_ T3_ 7).all (fun w => decide (w ∈ tables_1) && goodWord w) = true := by decide +kernel
  intro w hw
  have h1 := List.all_eq_true.mp h w hw
  simp only [Bool.and_eq_true, decide_eq_true_eq] at h1
  exact List.mem_append_right _ (List.mem_filter.mpr ⟨List.mem_append_right _ h1.1, h1.2⟩)
theorem ws4_in : ∀ w ∈ u_ws R4_ T4_ 6, w ∈ ALL := by
  have h : (u_ws R4_ T4_ 6).all (fun w => decide (w ∈ tables_1) && goodWord w) = true := by decide +kernel
  intro w hw
  have h1 := List.all_eq_true.mp h w hw
  simp only [Bool.and_eq_true, decide_eq_true_eq] at h1
  exact List.mem_append_right _ (List.mem_filter.mpr ⟨List.mem_append_right _ h1.1, h1.2⟩)
theorem ws5_in : ∀ w ∈ u_ws R5_ T5_ 14, w ∈ ALL := by
  have h : (u_ws R5_ T5_ 14).all (fun w => decide (w ∈ tables_1) && goodWord w) = true := by decide +kernel
  intro w hw
  have h1 := List.all_eq_true.mp h w hw
  simp only [Bool.and_eq_true, decide_eq_true_eq] at h1
  exact List.mem_append_right _ (List.mem_filter.mpr ⟨List.mem_append_right _ h1.1, h1.2⟩)
theorem ws6_in : ∀ w ∈ u_ws R6_ T6_ 2, w ∈ ALL := by
  have h : (u_ws R6_ T6_ 2).all (fun w => decide (w ∈ tables_1) && goodWord w) = true := by decide +kernel
  intro w hw
  have h1 := List.all_eq_true.mp h w hw
  simp only [Bool.and_eq_true, decide_eq_true_eq] at h1
  exact List.mem_append_right _ (List.mem_filter.mpr ⟨List.mem_append_right _ h1.1, h1.2⟩)
theorem ws7_in : ∀ w ∈ u_ws R7_ T7_ 4, w ∈ ALL := by
  have h : (u_ws R7_ T7_ 4).all (fun w => decide (w ∈ tables_1) && goodWord w) = true := by decide +kernel
  intro w hw
  have h1 := List.all_eq_true.mp h w hw
  simp only [Bool.and_eq_true, decide_eq_true_eq] at h1
  exact List.mem_append_right _ (List.mem_filter.mpr ⟨List.mem_append_right _ h1.1, h1.2⟩)
theorem ws8_in : ∀ w ∈ u_ws R8_ T8_ 6, w ∈ ALL := by
  have h : (u_ws R8_ T8_ 6).all (fun w => decide (w ∈ tables_1) && goodWord w) = true := by decide +kernel
  intro w hw
  have h1 := List.all_eq_true.mp h w hw
  simp only [Bool.and_eq_true, decide_eq_true_eq] at h1
  exact List.mem_append_right _ (List.mem_filter.mpr ⟨List.mem_append_right _ h1.1, h1.2⟩)
/-- what the class of number ci is -/
def cOK (ci : Nat) (C : String) (T : u_T) (N : Nat) : Prop := classes[ci]? = some (C, T, N) ∧ (∀ w ∈ u_ws C T N, w ∈ ALL) ∧ (∀ a, a < N → ∀ b, b < N → a ≠ b → (T a).2.1 ≠ (T b).2.1) ∧ ∃ ty0 : Nat → FieldType, ∀ k, k < N → parseFieldDescriptor (T k).2.2.1 = some (ty0 k)
theorem c0_ok : cOK 0 R0_ T0_ 11 := ⟨rfl, ws0_in, nm0_, ty0_, ty0_ok⟩
theorem c1_ok : cOK 1 R1_ T1_ 5 := ⟨rfl, ws1_in, nm1_, ty1_, ty1_ok⟩
theorem c2_ok : cOK 2 R2_ T2_ 15 := ⟨rfl, ws2_in, nm2_, ty2_, ty2_ok⟩
theorem c3_ok : cOK 3 R3_ T3_ 7 := ⟨rfl, ws3_in, nm3_, ty3_, ty3_ok⟩
theorem c4_ok : cOK 4 R4_ T4_ 6 := ⟨rfl, ws4_in, nm4_, ty4_, ty4_ok⟩
theorem c5_ok : cOK 5 R5_ T5_ 14 := ⟨rfl, ws5_in, nm5_, ty5_, ty5_ok⟩
theorem c6_ok : cOK 6 R6_ T6_ 2 := ⟨rfl, ws6_in, nm6_, ty6_, ty6_ok⟩
theorem c7_ok : cOK 7 R7_ T7_ 4 := ⟨rfl, ws7_in, nm7_, ty7_, ty7_ok⟩
theorem c8_ok : cOK 8 R8_ T8_ 6 := ⟨rfl, ws8_in, nm8_, ty8_, ty8_ok⟩
end
section
/-! THE SIMPLE MACHINE (sm): worlds of int cells with fixed references, methods by weakest start, all over the kit's rows. No name of the claim's own stands here but ALL, NW, classes, cfs of part 00. -/
abbrev kd : Type := Nat ⊕ Nat
abbrev sv : Type := Int32 ⊕ (Int64 ⊕ (Nat × kd))
abbrev sS : Type := Nat → Nat → Int32
abbrev sL : Type := List (Nat × sv)
abbrev sF : Type := Nat × Nat × kd
abbrev sY : Type := MethodName × ByteArray × Nat × Option FieldType
/-- pc, length, instruction, target, cases of a switch, constants -/
abbrev sT : Type := Nat × Nat × Instr × Nat × List (Int32 × Nat) × Int32 × Int64
abbrev sP : Type := List sv → sS → Option (Option sv × sS)
/-- index, kind, receiver's class, callee, how many arguments, named method, owner or host, what it does if that is known -/
abbrev sE : Type := Nat × Nat × Nat × sY × Nat × MethodName × String × sP
abbrev sI (x : Int32) : sv := .inl x
abbrev sJ (x : Int64) : sv := .inr (.inl x)
abbrev sR (b : Nat) (k : kd) : sv := .inr (.inr (b, k))
def cv (ad : Nat → Nat) (v : sv) : Value := match v with
  | .inl x => .int x
  | .inr (.inl y) => .long y
  | .inr (.inr q) => .ref (ad q.1)
def cvL (ad : Nat → Nat) (ls : sL) : List (Nat × Value) := ls.map (fun q => (q.1, cv ad q.2))
def gl (i : Nat) : sL → Option sv
  | [] => none
  | q :: r => cond (Nat.beq q.1 i) (some q.2) (gl i r)
def il (i : Nat) (v : sv) : sL → sL
  | [] => [(i, v)]
  | q :: r => cond (Nat.blt i q.1) ((i, v) :: q :: r) (q :: il i v r)
def cat2 (v : sv) : Bool := match v with
  | .inr (.inl _) => true
  | _ => false
def sl1 (i : Nat) (v : sv) (ls : sL) : sL := il i v (ls.filter (fun q => !(Nat.beq q.1 i) && !(Nat.beq (q.1 + 1) i && cat2 q.2)))
def sl2 (i : Nat) (v : sv) (ls : sL) : sL := il i v (ls.filter (fun q => !(Nat.beq q.1 i) && (!(Nat.beq q.1 (i + 1)) && !(Nat.beq (q.1 + 1) i && cat2 q.2))))
def up (σ : sS) (a k : Nat) (x : Int32) : sS := fun c => if c = a then upd (σ a) k x else σ c
def fv (ad : Nat → Nat) (σ : sS) (b k : Nat) (s : sF) : Value := match s.1 with
  | 1 => .ref (ad (b + s.2.1))
  | 2 => .ref (ad (σ b k).toNatClampNeg)
  | _ => .int (σ b k)
def fvs (ad : Nat → Nat) (σ : sS) (b : Nat) : Nat → List sF → List Value
  | _, [] => []
  | k, s :: r => fv ad σ b k s :: fvs ad σ b (k + 1) r
def ent (cA : ClassId) (ad : Nat → Nat) (σ : sS) (b : Nat) (k : kd) : va_E := match k with
  | .inl ci => .inr (ci, fvs ad σ b 0 (cfs.getD ci []))
  | .inr n => .inl (cA, n, .inl (σ b))
def wl (cA : ClassId) (ad : Nat → Nat) (σ : sS) (Y : List kd) : va_W := Y.mapIdx (fun b k => (ad b, ent cA ad σ b k))
theorem wl_get {cA : ClassId} {ad : Nat → Nat} {σ : sS} {Y : List kd} {b : Nat} {k : kd} (h : Y[b]? = some k) : (wl cA ad σ Y)[b]? = some (ad b, ent cA ad σ b k) := by
  unfold wl
  rw [List.getElem?_mapIdx, h]
  rfl
theorem fvs_get (ad : Nat → Nat) (σ : sS) (b : Nat) : ∀ (l : List sF) (k j : Nat) (s : sF), l[j]? = some s → (fvs ad σ b k l)[j]? = some (fv ad σ b (k + j) s)
  | [], k, j, s, h => by simp at h
  | x :: r, k, 0, s, h => by
    simp at h
    subst h
    rfl
  | x :: r, k, j + 1, s, h => by
    have h' : r[j]? = some s := by simpa using h
    have := fvs_get ad σ b r (k + 1) j s h'
    simp only [fvs, List.getElem?_cons_succ]
    rw [this]
    congr 2
    omega
theorem fvs_len (ad : Nat → Nat) (σ : sS) (b : Nat) : ∀ (l : List sF) (k : Nat), (fvs ad σ b k l).length = l.length
  | [], k => rfl
  | x :: r, k => by simp [fvs, fvs_len ad σ b r (k + 1)]
theorem up_same (σ : sS) (a k : Nat) (x : Int32) : up σ a k x a = upd (σ a) k x := by simp [up]
theorem up_ne (σ : sS) {a c : Nat} (k : Nat) (x : Int32) (h : c ≠ a) : up σ a k x c = σ c := by simp [up, h]
theorem ent_ne (cA : ClassId) (ad : Nat → Nat) (σ σ' : sS) {b : Nat} (k : kd) (h : σ' b = σ b) : ent cA ad σ' b k = ent cA ad σ b k := by
  cases k with
  | inl ci =>
    have e : ∀ (l : List sF) (j : Nat), fvs ad σ' b j l = fvs ad σ b j l := by
      intro l
      induction l with
      | nil => intro j; rfl
      | cons s r ih =>
        intro j
        simp only [fvs]
        rw [ih (j + 1)]
        congr 1
        unfold fv
        rw [h]
    show (Sum.inr (ci, fvs ad σ' b 0 (cfs.getD ci [])) : va_E) = Sum.inr (ci, fvs ad σ b 0 (cfs.getD ci []))
    rw [e]
  | inr n =>
    show (Sum.inl (cA, n, Sum.inl (σ' b)) : va_E) = Sum.inl (cA, n, Sum.inl (σ b))
    rw [h]
/-- a world in which one cell is another -/
theorem wl_set {cA : ClassId} {ad : Nat → Nat} {σ σ' : sS} {Y : List kd} {a : Nat} {k : kd} (h : Y[a]? = some k) (ho : ∀ c, c ≠ a → σ' c = σ c) {x : va_E} (hx : ent cA ad σ' a k = x) : (wl cA ad σ Y).set a (ad a, x) = wl cA ad σ' Y := by
  apply List.ext_getElem?
  intro i
  have hl := (List.getElem?_eq_some_iff.mp h).1
  by_cases hi : i = a
  · subst hi
    rw [List.getElem?_set_self (by unfold wl; simpa using hl), wl_get h, hx]
  · rw [List.getElem?_set_ne (Ne.symm hi)]
    unfold wl
    rw [List.getElem?_mapIdx, List.getElem?_mapIdx]
    cases hY : Y[i]? with
    | none => rfl
    | some q =>
      show some (ad i, ent cA ad σ i q) = some (ad i, ent cA ad σ' i q)
      rw [ent_ne cA ad σ σ' q (ho i hi)]
theorem fvs_set (ad : Nat → Nat) (σ : sS) (b j : Nat) (x : Int32) : ∀ (l : List sF) (k : Nat) (s : sF), k ≤ j → l[j - k]? = some s → (fvs ad σ b k l).set (j - k) (fv ad (up σ b j x) b j s) = fvs ad (up σ b j x) b k l
  | [], k, s, hk, h => by simp at h
  | q :: r, k, s, hk, h => by
    have tail : ∀ (l : List sF) (k : Nat), j < k → fvs ad σ b k l = fvs ad (up σ b j x) b k l := by
      intro l
      induction l with
      | nil => intro k _; rfl
      | cons s r ih =>
        intro k hk
        simp only [fvs]
        rw [ih (k + 1) (by omega)]
        congr 1
        unfold fv
        rw [up_same]
        have : upd (σ b) j x k = σ b k := by simp [upd]; omega
        rw [this]
    by_cases e : j = k
    · subst e
      have hq : q = s := by simpa using h
      subst hq
      simp only [Nat.sub_self, fvs, List.set_cons_zero]
      rw [tail r (j + 1) (by omega)]
    · have e2 : j - k = (j - (k + 1)) + 1 := by omega
      rw [e2] at h ⊢
      have h' : r[j - (k + 1)]? = some s := by simpa using h
      simp only [fvs, List.set_cons_succ]
      rw [fvs_set ad σ b j x r (k + 1) s (by omega) h']
      congr 1
      unfold fv
      rw [up_same]
      have : upd (σ b) j x k = σ b k := by simp [upd]; omega
      rw [this]
/-! values and locals that fit the layout -/
def wtv (Y : List kd) (v : sv) : Prop := match v with
  | .inr (.inr q) => Y[q.1]? = some q.2
  | _ => True
def wtL (Y : List kd) (ls : sL) : Prop := ∀ q ∈ ls, wtv Y q.2
def wtS (Y : List kd) (st : List sv) : Prop := ∀ v ∈ st, wtv Y v
/-- fixed references point at cells of the kind that the class says -/
def lok (Y : List kd) : Prop := Y.length < 2 ^ 31 ∧ ∀ (b ci : Nat), Y[b]? = some (.inl ci) → ∀ (k : Nat) (s : sF), (cfs.getD ci [])[k]? = some s → s.1 = 1 → Y[b + s.2.1]? = some s.2.2
theorem gl_mem : ∀ (ls : sL) (i : Nat) (v : sv), gl i ls = some v → (i, v) ∈ ls
  | [], i, v, h => by simp [gl] at h
  | q :: r, i, v, h => by
    obtain ⟨j, w⟩ := q
    simp only [gl] at h
    cases hb : Nat.beq j i with
    | true =>
      rw [hb] at h
      have e := Nat.eq_of_beq_eq_true hb
      subst e
      have hw : w = v := by simpa using h
      subst hw
      exact List.mem_cons_self
    | false =>
      rw [hb] at h
      exact List.mem_cons_of_mem _ (gl_mem r i v h)
theorem cvL_mem {ad : Nat → Nat} {ls : sL} {i : Nat} {v : sv} (h : (i, v) ∈ ls) : (i, cv ad v) ∈ cvL ad ls := List.mem_map.mpr ⟨(i, v), h, rfl⟩
theorem lv_gl {ad : Nat → Nat} {lsA : Array Slot} {nL : Nat} {ls : sL} (h : lv_has lsA nL (cvL ad ls)) {i : Nat} {v : sv} (hg : gl i ls = some v) : lsA[i]? = some (.val (cv ad v)) := h.2.2 (i, cv ad v) (cvL_mem (gl_mem ls i v hg))
theorem wt_gl {Y : List kd} {ls : sL} (h : wtL Y ls) {i : Nat} {v : sv} (hg : gl i ls = some v) : wtv Y v := h _ (gl_mem ls i v hg)
theorem il_mem : ∀ (ls : sL) (i : Nat) (v : sv) (q : Nat × sv), q ∈ il i v ls → q = (i, v) ∨ q ∈ ls
  | [], i, v, q, h => by
    simp only [il, List.mem_singleton] at h
    exact Or.inl h
  | p :: r, i, v, q, h => by
    simp only [il] at h
    cases hb : Nat.blt i p.1 with
    | true =>
      rw [hb] at h
      exact List.mem_cons.mp h
    | false =>
      rw [hb] at h
      rcases List.mem_cons.mp h with e | h
      · exact Or.inr (e ▸ List.mem_cons_self)
      · rcases il_mem r i v q h with e | h
        · exact Or.inl e
        · exact Or.inr (List.mem_cons_of_mem _ h)
theorem cv_cat (ad : Nat → Nat) (v : sv) : (cv ad v).category = if cat2 v then 2 else 1 := by
  rcases v with x | y | q <;> rfl
theorem lv_has_mono {lsA : Array Slot} {nL : Nat} {l l' : List (Nat × Value)} (h : lv_has lsA nL l) (hm : ∀ q ∈ l', q ∈ l) : lv_has lsA nL l' := ⟨h.1, h.2.1, fun q hq => h.2.2 q (hm q hq)⟩
theorem sl1_mem {ad : Nat → Nat} {ls : sL} {i : Nat} {v : sv} : ∀ q ∈ cvL ad (sl1 i v ls), q ∈ (i, cv ad v) :: (cvL ad ls).filter (fun q => !(q.1 == i) && !(q.1 + 1 == i && q.2.category == 2)) := by
  intro q hq
  obtain ⟨p, hp, rfl⟩ := List.mem_map.mp hq
  rcases il_mem _ i v p hp with rfl | h
  · exact List.mem_cons_self
  · obtain ⟨h1, h2⟩ := List.mem_filter.mp h
    refine List.mem_cons_of_mem _ (List.mem_filter.mpr ⟨cvL_mem h1, ?_⟩)
    rw [cv_cat]
    have e : ∀ a b : Nat, Nat.beq a b = (a == b) := fun a b => by rw [Bool.eq_iff_iff]; simp [Nat.beq_eq]
    simp only [e] at h2
    cases hc : cat2 p.2 <;> simp [hc] at h2 ⊢ <;> exact h2
theorem sl2_mem {ad : Nat → Nat} {ls : sL} {i : Nat} {v : sv} : ∀ q ∈ cvL ad (sl2 i v ls), q ∈ (i, cv ad v) :: (cvL ad ls).filter (fun q => !(q.1 == i) && (!(q.1 == i + 1) && !(q.1 + 1 == i && q.2.category == 2))) := by
  intro q hq
  obtain ⟨p, hp, rfl⟩ := List.mem_map.mp hq
  rcases il_mem _ i v p hp with rfl | h
  · exact List.mem_cons_self
  · obtain ⟨h1, h2⟩ := List.mem_filter.mp h
    refine List.mem_cons_of_mem _ (List.mem_filter.mpr ⟨cvL_mem h1, ?_⟩)
    rw [cv_cat]
    have e : ∀ a b : Nat, Nat.beq a b = (a == b) := fun a b => by rw [Bool.eq_iff_iff]; simp [Nat.beq_eq]
    simp only [e] at h2
    cases hc : cat2 p.2 <;> simp [hc] at h2 ⊢ <;> exact h2
theorem wt_sl1 {Y : List kd} {ls : sL} {i : Nat} {v : sv} (h : wtL Y ls) (hv : wtv Y v) : wtL Y (sl1 i v ls) := by
  intro q hq
  rcases il_mem _ i v q hq with rfl | h1
  · exact hv
  · exact h q (List.mem_filter.mp h1).1
theorem wt_sl2 {Y : List kd} {ls : sL} {i : Nat} {v : sv} (h : wtL Y ls) (hv : wtv Y v) : wtL Y (sl2 i v ls) := by
  intro q hq
  rcases il_mem _ i v q hq with rfl | h1
  · exact hv
  · exact h q (List.mem_filter.mp h1).1
theorem wtS_tail {Y : List kd} {v : sv} {st : List sv} (h : wtS Y (v :: st)) : wtS Y st := fun w hw => h w (List.mem_cons_of_mem _ hw)
theorem wtS_head {Y : List kd} {v : sv} {st : List sv} (h : wtS Y (v :: st)) : wtv Y v := h v List.mem_cons_self
theorem wtS_cons {Y : List kd} {v : sv} {st : List sv} (hv : wtv Y v) (h : wtS Y st) : wtS Y (v :: st) := fun w hw => by
  rcases List.mem_cons.mp hw with rfl | h1
  · exact hv
  · exact h w h1
end
section
/-! what a method does on worlds: Jd, and the weakest start of one instruction -/
abbrev rmD (d : Nat) : Room := { frames := d, cells := 0, slots := 0, locals := 40 * d + 40 }
def wsY (y : sY) : List Cond := .code y.1 y.2.1 y.2.2.1 y.2.2.2 :: ALL
def sCx (Y : List kd) (y : sY) (d : Nat) (D : va_G) (cA : ClassId) (p : Program) (R : Room) (s : State) (m : MethodId) (args : Array Value) (meth : Method) (c : Code) : Prop :=
  p.tables.exec = Jvm.exec ∧ c.code = y.2.1 ∧ c.maxLocals = y.2.2.1 ∧ s.vm.findClass y.1.cls = some m.cls ∧ meth.sig.returnType = y.2.2.2 ∧ meth.locks = false ∧ (∀ w ∈ ALL, w.before args s = true) ∧ (∀ w ∈ NW, va_Nw w s) ∧ va_K D classes [(cA, .int)] s ∧ d ≤ R.frames ∧ 40 * d + 40 ≤ R.locals ∧ lok Y
def sQc (Y : List kd) (D : va_G) (cA : ClassId) (ad : Nat → Nat) (A : Nat → Prop) (Q : Option sv → sS → Prop) : Array Value → State → Outcome → State → Prop := fun _ st o t =>
  (∃ (r : Option sv) (σ : sS), o = .returned (r.map (cv ad)) ∧ (∀ v ∈ r, wtv Y v) ∧ Q r σ ∧ va_P D classes (wl cA ad σ Y) t.heap) ∧ va_F A st t
/-- from here the method comes to its end, with Q of its answer and of the world -/
def Jd (Y : List kd) (d : Nat) (y : sY) (pc : Nat) (ls : sL) (st : List sv) (σ : sS) (Q : Option sv → sS → Prop) : Prop :=
  ∀ (l : Launch) (D : va_G) (cA : ClassId) (ad : Nat → Nat) (A : Nat → Prop) (p : Program) (e : Env) (R : Room) (s : State) (m : MethodId) (args : Array Value) (below : List Frame) (meth : Method) (c : Code),
    sCx Y y d D cA p R s m args meth c → (∀ q : Nat, s.heap.size ≤ q → A q) →
    ∀ (H : Heap) (locs : List Loc) (lsA : Array Slot), va_P D classes (wl cA ad σ Y) H → va_D A (wl cA ad σ Y) → va_S A s.heap H locs → lv_has lsA y.2.2.1 (cvL ad ls) → wtL Y ls → wtS Y st →
      W p l e R s m args below meth c H locs 0 0 (MQ below (sQc Y D cA ad A Q) args s 0 0 A) (F0 m pc lsA (st.map (cv ad)))
def argL : Nat → List sv → sL
  | _, [] => []
  | i, v :: r => (i, v) :: argL (cond (cat2 v) (i + 2) (i + 1)) r
/-- a call, by its arguments (the receiver first) -/
def CJ (Y : List kd) (d : Nat) (y : sY) (as : List sv) (σ : sS) (Q : Option sv → sS → Prop) : Prop := Jd Y d y 0 (argL 0 as) [] σ Q
theorem Jd.mono {Y : List kd} {d d' : Nat} {y : sY} {pc : Nat} {ls : sL} {st : List sv} {σ : sS} {Q : Option sv → sS → Prop} (h : Jd Y d y pc ls st σ Q) (hd : d ≤ d') : Jd Y d' y pc ls st σ Q := by
  intro l D cA ad A p e R s m args below meth c hC
  obtain ⟨h1, h2, h3, h4, h5, h6, h7, h8, h9, h10, h11, h12⟩ := hC
  exact h l D cA ad A p e R s m args below meth c ⟨h1, h2, h3, h4, h5, h6, h7, h8, h9, Nat.le_trans hd h10, by omega, h12⟩
theorem Jd.sub {Y : List kd} {d : Nat} {y : sY} {pc : Nat} {ls ls' : sL} {st : List sv} {σ : sS} {Q : Option sv → sS → Prop} (h : Jd Y d y pc ls' st σ Q) (hm : ∀ q ∈ ls', q ∈ ls) : Jd Y d y pc ls st σ Q := by
  intro l D cA ad A p e R s m args below meth c hC hA H locs lsA hP hD hS hl hw hws
  refine h l D cA ad A p e R s m args below meth c hC hA H locs lsA hP hD hS (lv_has_mono hl ?_) (fun q hq => hw q (hm q hq)) hws
  intro q hq
  obtain ⟨r, hr, rfl⟩ := List.mem_map.mp hq
  exact List.mem_map.mpr ⟨r, hm r hr, rfl⟩
theorem W.imp {p : Program} {l : Launch} {e : Env} {R : Room} {s : State} {m : MethodId} {args : Array Value} {below : List Frame} {meth : Method} {c : Code} {H : Heap} {locs : List Loc} {cells slots : Nat} {Q Q' : State → Prop} {g : JFrame} (h : W p l e R s m args below meth c H locs cells slots Q g) (hQ : ∀ t, Q t → Q' t) : W p l e R s m args below meth c H locs cells slots Q' g := by
  intro T hT X
  obtain ⟨t, a, b⟩ := h T hT X
  exact ⟨t, a, hQ t b⟩
theorem Jd.imp {Y : List kd} {d : Nat} {y : sY} {pc : Nat} {ls : sL} {st : List sv} {σ : sS} {Q Q' : Option sv → sS → Prop} (h : Jd Y d y pc ls st σ Q) (hQ : ∀ r σ, Q r σ → Q' r σ) : Jd Y d y pc ls st σ Q' := by
  intro l D cA ad A p e R s m args below meth c hC hA H locs lsA hP hD hS hl hw hws
  refine W.imp (h l D cA ad A p e R s m args below meth c hC hA H locs lsA hP hD hS hl hw hws) ?_
  rintro t ⟨o, h1, h2, ⟨⟨r, σ', e1, e2, e3, e4⟩, h4⟩, h5⟩
  exact ⟨o, h1, h2, ⟨⟨r, σ', e1, e2, hQ r σ' e3, e4⟩, h4⟩, h5⟩
theorem CJ.mono {Y : List kd} {d d' : Nat} {y : sY} {as : List sv} {σ : sS} {Q : Option sv → sS → Prop} (h : CJ Y d y as σ Q) (hd : d ≤ d') : CJ Y d' y as σ Q := Jd.mono h hd
theorem CJ.imp {Y : List kd} {d : Nat} {y : sY} {as : List sv} {σ : sS} {Q Q' : Option sv → sS → Prop} (h : CJ Y d y as σ Q) (hQ : ∀ r σ, Q r σ → Q' r σ) : CJ Y d y as σ Q' := Jd.imp h hQ
/-! the contract of the machine out of CJ -/
def sPc (Y : List kd) (D : va_G) (cA : ClassId) (ad : Nat → Nat) (σ : sS) (as : List sv) (sz : Nat) : Array Value → State → Prop :=
  va_Pc (as.map (cv ad)) (fun U => U.heap.size = sz ∧ va_P D classes (wl cA ad σ Y) U.heap ∧ va_K D classes [(cA, .int)] U ∧ va_D (fun _ => True) (wl cA ad σ Y) ∧ ∀ w ∈ NW, va_Nw w U)
theorem sPc_blind {Y : List kd} {D : va_G} {cA : ClassId} {ad : Nat → Nat} {σ : sS} {as : List sv} {sz : Nat} : FrameBlind (sPc Y D cA ad σ as sz) := by
  rintro a U g mk ⟨h1, h2, h3, h4, h5, h6⟩
  exact ⟨h1, h2, h3, va_K.moved (u := U) (U := U.calling g mk a) (Vm.Alike.refl U.vm) h4, h5, fun w hw => va_Nw.same (NW_tab w hw) (u := U) (U := U.calling g mk a) rfl (h6 w hw)⟩
theorem argL_cv (ad : Nat → Nat) : ∀ (as : List sv) (i : Nat), cvL ad (argL i as) = lv_args i (as.map (cv ad))
  | [], i => rfl
  | v :: r, i => by
    simp only [argL, cvL, List.map_cons, lv_args]
    have h := argL_cv ad r (cond (cat2 v) (i + 2) (i + 1))
    simp only [cvL] at h
    rw [h, cv_cat]
    cases cat2 v <;> rfl
theorem argL_mem : ∀ (as : List sv) (i : Nat) (q : Nat × sv), q ∈ argL i as → q.2 ∈ as
  | [], i, q, h => by cases h
  | v :: r, i, q, h => by
    rcases List.mem_cons.mp h with rfl | h
    · exact List.mem_cons_self
    · exact List.mem_cons_of_mem _ (argL_mem r _ q h)
theorem met_of {Y : List kd} {d : Nat} {y : sY} {as : List sv} {σ : sS} {Q : Option sv → sS → Prop} (h : CJ Y d y as σ Q) (hy : plainName y.1.cls = true) (hY : lok Y) (hwt : wtS Y as) (l : Launch) (D : va_G) (cA : ClassId) (ad : Nat → Nat) (sz : Nat) (hn : (lg_sl (as.map (cv ad))).length ≤ y.2.2.1) :
    Met l y.1 (wsY y) (rmD d) (sPc Y D cA ad σ as sz) (sQc Y D cA ad (va_A (wl cA ad σ Y) sz) Q) 0 0 (va_A (wl cA ad σ Y) sz) := by
  refine Met.ofW (cc := y.2.1) (maxL := y.2.2.1) (ret := y.2.2.2) (ws' := ALL) hy rfl ?_
  intro p e s m args below meth c s₁ B hml hv
  obtain ⟨rfl, hsz, hP, hK, hD0, hN⟩ := hv
  have hts := atoms_spec (ws := wsY y) B.pre
  have hown : s.vm.findClass y.1.cls = some m.cls := findClass_of_methodNamed B.named
  subst hsz
  have hl := lv_entry (as.map (cv ad)) (n := y.2.2.1) hn
  rw [lg_entry_eq]
  rw [← argL_cv] at hl
  exact h l D cA ad _ p e _ s m _ below meth c ⟨B.exec, B.bytes, hml, hown, B.returns, B.notSynchronized, fun w hw => hts w (List.mem_cons_of_mem _ hw), hN, hK, Nat.le_refl _, Nat.le_refl _, hY⟩ (fun q hq => Or.inr hq) s.heap [] _ hP hD0.self va_S.rf hl (fun q hq => hwt _ (argL_mem as 0 q hq)) (fun v hv => by cases hv)
end
section
/-! the weakest start of one instruction, and that it is one -/
def w1I (st : List sv) (f : Int32 → List sv → Prop) : Prop := match st with
  | .inl x :: r => f x r
  | _ => False
def w2I (st : List sv) (f : Int32 → Int32 → List sv → Prop) : Prop := match st with
  | .inl y :: .inl x :: r => f x y r
  | _ => False
def w1J (st : List sv) (f : Int64 → List sv → Prop) : Prop := match st with
  | .inr (.inl x) :: r => f x r
  | _ => False
def w2J (st : List sv) (f : Int64 → Int64 → List sv → Prop) : Prop := match st with
  | .inr (.inl y) :: .inr (.inl x) :: r => f x y r
  | _ => False
def w1R (st : List sv) (f : Nat → kd → List sv → Prop) : Prop := match st with
  | .inr (.inr q) :: r => f q.1 q.2 r
  | _ => False
def w1O (st : List sv) (f : Nat → Nat → List sv → Prop) : Prop := match st with
  | .inr (.inr (b, .inl ci)) :: r => f b ci r
  | _ => False
def wXO (st : List sv) (f : sv → Nat → Nat → List sv → Prop) : Prop := match st with
  | v :: .inr (.inr (b, .inl ci)) :: r => f v b ci r
  | _ => False
def wA (st : List sv) (f : Nat → Nat → List sv → Prop) : Prop := match st with
  | .inr (.inr (b, .inr n)) :: r => f b n r
  | _ => False
def wIA (st : List sv) (f : Int32 → Nat → Nat → List sv → Prop) : Prop := match st with
  | .inl i :: .inr (.inr (b, .inr n)) :: r => f i b n r
  | _ => False
def wIIA (st : List sv) (f : Int32 → Int32 → Nat → Nat → List sv → Prop) : Prop := match st with
  | .inl x :: .inl i :: .inr (.inr (b, .inr n)) :: r => f x i b n r
  | _ => False
def wCp (st : List sv) (f : Int32 → Int32 → Nat → Nat → Int32 → Nat → Nat → List sv → Prop) : Prop := match st with
  | .inl n :: .inl dp :: .inr (.inr (a, .inr n1)) :: .inl sp :: .inr (.inr (a0, .inr n0)) :: r => f n dp a n1 sp a0 n0 r
  | _ => False
def wgI (i : Nat) (ls : sL) (f : Int32 → Prop) : Prop := match gl i ls with
  | some (.inl x) => f x
  | _ => False
def wgJ (i : Nat) (ls : sL) (f : Int64 → Prop) : Prop := match gl i ls with
  | some (.inr (.inl x)) => f x
  | _ => False
def wgR (i : Nat) (ls : sL) (f : Nat → kd → Prop) : Prop := match gl i ls with
  | some (.inr (.inr q)) => f q.1 q.2
  | _ => False
def kbeq (a b : kd) : Bool := match a, b with
  | .inl x, .inl y => Nat.beq x y
  | .inr x, .inr y => Nat.beq x y
  | _, _ => false
def wsum : List sv → Nat
  | [] => 0
  | v :: r => cond (cat2 v) 2 1 + wsum r
def ffind (idx ci : Nat) : List (Nat × Nat × Nat × sF) → Option (Nat × sF)
  | [] => none
  | e :: r => cond (Nat.beq e.1 idx && Nat.beq e.2.1 ci) (some e.2.2) (ffind idx ci r)
def cfind (idx : Nat) : List sE → Option sE
  | [] => none
  | e :: r => cond (Nat.beq e.1 idx) (some e) (cfind idx r)
def cfindR (idx ci : Nat) : List sE → Option sE
  | [] => none
  | e :: r => cond (Nat.beq e.1 idx && Nat.beq e.2.2.1 ci) (some e) (cfindR idx ci r)
def rI (k : Int32 → sS → Prop) : Option sv → sS → Prop := fun r σ => match r with
  | some (.inl x) => k x σ
  | _ => False
def rJ (k : Int64 → sS → Prop) : Option sv → sS → Prop := fun r σ => match r with
  | some (.inr (.inl x)) => k x σ
  | _ => False
def rN (k : sS → Prop) : Option sv → sS → Prop := fun r σ => match r with
  | none => k σ
  | _ => False
def rV (ret : Option FieldType) (rest : List sv) (k : List sv → sS → Prop) : Option sv → sS → Prop := match ret with
  | none => rN (fun σ => k rest σ)
  | some .long => rJ (fun x σ => k (.inr (.inl x) :: rest) σ)
  | some _ => rI (fun x σ => k (.inl x :: rest) σ)
def upA (σ : sS) (a : Nat) (f : Nat → Int32) : sS := fun c => if c = a then f else σ c
/-- the call of entry e, t cells of the stack -/
def wcall (Y : List kd) (d : Nat) (e : sE) (t : Nat) (st : List sv) (σ : sS) (K : List sv → sS → Prop) : Prop :=
  cond (Nat.ble t st.length && (Nat.ble (wsum (st.drop t)) 8 && Nat.ble (wsum (st.take t).reverse) e.2.2.2.1.2.2.1)) (match e.2.2.2.2.2.2.2 (st.take t).reverse σ with
    | some (r, σ') => K (r.toList ++ st.drop t) σ'
    | none => CJ Y d e.2.2.2.1 (st.take t).reverse σ (rV e.2.2.2.1.2.2.2 (st.drop t) K)) False
def wbr (a b : Prop) (A B : Prop) : Prop := (a → A) ∧ (b → B)
def wsw (x : Int32) (d : Prop) (f : Nat → Prop) : List (Int32 × Nat) → Prop
  | [] => d
  | q :: r => (x = q.1 → f q.2) ∧ (¬ x = q.1 → wsw x d f r)
def wstatE (Y : List kd) (d : Nat) (ce : sE) (st : List sv) (σ : sS) (K : List sv → sS → Prop) : Prop := match ce.2.1 with
  | 5 => w2I st (fun x y r => cond (Nat.ble (wsum r) 8) (K (.inl (if y < x then y else x) :: r) σ) False)
  | 6 => w2I st (fun x y r => cond (Nat.ble (wsum r) 8) (K (.inl (if x < y then y else x) :: r) σ) False)
  | 7 => wCp st (fun n dp a n1 sp a0 n0 r => cond (Nat.ble (wsum r) 8) ((¬ sp < 0 ∧ ¬ dp < 0 ∧ ¬ n < 0 ∧ sp.toNatClampNeg + n.toNatClampNeg ≤ n0 ∧ dp.toNatClampNeg + n.toNatClampNeg ≤ n1) ∧ K r (upA σ a (va_cpy (σ a0) (σ a) sp.toNatClampNeg dp.toNatClampNeg n.toNatClampNeg))) False)
  | 1 => wcall Y d ce ce.2.2.2.2.1 st σ K
  | 2 => wcall Y d ce ce.2.2.2.2.1 st σ K
  | _ => False
def wstat (Y : List kd) (d : Nat) (ct : List sE) (idx : Nat) (st : List sv) (σ : sS) (K : List sv → sS → Prop) : Prop := match d with
  | 0 => False
  | d + 1 => match cfind idx ct with
    | some ce => wstatE Y d ce st σ K
    | none => False
def wvirtE (Y : List kd) (d : Nat) (ce : sE) (na : Nat) (st : List sv) (σ : sS) (K : List sv → sS → Prop) : Prop := match ce.2.1 with
  | 0 => cond (Nat.beq ce.2.2.2.2.1 na) (wcall Y d ce (ce.2.2.2.2.1 + 1) st σ K) False
  | 3 => cond (Nat.beq ce.2.2.2.2.1 na) (wcall Y d ce (ce.2.2.2.2.1 + 1) st σ K) False
  | 4 => cond (Nat.beq ce.2.2.2.2.1 na) (wcall Y d ce (ce.2.2.2.2.1 + 1) st σ K) False
  | _ => False
def wvirt (Y : List kd) (d : Nat) (ct : List sE) (idx : Nat) (st : List sv) (σ : sS) (K : List sv → sS → Prop) : Prop := match d with
  | 0 => False
  | d + 1 => match cfind idx ct with
    | some c0 => w1O (st.drop c0.2.2.2.2.1) (fun _ ci _ => match cfindR idx ci ct with
      | some ce => wvirtE Y d ce c0.2.2.2.2.1 st σ K
      | none => False)
    | none => False
def wp1 (Y : List kd) (d : Nat) (mL : Nat) (ret : Option FieldType) (ft : List (Nat × Nat × Nat × sF)) (ct : List sE) (e : sT) (ls : sL) (st : List sv) (σ : sS) (K : Nat → sL → List sv → sS → Prop) (Q : Option sv → sS → Prop) : Prop :=
  match e.2.2.1 with
  | .iconst _ | .bipush _ | .sipush _ | .ldc _ | .ldc_w _ => K (e.1 + e.2.1) ls (.inl e.2.2.2.2.2.1 :: st) σ
  | .lconst _ | .ldc2_w _ => K (e.1 + e.2.1) ls (.inr (.inl e.2.2.2.2.2.2) :: st) σ
  | .iload_n k => wgI k.val ls (fun x => K (e.1 + e.2.1) ls (.inl x :: st) σ)
  | .iload i => wgI i ls (fun x => K (e.1 + e.2.1) ls (.inl x :: st) σ)
  | .lload_n k => wgJ k.val ls (fun x => K (e.1 + e.2.1) ls (.inr (.inl x) :: st) σ)
  | .lload i => wgJ i ls (fun x => K (e.1 + e.2.1) ls (.inr (.inl x) :: st) σ)
  | .aload_n k => wgR k.val ls (fun b k => K (e.1 + e.2.1) ls (.inr (.inr (b, k)) :: st) σ)
  | .aload i => wgR i ls (fun b k => K (e.1 + e.2.1) ls (.inr (.inr (b, k)) :: st) σ)
  | .istore_n k => w1I st (fun x r => cond (Nat.ble (k.val + 1) mL) (K (e.1 + e.2.1) (sl1 k.val (.inl x) ls) r σ) False)
  | .istore i => w1I st (fun x r => cond (Nat.ble (i + 1) mL) (K (e.1 + e.2.1) (sl1 i (.inl x) ls) r σ) False)
  | .lstore_n k => w1J st (fun x r => cond (Nat.ble (k.val + 2) mL) (K (e.1 + e.2.1) (sl2 k.val (.inr (.inl x)) ls) r σ) False)
  | .lstore i => w1J st (fun x r => cond (Nat.ble (i + 2) mL) (K (e.1 + e.2.1) (sl2 i (.inr (.inl x)) ls) r σ) False)
  | .iinc i _ => wgI i ls (fun x => cond (Nat.ble (i + 1) mL) (K (e.1 + e.2.1) (sl1 i (.inl (x + e.2.2.2.2.2.1)) ls) st σ) False)
  | .iadd => w2I st (fun x y r => K (e.1 + e.2.1) ls (.inl (x + y) :: r) σ)
  | .isub => w2I st (fun x y r => K (e.1 + e.2.1) ls (.inl (x - y) :: r) σ)
  | .imul => w2I st (fun x y r => K (e.1 + e.2.1) ls (.inl (x * y) :: r) σ)
  | .idiv => w2I st (fun x y r => ¬ y = 0 ∧ K (e.1 + e.2.1) ls (.inl (x / y) :: r) σ)
  | .irem => w2I st (fun x y r => ¬ y = 0 ∧ K (e.1 + e.2.1) ls (.inl (x - x / y * y) :: r) σ)
  | .iand => w2I st (fun x y r => K (e.1 + e.2.1) ls (.inl (x &&& y) :: r) σ)
  | .ior => w2I st (fun x y r => K (e.1 + e.2.1) ls (.inl (x ||| y) :: r) σ)
  | .ishl => w2I st (fun x y r => K (e.1 + e.2.1) ls (.inl (x <<< (y &&& 31)) :: r) σ)
  | .ishr => w2I st (fun x y r => K (e.1 + e.2.1) ls (.inl (x >>> (y &&& 31)) :: r) σ)
  | .iushr => w2I st (fun x y r => K (e.1 + e.2.1) ls (.inl (x.toUInt32 >>> (y.toUInt32 &&& Int32.toUInt32 31)).toInt32 :: r) σ)
  | .ineg => w1I st (fun x r => K (e.1 + e.2.1) ls (.inl (-x) :: r) σ)
  | .i2l => w1I st (fun x r => K (e.1 + e.2.1) ls (.inr (.inl x.toInt64) :: r) σ)
  | .ladd => w2J st (fun x y r => K (e.1 + e.2.1) ls (.inr (.inl (x + y)) :: r) σ)
  | .lsub => w2J st (fun x y r => K (e.1 + e.2.1) ls (.inr (.inl (x - y)) :: r) σ)
  | .lmul => w2J st (fun x y r => K (e.1 + e.2.1) ls (.inr (.inl (x * y)) :: r) σ)
  | .ldiv => w2J st (fun x y r => ¬ y = 0 ∧ K (e.1 + e.2.1) ls (.inr (.inl (x / y)) :: r) σ)
  | .lrem => w2J st (fun x y r => ¬ y = 0 ∧ K (e.1 + e.2.1) ls (.inr (.inl (x - x / y * y)) :: r) σ)
  | .lcmp => w2J st (fun x y r => K (e.1 + e.2.1) ls (.inl (lg_cmp x y) :: r) σ)
  | .dup => match st with
    | v :: r => cond (cat2 v) False (K (e.1 + e.2.1) ls (v :: v :: r) σ)
    | _ => False
  | .dup2 => match st with
    | v :: w :: r => cond (cat2 v || cat2 w) False (K (e.1 + e.2.1) ls (v :: w :: v :: w :: r) σ)
    | _ => False
  | .pop => match st with
    | v :: r => cond (cat2 v) False (K (e.1 + e.2.1) ls r σ)
    | _ => False
  | .goto _ => K e.2.2.2.1 ls st σ
  | .ifnull _ => w1R st (fun _ _ r => K (e.1 + e.2.1) ls r σ)
  | .ifnonnull _ => w1R st (fun _ _ r => K e.2.2.2.1 ls r σ)
  | .if_icmp .eq _ => w2I st (fun x y r => (x = y → K e.2.2.2.1 ls r σ) ∧ (¬ x = y → K (e.1 + e.2.1) ls r σ))
  | .if_icmp .ne _ => w2I st (fun x y r => (¬ x = y → K e.2.2.2.1 ls r σ) ∧ (x = y → K (e.1 + e.2.1) ls r σ))
  | .if_icmp .lt _ => w2I st (fun x y r => (x < y → K e.2.2.2.1 ls r σ) ∧ (¬ x < y → K (e.1 + e.2.1) ls r σ))
  | .if_icmp .ge _ => w2I st (fun x y r => (¬ x < y → K e.2.2.2.1 ls r σ) ∧ (x < y → K (e.1 + e.2.1) ls r σ))
  | .if_icmp .gt _ => w2I st (fun x y r => (y < x → K e.2.2.2.1 ls r σ) ∧ (¬ y < x → K (e.1 + e.2.1) ls r σ))
  | .if_icmp .le _ => w2I st (fun x y r => (¬ y < x → K e.2.2.2.1 ls r σ) ∧ (y < x → K (e.1 + e.2.1) ls r σ))
  | .ifCond .eq _ => w1I st (fun x r => (x = 0 → K e.2.2.2.1 ls r σ) ∧ (¬ x = 0 → K (e.1 + e.2.1) ls r σ))
  | .ifCond .ne _ => w1I st (fun x r => (¬ x = 0 → K e.2.2.2.1 ls r σ) ∧ (x = 0 → K (e.1 + e.2.1) ls r σ))
  | .ifCond .lt _ => w1I st (fun x r => (x < 0 → K e.2.2.2.1 ls r σ) ∧ (¬ x < 0 → K (e.1 + e.2.1) ls r σ))
  | .ifCond .ge _ => w1I st (fun x r => (¬ x < 0 → K e.2.2.2.1 ls r σ) ∧ (x < 0 → K (e.1 + e.2.1) ls r σ))
  | .ifCond .gt _ => w1I st (fun x r => (0 < x → K e.2.2.2.1 ls r σ) ∧ (¬ 0 < x → K (e.1 + e.2.1) ls r σ))
  | .ifCond .le _ => w1I st (fun x r => (¬ 0 < x → K e.2.2.2.1 ls r σ) ∧ (0 < x → K (e.1 + e.2.1) ls r σ))
  | .tableswitch _ _ _ _ => w1I st (fun x r => wsw x (K e.2.2.2.1 ls r σ) (fun t => K t ls r σ) e.2.2.2.2.1)
  | .lookupswitch _ _ => w1I st (fun x r => wsw x (K e.2.2.2.1 ls r σ) (fun t => K t ls r σ) e.2.2.2.2.1)
  | .arraylength => wA st (fun _ n r => K (e.1 + e.2.1) ls (.inl (nI n) :: r) σ)
  | .iaload => wIA st (fun i b n r => vp_in i n ∧ K (e.1 + e.2.1) ls (.inl (σ b i.toNatClampNeg) :: r) σ)
  | .iastore => wIIA st (fun x i b n r => vp_in i n ∧ K (e.1 + e.2.1) ls r (up σ b i.toNatClampNeg x))
  | .getfield idx => w1O st (fun b ci r => match ffind idx ci ft with
    | some (k, 0, _, _) => K (e.1 + e.2.1) ls (.inl (σ b k) :: r) σ
    | some (k, 3, _, _) => K (e.1 + e.2.1) ls (.inl (σ b k) :: r) σ
    | some (_, 1, off, kk) => K (e.1 + e.2.1) ls (.inr (.inr (b + off, kk)) :: r) σ
    | some (k, 2, _, kk) => Y[(σ b k).toNatClampNeg]? = some kk ∧ K (e.1 + e.2.1) ls (.inr (.inr ((σ b k).toNatClampNeg, kk)) :: r) σ
    | _ => False)
  | .putfield idx => wXO st (fun v b ci r => match ffind idx ci ft, v with
    | some (k, 0, _, _), .inl x => K (e.1 + e.2.1) ls r (up σ b k x)
    | some (k, 3, _, _), .inl x => (x = 0 ∨ x = 1) ∧ K (e.1 + e.2.1) ls r (up σ b k x)
    | some (k, 2, _, kk), .inr (.inr (b', kk')) => cond (kbeq kk' kk) (K (e.1 + e.2.1) ls r (up σ b k (nI b'))) False
    | _, _ => False)
  | .invokestatic idx => wstat Y d ct idx st σ (K (e.1 + e.2.1) ls)
  | .invokevirtual idx => wvirt Y d ct idx st σ (K (e.1 + e.2.1) ls)
  | .ireturn => match st with
    | [.inl x] => match ret with
      | some .int => Q (some (.inl x)) σ
      | some .boolean => (x = 0 ∨ x = 1) ∧ Q (some (.inl x)) σ
      | _ => False
    | _ => False
  | .lreturn => match st, ret with
    | [.inr (.inl x)], some .long => Q (some (.inr (.inl x))) σ
    | _, _ => False
  | .return_ => match st, ret with
    | [], none => Q none σ
    | _, _ => False
  | _ => False
end
section
/-! the tables of a method that the weakest start rests on -/
def csT (pc : Nat) : Int → List Int → List (Int32 × Nat) → Bool
  | _, [], [] => true
  | a, o :: r, q :: r' => decide (q.1.toInt = a) && (decide ((pc : Int) + o = (q.2 : Int)) && csT pc (a + 1) r r')
  | _, _, _ => false
def csL (pc : Nat) : List (Int × Int) → List (Int32 × Nat) → Bool
  | [], [] => true
  | o :: r, q :: r' => decide (q.1.toInt = o.1) && (decide ((pc : Int) + o.2 = (q.2 : Int)) && csL pc r r')
  | _, _ => false
def sSide (own : String) (e : sT) : Bool := match e.2.2.1 with
  | .iconst n => decide (Int32.ofInt n = e.2.2.2.2.2.1) && Nat.beq e.2.1 1
  | .bipush n => decide ((Int8.ofInt n).toInt32 = e.2.2.2.2.2.1) && Nat.beq e.2.1 2
  | .sipush n => decide ((Int16.ofInt n).toInt32 = e.2.2.2.2.2.1) && Nat.beq e.2.1 3
  | .ldc i => decide ((own, i, e.2.2.2.2.2.1) ∈ CK) && Nat.beq e.2.1 2
  | .ldc_w i => decide ((own, i, e.2.2.2.2.2.1) ∈ CK) && Nat.beq e.2.1 3
  | .lconst n => decide (Int64.ofNat n.val = e.2.2.2.2.2.2) && Nat.beq e.2.1 1
  | .ldc2_w i => decide ((own, i, e.2.2.2.2.2.2) ∈ CKL) && Nat.beq e.2.1 3
  | .iload _ | .lload _ | .aload _ | .istore _ | .lstore _ => Nat.beq e.2.1 2
  | .iinc _ n => decide (Int32.ofInt n = e.2.2.2.2.2.1) && Nat.beq e.2.1 3
  | .goto o | .ifnull o | .ifnonnull o | .if_icmp _ o | .ifCond _ o => decide ((e.1 : Int) + o = (e.2.2.2.1 : Int)) && Nat.beq e.2.1 3
  | .tableswitch d lo hi offs => decide ((e.1 : Int) + d = (e.2.2.2.1 : Int)) && (decide (hi = lo + offs.size - 1) && csT e.1 lo offs.toList e.2.2.2.2.1)
  | .lookupswitch d ps => decide ((e.1 : Int) + d = (e.2.2.2.1 : Int)) && ((ps.toList.zip (ps.toList.drop 1)).all (fun (a, next) => a.1 < next.1) && csL e.1 ps.toList e.2.2.2.2.1)
  | .getfield _ | .putfield _ | .invokestatic _ | .invokevirtual _ => Nat.beq e.2.1 3
  | _ => Nat.beq e.2.1 1
def sTok (own : String) (bytes : ByteArray) (e : sT) : Prop := decode bytes e.1 = .ok (e.2.2.1, e.2.1) ∧ sSide own e = true
/-- an entry of the fields: index, class, place, sort -/
def fOK (own : String) (e : Nat × Nat × Nat × sF) : Prop := ∃ (C : String) (T : u_T) (N : Nat) (ref : String), cOK e.2.1 C T N ∧ e.2.2.1 < N ∧ Cond.fieldLink own e.1 ref (T e.2.2.1).2.1 (T e.2.2.1).2.2.1 ∈ ALL ∧ (ref = (T e.2.2.1).1 ∨ Cond.sameField ref (T e.2.2.1).1 (T e.2.2.1).2.1 (T e.2.2.1).2.2.1 ∈ ALL) ∧ (cfs.getD e.2.1 [])[e.2.2.1]? = some e.2.2.2 ∧
  (e.2.2.2.1 = 0 → parseFieldDescriptor (T e.2.2.1).2.2.1 = some .int ∧ (T e.2.2.1).2.2.2 = false) ∧ (e.2.2.2.1 = 3 → parseFieldDescriptor (T e.2.2.1).2.2.1 = some .boolean ∧ (T e.2.2.1).2.2.2 = false) ∧ (e.2.2.2.1 = 2 → ∃ o, parseFieldDescriptor (T e.2.2.1).2.2.1 = some (.object o) ∧ (T e.2.2.1).2.2.2 = false)
/-- what an entry of the calls rests on -/
def notMH (c : String) : Prop := c ≠ "java/lang/invoke/MethodHandle" ∧ c ≠ "java/lang/invoke/VarHandle"
def yOK (Y : List kd) (e : sE) : Prop := plainName e.2.2.2.1.1.cls = true ∧ Cond.code e.2.2.2.1.1 e.2.2.2.1.2.1 e.2.2.2.1.2.2.1 e.2.2.2.1.2.2.2 ∈ ALL ∧ e.2.2.2.1.2.2.1 ≤ 21 ∧ notMH e.2.2.2.1.1.cls ∧ (parseMethodDescriptor e.2.2.2.1.1.desc).map (fun d => d.parameters.length) = some e.2.2.2.2.1 ∧
  ∀ (as : List sv) (σ : sS) (r : Option sv) (σ' : sS), e.2.2.2.2.2.2.2 as σ = some (r, σ') → wtS Y as → ∀ (d : Nat) (Q : Option sv → sS → Prop), Q r σ' → CJ Y d e.2.2.2.1 as σ Q
def eOK (Y : List kd) (own : String) (e : sE) : Prop := match e.2.1 with
  | 0 => yOK Y e ∧ ∃ C T N, classes[e.2.2.1]? = some (C, T, N) ∧ e.2.2.2.1.1.cls = C ∧ Cond.methodLink own e.1 e.2.2.2.1.1 ∈ ALL ∧ Cond.instanceMethod e.2.2.2.1.1 ∈ ALL ∧ Cond.selects C e.2.2.2.1.1 e.2.2.2.1.1 ∈ ALL ∧ Cond.initialized C ∈ ALL
  | 1 => yOK Y e ∧ Cond.methodLinkNest own e.1 e.2.2.2.1.1 e.2.2.2.2.2.2.1 ∈ NW ∧ Cond.static e.2.2.2.1.1 ∈ ALL ∧ Cond.initialized e.2.2.2.1.1.cls ∈ ALL
  | 2 => yOK Y e ∧ Cond.methodLink own e.1 e.2.2.2.1.1 ∈ ALL ∧ Cond.static e.2.2.2.1.1 ∈ ALL ∧ Cond.initialized e.2.2.2.1.1.cls ∈ ALL
  | 3 => yOK Y e ∧ ∃ C T N, classes[e.2.2.1]? = some (C, T, N) ∧ e.2.2.2.1.1 = ⟨e.2.2.2.2.2.2.1, e.2.2.2.2.2.1.name, e.2.2.2.2.2.1.desc⟩ ∧ Cond.methodLink own e.1 e.2.2.2.2.2.1 ∈ ALL ∧ Cond.sameMethod e.2.2.2.2.2.1.cls e.2.2.2.2.2.2.1 e.2.2.2.2.2.1.name e.2.2.2.2.2.1.desc ∈ ALL ∧ Cond.selects C e.2.2.2.2.2.1 e.2.2.2.1.1 ∈ ALL ∧ Cond.instanceMethod e.2.2.2.1.1 ∈ ALL ∧ Cond.initialized e.2.2.2.1.1.cls ∈ ALL ∧ notMH e.2.2.2.2.2.2.1
  | 4 => yOK Y e ∧ ∃ C T N, classes[e.2.2.1]? = some (C, T, N) ∧ Cond.methodLink own e.1 e.2.2.2.2.2.1 ∈ ALL ∧ Cond.sameMethod e.2.2.2.2.2.1.cls e.2.2.2.2.2.2.1 e.2.2.2.2.2.1.name e.2.2.2.2.2.1.desc ∈ ALL ∧ Cond.selects C e.2.2.2.2.2.1 e.2.2.2.1.1 ∈ ALL ∧ Cond.instanceMethod e.2.2.2.1.1 ∈ ALL ∧ Cond.initialized e.2.2.2.1.1.cls ∈ ALL ∧ notMH e.2.2.2.2.2.2.1 ∧ Cond.declares ⟨e.2.2.2.2.2.2.1, e.2.2.2.2.2.1.name, e.2.2.2.2.2.1.desc⟩ ∈ NW ∧ (parseMethodDescriptor e.2.2.2.2.2.1.desc).map (fun d => d.parameters.length) = some e.2.2.2.2.1
  | 5 => Cond.methodLink own e.1 Lib.Math.min.name ∈ ALL ∧ Cond.static Lib.Math.min.name ∈ ALL ∧ Cond.initialized "java/lang/Math" ∈ ALL ∧ Cond.code Lib.Math.min.name Lib.Math.min.code 2 (some .int) ∈ ALL
  | 6 => Cond.methodLink own e.1 Lib.Math.max.name ∈ ALL ∧ Cond.static Lib.Math.max.name ∈ ALL ∧ Cond.initialized "java/lang/Math" ∈ ALL ∧ Cond.code Lib.Math.max.name Lib.Math.max.code 2 (some .int) ∈ ALL
  | 7 => Cond.methodLink own e.1 arraycopyName ∈ ALL ∧ Cond.native arraycopyName ∈ ALL ∧ Cond.static arraycopyName ∈ ALL ∧ Cond.initialized "java/lang/System" ∈ ALL
  | _ => False
theorem w1I_inv {st : List sv} {f : Int32 → List sv → Prop} (h : w1I st f) : ∃ x r, st = .inl x :: r ∧ f x r := by
  unfold w1I at h
  split at h
  · exact ⟨_, _, rfl, h⟩
  · exact h.elim
theorem w2I_inv {st : List sv} {f : Int32 → Int32 → List sv → Prop} (h : w2I st f) : ∃ x y r, st = .inl y :: .inl x :: r ∧ f x y r := by
  unfold w2I at h
  split at h
  · exact ⟨_, _, _, rfl, h⟩
  · exact h.elim
theorem w1J_inv {st : List sv} {f : Int64 → List sv → Prop} (h : w1J st f) : ∃ x r, st = .inr (.inl x) :: r ∧ f x r := by
  unfold w1J at h
  split at h
  · exact ⟨_, _, rfl, h⟩
  · exact h.elim
theorem w2J_inv {st : List sv} {f : Int64 → Int64 → List sv → Prop} (h : w2J st f) : ∃ x y r, st = .inr (.inl y) :: .inr (.inl x) :: r ∧ f x y r := by
  unfold w2J at h
  split at h
  · exact ⟨_, _, _, rfl, h⟩
  · exact h.elim
theorem w1R_inv {st : List sv} {f : Nat → kd → List sv → Prop} (h : w1R st f) : ∃ b k r, st = .inr (.inr (b, k)) :: r ∧ f b k r := by
  unfold w1R at h
  split at h
  · rename_i q r
    exact ⟨q.1, q.2, r, rfl, h⟩
  · exact h.elim
theorem w1O_inv {st : List sv} {f : Nat → Nat → List sv → Prop} (h : w1O st f) : ∃ b k r, st = .inr (.inr (b, .inl k)) :: r ∧ f b k r := by
  unfold w1O at h
  split at h
  · exact ⟨_, _, _, rfl, h⟩
  · exact h.elim
theorem wXO_inv {st : List sv} {f : sv → Nat → Nat → List sv → Prop} (h : wXO st f) : ∃ v b k r, st = v :: .inr (.inr (b, .inl k)) :: r ∧ f v b k r := by
  unfold wXO at h
  split at h
  · exact ⟨_, _, _, _, rfl, h⟩
  · exact h.elim
theorem wA_inv {st : List sv} {f : Nat → Nat → List sv → Prop} (h : wA st f) : ∃ b k r, st = .inr (.inr (b, .inr k)) :: r ∧ f b k r := by
  unfold wA at h
  split at h
  · exact ⟨_, _, _, rfl, h⟩
  · exact h.elim
theorem wIA_inv {st : List sv} {f : Int32 → Nat → Nat → List sv → Prop} (h : wIA st f) : ∃ i b k r, st = .inl i :: .inr (.inr (b, .inr k)) :: r ∧ f i b k r := by
  unfold wIA at h
  split at h
  · exact ⟨_, _, _, _, rfl, h⟩
  · exact h.elim
theorem wIIA_inv {st : List sv} {f : Int32 → Int32 → Nat → Nat → List sv → Prop} (h : wIIA st f) : ∃ x i b k r, st = .inl x :: .inl i :: .inr (.inr (b, .inr k)) :: r ∧ f x i b k r := by
  unfold wIIA at h
  split at h
  · exact ⟨_, _, _, _, _, rfl, h⟩
  · exact h.elim
theorem wCp_inv {st : List sv} {f : Int32 → Int32 → Nat → Nat → Int32 → Nat → Nat → List sv → Prop} (h : wCp st f) : ∃ n dp a n1 sp a0 n0 r, st = .inl n :: .inl dp :: .inr (.inr (a, .inr n1)) :: .inl sp :: .inr (.inr (a0, .inr n0)) :: r ∧ f n dp a n1 sp a0 n0 r := by
  unfold wCp at h
  split at h
  · exact ⟨_, _, _, _, _, _, _, _, rfl, h⟩
  · exact h.elim
theorem wgI_inv {i : Nat} {ls : sL} {f : Int32 → Prop} (h : wgI i ls f) : ∃ x, gl i ls = some (.inl x) ∧ f x := by
  unfold wgI at h
  split at h
  · rename_i x hx
    exact ⟨x, hx, h⟩
  · exact h.elim
theorem wgJ_inv {i : Nat} {ls : sL} {f : Int64 → Prop} (h : wgJ i ls f) : ∃ x, gl i ls = some (.inr (.inl x)) ∧ f x := by
  unfold wgJ at h
  split at h
  · rename_i x hx
    exact ⟨x, hx, h⟩
  · exact h.elim
theorem wgR_inv {i : Nat} {ls : sL} {f : Nat → kd → Prop} (h : wgR i ls f) : ∃ b k, gl i ls = some (.inr (.inr (b, k))) ∧ f b k := by
  unfold wgR at h
  split at h
  · rename_i q hx
    exact ⟨q.1, q.2, hx, h⟩
  · exact h.elim
theorem ffind_mem {idx ci : Nat} : ∀ {ft : List (Nat × Nat × Nat × sF)} {q : Nat × sF}, ffind idx ci ft = some q → (idx, ci, q) ∈ ft
  | [], q, h => by cases h
  | e :: r, q, h => by
    obtain ⟨a, b, c⟩ := e
    simp only [ffind] at h
    cases hb : (Nat.beq a idx && Nat.beq b ci) with
    | true =>
      rw [hb] at h
      simp only [Bool.and_eq_true] at hb
      have e1 := Nat.eq_of_beq_eq_true hb.1
      have e2 := Nat.eq_of_beq_eq_true hb.2
      subst e1; subst e2
      have : c = q := by simpa using h
      subst this
      exact List.mem_cons_self
    | false =>
      rw [hb] at h
      exact List.mem_cons_of_mem _ (ffind_mem h)
theorem cfind_mem {idx : Nat} : ∀ {ct : List sE} {e : sE}, cfind idx ct = some e → e ∈ ct ∧ e.1 = idx
  | [], e, h => by cases h
  | q :: r, e, h => by
    simp only [cfind] at h
    cases hb : Nat.beq q.1 idx with
    | true =>
      rw [hb] at h
      have : q = e := by simpa using h
      subst this
      exact ⟨List.mem_cons_self, Nat.eq_of_beq_eq_true hb⟩
    | false =>
      rw [hb] at h
      exact ⟨List.mem_cons_of_mem _ (cfind_mem h).1, (cfind_mem h).2⟩
theorem cfindR_mem {idx ci : Nat} : ∀ {ct : List sE} {e : sE}, cfindR idx ci ct = some e → e ∈ ct ∧ e.1 = idx ∧ e.2.2.1 = ci
  | [], e, h => by cases h
  | q :: r, e, h => by
    simp only [cfindR] at h
    cases hb : (Nat.beq q.1 idx && Nat.beq q.2.2.1 ci) with
    | true =>
      rw [hb] at h
      have : q = e := by simpa using h
      subst this
      simp only [Bool.and_eq_true] at hb
      exact ⟨List.mem_cons_self, Nat.eq_of_beq_eq_true hb.1, Nat.eq_of_beq_eq_true hb.2⟩
    | false =>
      rw [hb] at h
      exact ⟨List.mem_cons_of_mem _ (cfindR_mem h).1, (cfindR_mem h).2⟩
theorem wsum_cat (ad : Nat → Nat) : ∀ st : List sv, ((st.map (cv ad)).map fun v => v.category).sum = wsum st
  | [] => rfl
  | v :: r => by
    simp only [List.map_cons, List.sum_cons, wsum]
    rw [cv_cat]
    have := wsum_cat ad r
    simp only [List.map_map] at this ⊢
    rw [this]
    cases cat2 v <;> rfl
theorem wsum_sl (ad : Nat → Nat) : ∀ st : List sv, (lg_sl (st.map (cv ad))).length = wsum st
  | [] => rfl
  | v :: r => by
    have := wsum_sl ad r
    simp only [lg_sl] at this ⊢
    simp only [List.map_cons, List.flatMap_cons, List.length_append, wsum]
    rw [this, cv_cat]
    cases cat2 v <;> rfl
/-- the addresses of a world are the same whatever it holds -/
theorem wl_D {A : Nat → Prop} {cA : ClassId} {ad : Nat → Nat} {σ : sS} {Y : List kd} (σ' : sS) (h : va_D A (wl cA ad σ Y)) : va_D A (wl cA ad σ' Y) := by
  have key : ∀ (σ1 : sS) (k : Nat) (q : Nat × va_E), (wl cA ad σ1 Y)[k]? = some q → q.1 = ad k ∧ ∃ e, Y[k]? = some e := by
    intro σ1 k q hk
    unfold wl at hk
    rw [List.getElem?_mapIdx] at hk
    cases hY : Y[k]? with
    | none => rw [hY] at hk; cases hk
    | some e =>
      rw [hY] at hk
      have : (ad k, ent cA ad σ1 k e) = q := by simpa using hk
      subst this
      exact ⟨rfl, e, rfl⟩
  refine ⟨fun i j p q hi hj hpq => ?_, fun k q hk => ?_⟩
  · obtain ⟨e1, k1, f1⟩ := key σ' i p hi
    obtain ⟨e2, k2, f2⟩ := key σ' j q hj
    exact h.1 i j _ _ (wl_get f1) (wl_get f2) (by rw [← e1, ← e2]; exact hpq)
  · obtain ⟨e1, k1, f1⟩ := key σ' k q hk
    rw [e1]
    exact h.2 k _ (wl_get f1)
end
section
/-! one step: from the weakest start of an instruction to Jd -/
section STEP
variable {p : Program} {l : Launch} {e : Env} {R : Room} {s : State} {m : MethodId} {args : Array Value} {below : List Frame} {meth : Method} {c : Code} {H : Heap} {locs : List Loc} {Qf : State → Prop}
variable {Y : List kd} {D : va_G} {cA : ClassId} {ad : Nat → Nat} {A : Nat → Prop} {σ : sS} {lsA : Array Slot} {pc : Nat} {st0 rest : List Value} {Q' : Option sv → sS → Prop} {as' : Array Value}
theorem call_go (hr : va_Run p l e R s m args below meth c H locs 0 0 0 0 (F0 m pc lsA st0) rest (sQc Y D cA ad (va_A (wl cA ad σ Y) H.size) Q' as') (va_A (wl cA ad σ Y) H.size)) (hS : va_S A s.heap H locs) (hD : va_D A (wl cA ad σ Y)) (hA : ∀ q : Nat, s.heap.size ≤ q → A q)
    (kk : ∀ (r : Option sv) (σ' : sS) (H1 : Heap) (locs1 : List Loc), (∀ v ∈ r, wtv Y v) → Q' r σ' → va_P D classes (wl cA ad σ' Y) H1 → va_S A s.heap H1 locs1 → W p l e R s m args below meth c H1 locs1 0 0 Qf (F0 m (pc + 3) lsA ((r.map (cv ad)).toList ++ rest))) : W p l e R s m args below meth c H locs 0 0 Qf (F0 m pc lsA st0) := by
  have hsub : ∀ q, va_A (wl cA ad σ Y) H.size q → A q := by
    intro q hq
    rcases hq with ⟨k, en, hk⟩ | hq
    · exact hD.2 k _ hk
    · exact hA q (Nat.le_trans hS.1 hq)
  intro T hT X
  obtain ⟨v, st₀, t, T', L, h0, X', hL, e1, e2, ⟨⟨r, σ', hv, hw, hq, hp⟩, hz, hk⟩, stp⟩ := hr T hT X
  cases hv
  rw [h0] at hz hk
  obtain ⟨t2, a1, b1⟩ := kk r σ' T'.heap (locs ++ L) hw hq (by rw [e1]; exact hp)
    ⟨Nat.le_trans hS.1 (by rw [e1]; exact hz), fun q h1 h2 => by rw [e1, hk q (Nat.lt_of_lt_of_le h1 hS.1) (fun z => h2 (hsub q z))]; exact hS.2.1 q h1 h2, fun q hq => by
      rcases List.mem_append.mp hq with h | h
      · exact hS.2.2 q h
      · exact hsub _ (hL q h)⟩ T' rfl X'
  exact ⟨t2, stp t2 a1, b1⟩
end STEP
theorem csT_ok {x : Int32} {d : Prop} {f : Nat → Prop} {pc : Nat} : ∀ (offs : List Int) (cs : List (Int32 × Nat)) (a : Int), csT pc a offs cs = true → wsw x d f cs → (∃ (j : Nat) (off : Int) (t : Nat), offs[j]? = some off ∧ x.toInt = a + j ∧ (pc : Int) + off = (t : Int) ∧ f t) ∨ ((∀ j : Nat, j < offs.length → x.toInt ≠ a + j) ∧ d)
  | [], [], a, _, h => Or.inr ⟨fun j hj => absurd hj (Nat.not_lt_zero j), h⟩
  | [], q :: r', a, h, _ => by simp [csT] at h
  | o :: r, [], a, h, _ => by simp [csT] at h
  | o :: r, q :: r', a, h, hw => by
    simp only [csT, Bool.and_eq_true, decide_eq_true_eq] at h
    obtain ⟨h1, h2, h3⟩ := h
    by_cases hx : x = q.1
    · exact Or.inl ⟨0, o, q.2, rfl, by rw [hx, h1]; simp, h2, hw.1 hx⟩
    · rcases csT_ok r r' (a + 1) h3 (hw.2 hx) with ⟨j, off, t, e1, e2, e3, e4⟩ | ⟨e1, e2⟩
      · exact Or.inl ⟨j + 1, off, t, by simpa using e1, by rw [e2]; push_cast; omega, e3, e4⟩
      · refine Or.inr ⟨fun j hj => ?_, e2⟩
        cases j with
        | zero =>
          intro hq
          exact hx (Int32.toInt_inj.mp (by rw [h1, hq]; simp))
        | succ j =>
          have := e1 j (by simpa using hj)
          intro hq
          apply this
          rw [hq]; push_cast; omega
theorem csL_ok {x : Int32} {d : Prop} {f : Nat → Prop} {pc : Nat} {dflt : Int} : ∀ (ps : List (Int × Int)) (cs : List (Int32 × Nat)), csL pc ps cs = true → wsw x d f cs → (∃ (off : Int) (t : Nat), Op.lookupswitch.offset ps dflt x.toInt = off ∧ (pc : Int) + off = (t : Int) ∧ f t) ∨ (Op.lookupswitch.offset ps dflt x.toInt = dflt ∧ d)
  | [], [], _, h => Or.inr ⟨rfl, h⟩
  | [], q :: r', h, _ => by simp [csL] at h
  | o :: r, [], h, _ => by simp [csL] at h
  | (oa, ob) :: r, q :: r', h, hw => by
    simp only [csL, Bool.and_eq_true, decide_eq_true_eq] at h
    obtain ⟨h1, h2, h3⟩ := h
    by_cases hx : x = q.1
    · refine Or.inl ⟨ob, q.2, ?_, h2, hw.1 hx⟩
      rw [Op.lookupswitch.offset_cons, if_pos (by rw [hx, h1])]
    · rw [lv_osw hx h1]
      exact csL_ok r r' h3 (hw.2 hx)
theorem i32_ge {x y : Int32} (h : y ≤ x) : ¬ x < y := by
  rw [Int32.le_iff_toInt_le] at h
  rw [Int32.lt_iff_toInt_lt]
  omega
theorem i32_nge {x y : Int32} (h : ¬ y ≤ x) : x < y := by
  rw [Int32.le_iff_toInt_le] at h
  rw [Int32.lt_iff_toInt_lt]
  omega
theorem wt_I {Y : List kd} {x : Int32} : wtv Y (.inl x) := trivial
theorem wt_J {Y : List kd} {x : Int64} : wtv Y (.inr (.inl x)) := trivial
theorem cat2_1 {ad : Nat → Nat} {v : sv} (h : cat2 v = false) : (cv ad v).category = 1 := by rw [cv_cat, h]; rfl
theorem take_rev (ad : Nat → Nat) (t : Nat) (st : List sv) : st.map (cv ad) = ((st.take t).reverse.map (cv ad)).reverse ++ (st.drop t).map (cv ad) := by
  rw [← List.map_reverse, List.reverse_reverse, ← List.map_append, List.take_append_drop]

theorem condT {b : Bool} {P : Prop} (h : cond b P False) : b = true ∧ P := by
  cases b with
  | false => exact h.elim
  | true => exact ⟨rfl, h⟩
theorem goodALL {ws : List Cond} (h : ∀ w ∈ ws, w ∈ ALL) : GoodIn ALL ws := fun w hw => ⟨h w hw, ALL_good w (h w hw)⟩
theorem drop_take {st : List sv} {n : Nat} {v : sv} {r : List sv} (h : st.drop n = v :: r) : (st.take (n + 1)).reverse = v :: (st.take n).reverse ∧ st.drop (n + 1) = r := by
  have h0 : st[n]? = some v := by
    have : (st.drop n)[0]? = some v := by rw [h]; rfl
    rw [List.getElem?_drop] at this
    simpa using this
  refine ⟨?_, ?_⟩
  · rw [List.take_add_one, h0]
    simp
  · have : st.drop (n + 1) = (st.drop n).drop 1 := by rw [List.drop_drop]
    rw [this, h]
    rfl
theorem take_revV (ad : Nat → Nat) {st : List sv} {n b ci : Nat} {r : List sv} (h : st.drop n = .inr (.inr (b, .inl ci)) :: r) : st.map (cv ad) = ((st.take n).reverse.map (cv ad)).reverse ++ .ref (ad b) :: (st.drop (n + 1)).map (cv ad) := by
  rw [(drop_take h).2]
  have := take_rev ad n st
  rw [h] at this
  exact this
theorem rV_out {ret : Option FieldType} {rest : List sv} {K : List sv → sS → Prop} {r : Option sv} {σ : sS} (h : rV ret rest K r σ) : K (r.toList ++ rest) σ := by
  unfold rV at h
  split at h
  · unfold rN at h
    split at h
    · exact h
    · exact h.elim
  · unfold rJ at h
    split at h
    · exact h
    · exact h.elim
  · unfold rI at h
    split at h
    · exact h
    · exact h.elim
section WCALL
variable {p : Program} {l : Launch} {en : Env} {R : Room} {s : State} {m : MethodId} {args : Array Value} {below : List Frame} {meth : Method} {c : Code} {H : Heap} {locs : List Loc} {Qf : State → Prop}
variable {Y : List kd} {D : va_G} {cA : ClassId} {ad : Nat → Nat} {A : Nat → Prop} {σ : sS} {lsA : Array Slot} {pc d t : Nat} {st : List sv} {e : sE} {K3 : List sv → sS → Prop}
theorem wcall_go (hy : yOK Y e) (h : wcall Y d e t st σ K3) (hY : lok Y) (hws : wtS Y st) (hD : va_D A (wl cA ad σ Y)) (hS : va_S A s.heap H locs) (hA : ∀ q : Nat, s.heap.size ≤ q → A q)
    (run : ∀ (Q' : Option sv → sS → Prop), Met l e.2.2.2.1.1 (wsY e.2.2.2.1) (rmD d) (sPc Y D cA ad σ (st.take t).reverse H.size) (sQc Y D cA ad (va_A (wl cA ad σ Y) H.size) Q') 0 0 (va_A (wl cA ad σ Y) H.size) →
      (2 * (F0 m pc lsA (st.map (cv ad))).monitorRoom + (((st.drop t).map (cv ad)).map fun v => v.category).sum ≤ 8 ∧ ((st.take t).reverse.map (cv ad)).length = t ∧ t ≤ st.length) →
      va_Run p l en R s m args below meth c H locs 0 0 0 0 (F0 m pc lsA (st.map (cv ad))) ((st.drop t).map (cv ad)) (sQc Y D cA ad (va_A (wl cA ad σ Y) H.size) Q' ((st.take t).reverse.map (cv ad)).toArray) (va_A (wl cA ad σ Y) H.size))
    (go3 : ∀ (st' : List sv) (σ' : sS), K3 st' σ' → ∀ (H1 : Heap) (locs1 : List Loc), va_P D classes (wl cA ad σ' Y) H1 → va_S A s.heap H1 locs1 → wtS Y st' → W p l en R s m args below meth c H1 locs1 0 0 Qf (F0 m (pc + 3) lsA (st'.map (cv ad)))) :
    W p l en R s m args below meth c H locs 0 0 Qf (F0 m pc lsA (st.map (cv ad))) := by
  unfold wcall at h
  cases hc : (Nat.ble t st.length && (Nat.ble (wsum (st.drop t)) 8 && Nat.ble (wsum (st.take t).reverse) e.2.2.2.1.2.2.1)) with
  | false => rw [hc] at h; exact h.elim
  | true =>
  rw [hc] at h
  simp only [Bool.and_eq_true] at hc
  have c1 := Nat.le_of_ble_eq_true hc.1
  have c2 := Nat.le_of_ble_eq_true hc.2.1
  have c3 := Nat.le_of_ble_eq_true hc.2.2
  have hwa : wtS Y (st.take t).reverse := fun v hv => hws v (List.mem_of_mem_take (List.mem_reverse.mp hv))
  obtain ⟨y1, y2, y3, y4, y5, hpr⟩ := hy
  have hcall : ∃ Q' : Option sv → sS → Prop, CJ Y d e.2.2.2.1 (st.take t).reverse σ Q' ∧ ∀ r σ', Q' r σ' → K3 (r.toList ++ st.drop t) σ' := by
    cases hp : e.2.2.2.2.2.2.2 (st.take t).reverse σ with
    | none =>
      rw [hp] at h
      exact ⟨_, h, fun r σ' hr => rV_out hr⟩
    | some q =>
      obtain ⟨r, σ'⟩ := q
      rw [hp] at h
      exact ⟨fun r0 σ0 => r0 = r ∧ σ0 = σ', hpr _ _ _ _ hp hwa d _ ⟨rfl, rfl⟩, fun r0 σ0 hr => by obtain ⟨rfl, rfl⟩ := hr; exact h⟩
  obtain ⟨Q', hcj, hK⟩ := hcall
  have hM := met_of hcj y1 hY hwa l D cA ad H.size (by rw [wsum_sl]; exact c3)
  have hr := run Q' hM ⟨lv_room (by rw [wsum_cat]; exact c2), by simp [c1], c1⟩
  refine call_go hr hS hD hA (fun r σ' H1 locs1 hwr hq hP1 hS1 => ?_)
  have hcv : (r.map (cv ad)).toList ++ (st.drop t).map (cv ad) = (r.toList ++ st.drop t).map (cv ad) := by
    cases r <;> simp
  rw [hcv]
  exact go3 _ _ (hK r σ' hq) H1 locs1 hP1 hS1 (fun v hv => by
    rcases List.mem_append.mp hv with h1 | h1
    · exact hwr v (by simpa using h1)
    · exact hws v (List.mem_of_mem_drop h1))
end WCALL
set_option maxHeartbeats 4000000 in
set_option maxRecDepth 100000 in
theorem wp1_ok {Y : List kd} {d : Nat} {y : sY} {ft : List (Nat × Nat × Nat × sF)} {ct : List sE} (hF : ∀ q ∈ ft, fOK y.1.cls q) (hC : ∀ q ∈ ct, eOK Y y.1.cls q) {e : sT} (hT : sTok y.1.cls y.2.1 e) {ls : sL} {st : List sv} {σ : sS} {K : Nat → sL → List sv → sS → Prop} {Q : Option sv → sS → Prop}
    (h : wp1 Y d y.2.2.1 y.2.2.2 ft ct e ls st σ K Q) (hK : ∀ pc ls st σ, K pc ls st σ → Jd Y d y pc ls st σ Q) : Jd Y d y e.1 ls st σ Q := by
  intro l D cA ad A p en R s m args below meth c hCx hA H locs lsA hP hD hS hl hw hws
  obtain ⟨hx, hb, hml, hown, hr, hlk, hts, hN, hKK, hfr, hlo, hY⟩ := id hCx
  have go : ∀ (pc : Nat) (ls : sL) (st : List sv) (σ : sS), K pc ls st σ → ∀ (H : Heap) (locs : List Loc) (lsA : Array Slot), va_P D classes (wl cA ad σ Y) H → va_D A (wl cA ad σ Y) → va_S A s.heap H locs → lv_has lsA y.2.2.1 (cvL ad ls) → wtL Y ls → wtS Y st → W p l en R s m args below meth c H locs 0 0 (MQ below (sQc Y D cA ad A Q) args s 0 0 A) (F0 m pc lsA (st.map (cv ad))) := fun pc ls st σ hk => hK pc ls st σ hk l D cA ad A p en R s m args below meth c hCx hA
  obtain ⟨pc, len, i, tgt, cs, k1, k2⟩ := e
  obtain ⟨hdg, hside⟩ := hT
  have hlen1 : ∀ n : Nat, Nat.beq len n = true → len = n := fun n h => Nat.eq_of_beq_eq_true h
  cases i with
  | iconst n =>
    obtain ⟨hk1, hln⟩ := Bool.and_eq_true_iff.mp hside
    have hln := hlen1 1 hln
    subst hln
    have hk1 := of_decide_eq_true hk1
    exact lv_iconst hx hb hdg hk1 (go _ _ _ _ h H locs lsA hP hD hS hl hw (wtS_cons wt_I hws))
  | bipush n =>
    obtain ⟨hk1, hln⟩ := Bool.and_eq_true_iff.mp hside
    have hln := hlen1 2 hln
    subst hln
    have hk1 := of_decide_eq_true hk1
    exact lv_bipush hx hb hdg hk1 (go _ _ _ _ h H locs lsA hP hD hS hl hw (wtS_cons wt_I hws))
  | sipush n =>
    obtain ⟨hk1, hln⟩ := Bool.and_eq_true_iff.mp hside
    have hln := hlen1 3 hln
    subst hln
    have hk1 := of_decide_eq_true hk1
    exact lv_sipush hx hb hdg hk1 (go _ _ _ _ h H locs lsA hP hD hS hl hw (wtS_cons wt_I hws))
  | ldc i =>
    obtain ⟨hk1, hln⟩ := Bool.and_eq_true_iff.mp hside
    have hln := hlen1 2 hln
    subst hln
    have hk1 := of_decide_eq_true hk1
    exact lv_ldc hx hb hown (hts _ (CK_in _ hk1)) hdg (go _ _ _ _ h H locs lsA hP hD hS hl hw (wtS_cons wt_I hws))
  | ldc_w i =>
    obtain ⟨hk1, hln⟩ := Bool.and_eq_true_iff.mp hside
    have hln := hlen1 3 hln
    subst hln
    have hk1 := of_decide_eq_true hk1
    exact lv_ldcw hx hb hown (hts _ (CK_in _ hk1)) hdg (go _ _ _ _ h H locs lsA hP hD hS hl hw (wtS_cons wt_I hws))
  | lconst n =>
    obtain ⟨hk1, hln⟩ := Bool.and_eq_true_iff.mp hside
    have hln := hlen1 1 hln
    subst hln
    have hk1 := of_decide_eq_true hk1
    exact lv_lconst hx hb hdg hk1 (go _ _ _ _ h H locs lsA hP hD hS hl hw (wtS_cons wt_J hws))
  | ldc2_w i =>
    have hside : (decide ((y.1.cls, i, k2) ∈ CKL) && Nat.beq len 3) = true := hside
    obtain ⟨hk1, hln⟩ := Bool.and_eq_true_iff.mp hside
    have hln := hlen1 3 hln
    subst hln
    have hk1 := of_decide_eq_true hk1
    exact lv_ldc2 hx hb hown (hts _ (CKL_in _ hk1)) hdg (go _ _ _ _ h H locs lsA hP hD hS hl hw (wtS_cons wt_J hws))
  | iload_n k =>
    have hln := hlen1 1 hside
    subst hln
    obtain ⟨x, hg, hk⟩ := wgI_inv h
    exact lv_iload_n hx hb hdg rfl (lv_gl hl hg) (go _ _ _ _ hk H locs lsA hP hD hS hl hw (wtS_cons wt_I hws))
  | iload k =>
    have hln := hlen1 2 hside
    subst hln
    obtain ⟨x, hg, hk⟩ := wgI_inv h
    exact lv_iload hx hb hdg (lv_gl hl hg) (go _ _ _ _ hk H locs lsA hP hD hS hl hw (wtS_cons wt_I hws))
  | lload_n k =>
    have hln := hlen1 1 hside
    subst hln
    obtain ⟨x, hg, hk⟩ := wgJ_inv h
    exact lv_lload_n hx hb hdg rfl (lv_gl hl hg) (go _ _ _ _ hk H locs lsA hP hD hS hl hw (wtS_cons wt_J hws))
  | lload k =>
    have hln := hlen1 2 hside
    subst hln
    obtain ⟨x, hg, hk⟩ := wgJ_inv h
    exact lv_lload hx hb hdg (lv_gl hl hg) (go _ _ _ _ hk H locs lsA hP hD hS hl hw (wtS_cons wt_J hws))
  | aload_n k =>
    have hln := hlen1 1 hside
    subst hln
    have h2 : wgR k.val ls (fun b kk => K (pc + 1) ls (.inr (.inr (b, kk)) :: st) σ) := h
    obtain ⟨b, kk, hg, hk⟩ := wgR_inv h2
    exact lv_aload_n hx hb hdg rfl (lv_gl hl hg) (go _ _ _ _ hk H locs lsA hP hD hS hl hw (wtS_cons (wt_gl hw hg) hws))
  | aload k =>
    have hln := hlen1 2 hside
    subst hln
    have h2 : wgR k ls (fun b kk => K (pc + 2) ls (.inr (.inr (b, kk)) :: st) σ) := h
    obtain ⟨b, kk, hg, hk⟩ := wgR_inv h2
    exact lv_aload hx hb hdg (lv_gl hl hg) (go _ _ _ _ hk H locs lsA hP hD hS hl hw (wtS_cons (wt_gl hw hg) hws))
  | istore_n k =>
    have hln := hlen1 1 hside
    subst hln
    obtain ⟨x, r, rfl, hk⟩ := w1I_inv h
    replace hk := condT hk
    have hn : k.val < y.2.2.1 := Nat.le_of_ble_eq_true hk.1
    exact lv_istore_n hx hb hdg rfl hl hn rfl (fun ls2 hl2 => go _ _ _ _ hk.2 H locs ls2 hP hD hS (lv_has_mono hl2 sl1_mem) (wt_sl1 hw wt_I) (wtS_tail hws))
  | istore k =>
    have hln := hlen1 2 hside
    subst hln
    obtain ⟨x, r, rfl, hk⟩ := w1I_inv h
    replace hk := condT hk
    have hn : k < y.2.2.1 := Nat.le_of_ble_eq_true hk.1
    exact lv_istore hx hb hdg hl hn rfl (fun ls2 hl2 => go _ _ _ _ hk.2 H locs ls2 hP hD hS (lv_has_mono hl2 sl1_mem) (wt_sl1 hw wt_I) (wtS_tail hws))
  | lstore_n k =>
    have hln := hlen1 1 hside
    subst hln
    obtain ⟨x, r, rfl, hk⟩ := w1J_inv h
    replace hk := condT hk
    have hn : k.val + 1 < y.2.2.1 := Nat.le_of_ble_eq_true hk.1
    exact lv_lstore_n hx hb hdg rfl hl hn rfl (fun ls2 hl2 => go _ _ _ _ hk.2 H locs ls2 hP hD hS (lv_has_mono hl2 sl2_mem) (wt_sl2 hw wt_J) (wtS_tail hws))
  | lstore k =>
    have hln := hlen1 2 hside
    subst hln
    obtain ⟨x, r, rfl, hk⟩ := w1J_inv h
    replace hk := condT hk
    have hn : k + 1 < y.2.2.1 := Nat.le_of_ble_eq_true hk.1
    exact lv_lstore hx hb hdg hl hn rfl (fun ls2 hl2 => go _ _ _ _ hk.2 H locs ls2 hP hD hS (lv_has_mono hl2 sl2_mem) (wt_sl2 hw wt_J) (wtS_tail hws))
  | iinc i n =>
    obtain ⟨hk1, hln⟩ := Bool.and_eq_true_iff.mp hside
    have hln := hlen1 3 hln
    subst hln
    have hk1 := of_decide_eq_true hk1
    obtain ⟨x, hg, hk⟩ := wgI_inv h
    replace hk := condT hk
    have hn : i < y.2.2.1 := Nat.le_of_ble_eq_true hk.1
    obtain ⟨j, hj, hj2⟩ := List.mem_iff_getElem?.mp (cvL_mem (ad := ad) (gl_mem ls i _ hg)) |> fun ⟨j, hj⟩ => (⟨j, hj, trivial⟩ : ∃ j, (cvL ad ls)[j]? = some (i, cv ad (.inl x)) ∧ True)
    exact lv_iinc (k := j) (x := x) (v := x + k1) hx hb hdg hl hj (by rw [hk1]) hn rfl (fun ls2 hl2 => go _ _ _ _ hk.2 H locs ls2 hP hD hS (lv_has_mono hl2 (sl1_mem (v := .inl (x + k1)))) (wt_sl1 hw wt_I) hws)
  | iadd =>
    have hln := hlen1 1 hside
    subst hln
    obtain ⟨x, z, r, rfl, hk⟩ := w2I_inv h
    exact lv_iadd hx hb hdg (go _ _ _ _ hk H locs lsA hP hD hS hl hw (wtS_cons wt_I (wtS_tail (wtS_tail hws))))
  | isub =>
    have hln := hlen1 1 hside
    subst hln
    obtain ⟨x, z, r, rfl, hk⟩ := w2I_inv h
    exact lv_isub hx hb hdg (go _ _ _ _ hk H locs lsA hP hD hS hl hw (wtS_cons wt_I (wtS_tail (wtS_tail hws))))
  | imul =>
    have hln := hlen1 1 hside
    subst hln
    obtain ⟨x, z, r, rfl, hk⟩ := w2I_inv h
    exact lv_imul hx hb hdg (go _ _ _ _ hk H locs lsA hP hD hS hl hw (wtS_cons wt_I (wtS_tail (wtS_tail hws))))
  | iand =>
    have hln := hlen1 1 hside
    subst hln
    obtain ⟨x, z, r, rfl, hk⟩ := w2I_inv h
    exact lv_iand hx hb hdg (go _ _ _ _ hk H locs lsA hP hD hS hl hw (wtS_cons wt_I (wtS_tail (wtS_tail hws))))
  | ior =>
    have hln := hlen1 1 hside
    subst hln
    obtain ⟨x, z, r, rfl, hk⟩ := w2I_inv h
    exact lv_ior hx hb hdg (go _ _ _ _ hk H locs lsA hP hD hS hl hw (wtS_cons wt_I (wtS_tail (wtS_tail hws))))
  | ishl =>
    have hln := hlen1 1 hside
    subst hln
    obtain ⟨x, z, r, rfl, hk⟩ := w2I_inv h
    exact lv_ishl hx hb hdg (go _ _ _ _ hk H locs lsA hP hD hS hl hw (wtS_cons wt_I (wtS_tail (wtS_tail hws))))
  | ishr =>
    have hln := hlen1 1 hside
    subst hln
    obtain ⟨x, z, r, rfl, hk⟩ := w2I_inv h
    exact lv_ishr hx hb hdg (go _ _ _ _ hk H locs lsA hP hD hS hl hw (wtS_cons wt_I (wtS_tail (wtS_tail hws))))
  | iushr =>
    have hln := hlen1 1 hside
    subst hln
    obtain ⟨x, z, r, rfl, hk⟩ := w2I_inv h
    exact lv_iushr hx hb hdg rfl (go _ _ _ _ hk H locs lsA hP hD hS hl hw (wtS_cons wt_I (wtS_tail (wtS_tail hws))))
  | idiv =>
    have hln := hlen1 1 hside
    subst hln
    obtain ⟨x, z, r, rfl, hk⟩ := w2I_inv h
    exact lv_idiv hx hb hdg hk.1 (go _ _ _ _ hk.2 H locs lsA hP hD hS hl hw (wtS_cons wt_I (wtS_tail (wtS_tail hws))))
  | irem =>
    have hln := hlen1 1 hside
    subst hln
    obtain ⟨x, z, r, rfl, hk⟩ := w2I_inv h
    exact lv_irem hx hb hdg hk.1 (go _ _ _ _ hk.2 H locs lsA hP hD hS hl hw (wtS_cons wt_I (wtS_tail (wtS_tail hws))))
  | ineg =>
    have hln := hlen1 1 hside
    subst hln
    obtain ⟨x, r, rfl, hk⟩ := w1I_inv h
    exact lv_ineg hx hb hdg (go _ _ _ _ hk H locs lsA hP hD hS hl hw (wtS_cons wt_I (wtS_tail hws)))
  | i2l =>
    have hln := hlen1 1 hside
    subst hln
    obtain ⟨x, r, rfl, hk⟩ := w1I_inv h
    exact lv_i2l hx hb hdg rfl (go _ _ _ _ hk H locs lsA hP hD hS hl hw (wtS_cons wt_J (wtS_tail hws)))
  | ladd =>
    have hln := hlen1 1 hside
    subst hln
    obtain ⟨x, z, r, rfl, hk⟩ := w2J_inv h
    exact lv_ladd hx hb hdg (go _ _ _ _ hk H locs lsA hP hD hS hl hw (wtS_cons wt_J (wtS_tail (wtS_tail hws))))
  | lsub =>
    have hln := hlen1 1 hside
    subst hln
    obtain ⟨x, z, r, rfl, hk⟩ := w2J_inv h
    exact lv_lsub hx hb hdg (go _ _ _ _ hk H locs lsA hP hD hS hl hw (wtS_cons wt_J (wtS_tail (wtS_tail hws))))
  | lmul =>
    have hln := hlen1 1 hside
    subst hln
    obtain ⟨x, z, r, rfl, hk⟩ := w2J_inv h
    exact lv_lmul hx hb hdg (go _ _ _ _ hk H locs lsA hP hD hS hl hw (wtS_cons wt_J (wtS_tail (wtS_tail hws))))
  | ldiv =>
    have hln := hlen1 1 hside
    subst hln
    obtain ⟨x, z, r, rfl, hk⟩ := w2J_inv h
    exact lv_ldiv hx hb hdg hk.1 (go _ _ _ _ hk.2 H locs lsA hP hD hS hl hw (wtS_cons wt_J (wtS_tail (wtS_tail hws))))
  | lrem =>
    have hln := hlen1 1 hside
    subst hln
    obtain ⟨x, z, r, rfl, hk⟩ := w2J_inv h
    exact lv_lrem hx hb hdg hk.1 (go _ _ _ _ hk.2 H locs lsA hP hD hS hl hw (wtS_cons wt_J (wtS_tail (wtS_tail hws))))
  | lcmp =>
    have hln := hlen1 1 hside
    subst hln
    obtain ⟨x, z, r, rfl, hk⟩ := w2J_inv h
    exact W.lcmp hx hb hdg (go _ _ _ _ hk H locs lsA hP hD hS hl hw (wtS_cons wt_I (wtS_tail (wtS_tail hws))))
  | dup =>
    have hln := hlen1 1 hside
    subst hln
    match st, hws, h with
    | v :: r, hws, h =>
      cases hv : cat2 v with
      | true => simp only [wp1, hv] at h; exact h.elim
      | false =>
        simp only [wp1, hv] at h
        exact lv_dup hx hb hdg (cat2_1 hv) (go _ _ _ _ h H locs lsA hP hD hS hl hw (wtS_cons (wtS_head hws) hws))
    | [], hws, h => exact False.elim h
  | pop =>
    have hln := hlen1 1 hside
    subst hln
    match st, hws, h with
    | v :: r, hws, h =>
      cases hv : cat2 v with
      | true => simp only [wp1, hv] at h; exact h.elim
      | false =>
        simp only [wp1, hv] at h
        exact lv_pop hx hb hdg (cat2_1 hv) (go _ _ _ _ h H locs lsA hP hD hS hl hw (wtS_tail hws))
    | [], hws, h => exact False.elim h
  | dup2 =>
    have hln := hlen1 1 hside
    subst hln
    match st, hws, h with
    | v :: w :: r, hws, h =>
      cases hv : cat2 v with
      | true => simp only [wp1, hv, Bool.true_or] at h; exact h.elim
      | false =>
        cases hw2 : cat2 w with
        | true => simp only [wp1, hv, hw2, Bool.false_or] at h; exact h.elim
        | false =>
          simp only [wp1, hv, hw2, Bool.false_or] at h
          exact lv_dup2_11 hx hb hdg (cat2_1 hv) (cat2_1 hw2) (go _ _ _ _ h H locs lsA hP hD hS hl hw (wtS_cons (wtS_head hws) (wtS_cons (wtS_head (wtS_tail hws)) hws)))
    | [_], hws, h => exact False.elim h
    | [], hws, h => exact False.elim h
  | goto o =>
    obtain ⟨hk1, hln⟩ := Bool.and_eq_true_iff.mp hside
    have hln := hlen1 3 hln
    subst hln
    have hk1 := of_decide_eq_true hk1
    exact lv_goto hx hb hdg hk1 (go _ _ _ _ h H locs lsA hP hD hS hl hw hws)
  | ifnull o =>
    obtain ⟨hk1, hln⟩ := Bool.and_eq_true_iff.mp hside
    have hln := hlen1 3 hln
    subst hln
    have hk1 := of_decide_eq_true hk1
    have h2 : w1R st (fun _ _ r => K (pc + 3) ls r σ) := h
    obtain ⟨b, k, r, rfl, hk⟩ := w1R_inv h2
    exact lv_ifnull hx hb hdg (go _ _ _ _ hk H locs lsA hP hD hS hl hw (wtS_tail hws))
  | ifnonnull o =>
    obtain ⟨hk1, hln⟩ := Bool.and_eq_true_iff.mp hside
    have hln := hlen1 3 hln
    subst hln
    have hk1 := of_decide_eq_true hk1
    have h2 : w1R st (fun _ _ r => K tgt ls r σ) := h
    obtain ⟨b, k, r, rfl, hk⟩ := w1R_inv h2
    exact lv_ifnonnull hx hb hdg hk1 (go _ _ _ _ hk H locs lsA hP hD hS hl hw (wtS_tail hws))
  | if_icmp cnd o =>
    obtain ⟨hk1, hln⟩ := Bool.and_eq_true_iff.mp hside
    have hln := hlen1 3 hln
    subst hln
    have hk1 := of_decide_eq_true hk1
    cases cnd with
    | eq =>
      obtain ⟨x, z, r, rfl, hk⟩ := w2I_inv h
      exact lv_icmp_eq hx hb hdg hk1 (fun z => (go _ _ _ _ (hk.1 z) H locs lsA hP hD hS hl hw (wtS_tail (wtS_tail hws)))) (fun z => (go _ _ _ _ (hk.2 z) H locs lsA hP hD hS hl hw (wtS_tail (wtS_tail hws))))
    | ne =>
      obtain ⟨x, z, r, rfl, hk⟩ := w2I_inv h
      exact lv_icmp_ne hx hb hdg hk1 (fun z => (go _ _ _ _ (hk.1 z) H locs lsA hP hD hS hl hw (wtS_tail (wtS_tail hws)))) (fun z => (go _ _ _ _ (hk.2 z) H locs lsA hP hD hS hl hw (wtS_tail (wtS_tail hws))))
    | lt =>
      obtain ⟨x, z, r, rfl, hk⟩ := w2I_inv h
      exact lv_icmp_lt hx hb hdg hk1 (fun z => (go _ _ _ _ (hk.1 z) H locs lsA hP hD hS hl hw (wtS_tail (wtS_tail hws)))) (fun z => (go _ _ _ _ (hk.2 z) H locs lsA hP hD hS hl hw (wtS_tail (wtS_tail hws))))
    | ge =>
      obtain ⟨x, z, r, rfl, hk⟩ := w2I_inv h
      exact lv_icmp_ge hx hb hdg hk1 (fun z => (go _ _ _ _ (hk.1 (i32_ge z)) H locs lsA hP hD hS hl hw (wtS_tail (wtS_tail hws)))) (fun z => (go _ _ _ _ (hk.2 (i32_nge z)) H locs lsA hP hD hS hl hw (wtS_tail (wtS_tail hws))))
    | gt =>
      obtain ⟨x, z, r, rfl, hk⟩ := w2I_inv h
      exact lv_icmp_gt hx hb hdg hk1 (fun z => (go _ _ _ _ (hk.1 z) H locs lsA hP hD hS hl hw (wtS_tail (wtS_tail hws)))) (fun z => (go _ _ _ _ (hk.2 z) H locs lsA hP hD hS hl hw (wtS_tail (wtS_tail hws))))
    | le =>
      obtain ⟨x, z, r, rfl, hk⟩ := w2I_inv h
      exact lv_icmp_le hx hb hdg hk1 (fun z => (go _ _ _ _ (hk.1 (i32_ge z)) H locs lsA hP hD hS hl hw (wtS_tail (wtS_tail hws)))) (fun z => (go _ _ _ _ (hk.2 (i32_nge z)) H locs lsA hP hD hS hl hw (wtS_tail (wtS_tail hws))))
  | ifCond cnd o =>
    obtain ⟨hk1, hln⟩ := Bool.and_eq_true_iff.mp hside
    have hln := hlen1 3 hln
    subst hln
    have hk1 := of_decide_eq_true hk1
    cases cnd with
    | eq =>
      obtain ⟨x, r, rfl, hk⟩ := w1I_inv h
      exact lv_if_eq hx hb hdg hk1 (fun z => (go _ _ _ _ (hk.1 z) H locs lsA hP hD hS hl hw (wtS_tail hws))) (fun z => (go _ _ _ _ (hk.2 z) H locs lsA hP hD hS hl hw (wtS_tail hws)))
    | ne =>
      obtain ⟨x, r, rfl, hk⟩ := w1I_inv h
      exact lv_if_ne hx hb hdg hk1 (fun z => (go _ _ _ _ (hk.1 z) H locs lsA hP hD hS hl hw (wtS_tail hws))) (fun z => (go _ _ _ _ (hk.2 z) H locs lsA hP hD hS hl hw (wtS_tail hws)))
    | lt =>
      obtain ⟨x, r, rfl, hk⟩ := w1I_inv h
      exact lv_if_lt hx hb hdg hk1 (fun z => (go _ _ _ _ (hk.1 z) H locs lsA hP hD hS hl hw (wtS_tail hws))) (fun z => (go _ _ _ _ (hk.2 z) H locs lsA hP hD hS hl hw (wtS_tail hws)))
    | ge =>
      obtain ⟨x, r, rfl, hk⟩ := w1I_inv h
      exact lv_if_ge hx hb hdg hk1 (fun z => (go _ _ _ _ (hk.1 (i32_ge z)) H locs lsA hP hD hS hl hw (wtS_tail hws))) (fun z => (go _ _ _ _ (hk.2 (i32_nge z)) H locs lsA hP hD hS hl hw (wtS_tail hws)))
    | gt =>
      obtain ⟨x, r, rfl, hk⟩ := w1I_inv h
      exact lv_if_gt hx hb hdg hk1 (fun z => (go _ _ _ _ (hk.1 z) H locs lsA hP hD hS hl hw (wtS_tail hws))) (fun z => (go _ _ _ _ (hk.2 z) H locs lsA hP hD hS hl hw (wtS_tail hws)))
    | le =>
      obtain ⟨x, r, rfl, hk⟩ := w1I_inv h
      exact lv_if_le hx hb hdg hk1 (fun z => (go _ _ _ _ (hk.1 (i32_ge z)) H locs lsA hP hD hS hl hw (wtS_tail hws))) (fun z => (go _ _ _ _ (hk.2 (i32_nge z)) H locs lsA hP hD hS hl hw (wtS_tail hws)))
  | tableswitch dd lo hi offs =>
    obtain ⟨x, r, rfl, hk⟩ := w1I_inv h
    obtain ⟨h1, h23⟩ := Bool.and_eq_true_iff.mp hside
    obtain ⟨h2, h3⟩ := Bool.and_eq_true_iff.mp h23
    have h1 := of_decide_eq_true h1
    have h2 := of_decide_eq_true h2
    rcases csT_ok offs.toList cs lo h3 hk with ⟨j, off, t, e1, e2, e3, e4⟩ | ⟨e1, e2⟩
    · have hj : j < offs.size := by
        have := (List.getElem?_eq_some_iff.mp e1).1
        simpa using this
      have e5 : offs[(x.toInt - lo).toNat]? = some off := by
        have : (x.toInt - lo).toNat = j := by omega
        rw [this, ← Array.getElem?_toList]
        exact e1
      exact lv_tableIn hx hb hdg (by omega) (by omega) e5 e3 (go _ _ _ _ e4 H locs lsA hP hD hS hl hw (wtS_tail hws))
    · have hout : x.toInt < lo ∨ hi < x.toInt := by
        by_cases q1 : x.toInt < lo
        · exact Or.inl q1
        · by_cases q2 : hi < x.toInt
          · exact Or.inr q2
          · exfalso
            refine e1 (x.toInt - lo).toNat ?_ ?_
            · simp only [Array.length_toList]; omega
            · omega
      exact lv_tableOut hx hb hdg hout h1 (go _ _ _ _ e2 H locs lsA hP hD hS hl hw (wtS_tail hws))
  | lookupswitch dd ps =>
    obtain ⟨x, r, rfl, hk⟩ := w1I_inv h
    obtain ⟨h1, h23⟩ := Bool.and_eq_true_iff.mp hside
    obtain ⟨h2, h3⟩ := Bool.and_eq_true_iff.mp h23
    have h1 := of_decide_eq_true h1
    rcases csL_ok (dflt := dd) ps.toList cs h3 hk with ⟨off, t, e1, e2, e3⟩ | ⟨e1, e2⟩
    · exact lv_lookup hx hb hdg h2 e1 e2 (go _ _ _ _ e3 H locs lsA hP hD hS hl hw (wtS_tail hws))
    · exact lv_lookup hx hb hdg h2 e1 h1 (go _ _ _ _ e2 H locs lsA hP hD hS hl hw (wtS_tail hws))
  | arraylength =>
    have hln := hlen1 1 hside
    subst hln
    obtain ⟨b, n, r, rfl, hk⟩ := wA_inv h
    have hb1 : Y[b]? = some (.inr n) := wtS_head hws
    exact va_alen hx hb hKK hP b 0 (wl_get hb1) rfl rfl hdg (go _ _ _ _ hk H locs lsA hP hD hS hl hw (wtS_cons wt_I (wtS_tail hws)))
  | iaload =>
    have hln := hlen1 1 hside
    subst hln
    obtain ⟨i, b, n, r, rfl, hin, hk⟩ := wIA_inv h
    have hb1 : Y[b]? = some (.inr n) := wtS_head (wtS_tail hws)
    exact va_iald hx hb hKK hP b 0 (wl_get hb1) rfl hin hdg (go _ _ _ _ hk H locs lsA hP hD hS hl hw (wtS_cons wt_I (wtS_tail (wtS_tail hws))))
  | iastore =>
    have hln := hlen1 1 hside
    subst hln
    obtain ⟨x, i, b, n, r, rfl, hin, hk⟩ := wIIA_inv h
    have hb1 : Y[b]? = some (.inr n) := wtS_head (wtS_tail (wtS_tail hws))
    have hset := wl_set (cA := cA) (ad := ad) (σ := σ) (σ' := up σ b i.toNatClampNeg x) hb1 (fun c hc => up_ne σ _ _ hc) (x := .inl (cA, n, .inl (upd (σ b) i.toNatClampNeg x))) (by simp only [ent, up_same])
    refine va_iast hx hb hKK hP hD hS b 0 (wl_get hb1) rfl hin hdg ?_
    intro H1 locs1 hP1 hD1 hS1
    rw [hset] at hP1 hD1
    exact go _ _ _ _ hk H1 locs1 lsA hP1 hD1 hS1 hl hw (wtS_tail (wtS_tail (wtS_tail hws)))
  | ireturn =>
    have hln := hlen1 1 hside
    subst hln
    match st, hws, h with
    | [.inl x], hws, h =>
      have hend : ∀ t : State, t.heap = H → s.WarmedH t.vm → Q (some (.inl x)) σ → sQc Y D cA ad A Q args s (.returned (some (.int x))) t := fun t ht hW hq => ⟨⟨some (.inl x), σ, rfl, (fun v hv => by cases hv; trivial), hq, by rw [ht]; exact hP⟩, hS.F ht⟩
      have h : (match y.2.2.2 with
        | some .int => Q (some (.inl x)) σ
        | some .boolean => (x = 0 ∨ x = 1) ∧ Q (some (.inl x)) σ
        | _ => False) := h
      split at h
      · rename_i hret
        exact W.iret hx hb (hr.trans hret) (fun t ht hW => hend t ht hW h) hS.2.2 hdg hlk
      · rename_i hret
        exact W.zret hx hb (hr.trans hret) (by rcases h.1 with rfl | rfl <;> rfl) (fun t ht hW => hend t ht hW h.2) hS.2.2 hdg hlk
      · exact h.elim
  | lreturn =>
    have hln := hlen1 1 hside
    subst hln
    match st, hws, h with
    | [.inr (.inl x)], hws, h =>
      have hend : ∀ t : State, t.heap = H → s.WarmedH t.vm → Q (some (.inr (.inl x))) σ → sQc Y D cA ad A Q args s (.returned (some (.long x))) t := fun t ht hW hq => ⟨⟨some (.inr (.inl x)), σ, rfl, (fun v hv => by cases hv; trivial), hq, by rw [ht]; exact hP⟩, hS.F ht⟩
      have h : (match [(.inr (.inl x) : sv)], y.2.2.2 with
        | [.inr (.inl x)], some .long => Q (some (.inr (.inl x))) σ
        | _, _ => False) := h
      split at h
      · rename_i z hz hret
        cases hz
        exact W.lret hx hb (hr.trans hret) (fun t ht hW => hend t ht hW h) hS.2.2 hdg hlk
      · exact h.elim
  | return_ =>
    have hln := hlen1 1 hside
    subst hln
    match st, hws, h with
    | [], hws, h =>
      have hend : ∀ t : State, t.heap = H → s.WarmedH t.vm → Q none σ → sQc Y D cA ad A Q args s (.returned none) t := fun t ht hW hq => ⟨⟨none, σ, rfl, (fun v hv => by cases hv), hq, by rw [ht]; exact hP⟩, hS.F ht⟩
      have h : (match ([] : List sv), y.2.2.2 with
        | [], none => Q none σ
        | _, _ => False) := h
      split at h
      · rename_i hret
        exact W.vret hx hb (hr.trans hret) (fun t ht hW => hend t ht hW h) hS.2.2 hdg hlk
      · exact h.elim
  | getfield idx =>
    have hln := hlen1 3 hside
    subst hln
    obtain ⟨b, ci, r, rfl, hk⟩ := w1O_inv h
    have hb1 : Y[b]? = some (.inl ci) := wtS_head hws
    have hfd : ∀ (k : Nat) (sf : sF), ffind idx ci ft = some (k, sf) → (∀ (v : sv), wtv Y v → cv ad v = fv ad σ b k sf → K (pc + 3) ls (v :: r) σ → W p l en R s m args below meth c H locs 0 0 (MQ below (sQc Y D cA ad A Q) args s 0 0 A) (F0 m pc lsA ((.inr (.inr (b, .inl ci)) :: r : List sv).map (cv ad)))) := by
      intro k sf hfi v hv hcv hkk
      obtain ⟨C, T, N, ref, ⟨q1, q2, q3, ty0, q4⟩, q5, q6, q7, q8, -⟩ := hF _ (ffind_mem hfi)
      have hval : (fvs ad σ b 0 (cfs.getD ci []))[k]? = some (cv ad v) := by
        rw [hcv, fvs_get ad σ b _ 0 k sf q8, Nat.zero_add]
      refine va_get (D := D) hx hb hts q2 hown hKK hP b (wl_get hb1) q1 k q5 (hts _ q6) ?_ hval hdg (go _ _ _ _ hkk H locs lsA hP hD hS hl hw (wtS_cons hv (wtS_tail hws)))
      intro x9 h9
      rcases q7 with e | e
      · rw [e]; exact h9
      · exact u_same (hts _ e) x9 h9
    split at hk
    · rename_i k a1 a2 hfi
      exact hfd k _ hfi _ wt_I rfl hk
    · rename_i k a1 a2 hfi
      exact hfd k _ hfi _ wt_I rfl hk
    · rename_i k off kk hfi
      have hwt : Y[b + off]? = some kk := by
        obtain ⟨C, T, N, ref, -, -, -, -, q8, -⟩ := hF _ (ffind_mem hfi)
        exact hY.2 b ci hb1 k _ q8 rfl
      exact hfd k _ hfi (.inr (.inr (b + off, kk))) hwt rfl hk
    · rename_i k a1 kk hfi
      exact hfd k _ hfi (.inr (.inr ((σ b k).toNatClampNeg, kk))) hk.1 rfl hk.2
    · exact hk.elim
  | putfield idx =>
    have hln := hlen1 3 hside
    subst hln
    obtain ⟨v, b, ci, r, rfl, hk⟩ := wXO_inv h
    have hb1 : Y[b]? = some (.inl ci) := wtS_head (wtS_tail hws)
    have hfd : ∀ (k : Nat) (sf : sF) (x : Int32) (ty : FieldType), ffind idx ci ft = some (k, sf) → cv ad v = fv ad (up σ b k x) b k sf → (∀ (T : u_T) , (sf.1 = 0 → parseFieldDescriptor (T k).2.2.1 = some .int ∧ (T k).2.2.2 = false) → (sf.1 = 3 → parseFieldDescriptor (T k).2.2.1 = some .boolean ∧ (T k).2.2.2 = false) → (sf.1 = 2 → ∃ o, parseFieldDescriptor (T k).2.2.1 = some (.object o) ∧ (T k).2.2.2 = false) → ∃ ty, parseFieldDescriptor (T k).2.2.1 = some ty ∧ (T k).2.2.2 = false ∧ narrow ty (cv ad v) = cv ad v ∧ fits ty (cv ad v) = true) → K (pc + 3) ls r (up σ b k x) → W p l en R s m args below meth c H locs 0 0 (MQ below (sQc Y D cA ad A Q) args s 0 0 A) (F0 m pc lsA ((v :: .inr (.inr (b, .inl ci)) :: r : List sv).map (cv ad))) := by
      intro k sf x ty hfi hcv hty hkk
      obtain ⟨C, T, N, ref, ⟨q1, q2, q3, ty0, q4⟩, q5, q6, q7, q8, z0, z3, z2⟩ := hF _ (ffind_mem hfi)
      obtain ⟨ty, t1, t2, t3, t4⟩ := hty T z0 z3 z2
      have hset := wl_set (cA := cA) (ad := ad) (σ := σ) (σ' := up σ b k x) hb1 (fun c hc => up_ne σ _ _ hc) (x := .inr (ci, (fvs ad σ b 0 (cfs.getD ci [])).set k (cv ad v))) (by
        have := fvs_set ad σ b k x (cfs.getD ci []) 0 sf (Nat.zero_le _) (by simpa using q8)
        simp only [Nat.sub_zero] at this
        simp only [ent]
        rw [hcv, this])
      refine va_put (D := D) hx hb hts q2 ty0 q4 q3 hown hKK hP hD hS b (wl_get hb1) q1 k q5 (hts _ q6) ?_ t2 t1 t3 t4 ?_ hdg ?_
      · intro x9 h9
        rcases q7 with e | e
        · rw [e]; exact h9
        · exact u_same (hts _ e) x9 h9
      · rw [fvs_len]
        exact (List.getElem?_eq_some_iff.mp q8).1
      · intro H1 locs1 hP1 hD1 hS1
        rw [hset] at hP1 hD1
        exact go _ _ _ _ hkk H1 locs1 lsA hP1 hD1 hS1 hl hw (wtS_tail (wtS_tail hws))
    split at hk
    · rename_i k a1 a2 x hfi
      refine hfd k _ x .int hfi (by simp [cv, fv, up_same, upd]) (fun T z0 _ _ => ⟨.int, (z0 rfl).1, (z0 rfl).2, rfl, rfl⟩) hk
    · rename_i k a1 a2 x hfi
      refine hfd k _ x .boolean hfi (by simp [cv, fv, up_same, upd]) (fun T _ z3 _ => ⟨.boolean, (z3 rfl).1, (z3 rfl).2, ?_, ?_⟩) hk.2
      · rcases hk.1 with rfl | rfl <;> rfl
      · rcases hk.1 with rfl | rfl <;> rfl
    · rename_i k a1 kk b' kk' hfi
      cases hkb : kbeq kk' kk with
      | false => rw [hkb] at hk; exact hk.elim
      | true =>
        rw [hkb] at hk
        have hb' : Y[b']? = some kk' := wtS_head hws
        have hlt : b' < 2 ^ 31 := Nat.lt_trans (List.getElem?_eq_some_iff.mp hb').1 hY.1
        refine hfd k _ (nI b') .int hfi (by simp [cv, fv, up_same, upd, nI_clamp hlt]) (fun T _ _ z2 => ?_) hk
        obtain ⟨o, z4, z5⟩ := z2 rfl
        exact ⟨.object o, z4, z5, rfl, rfl⟩
    · exact hk.elim
  | invokestatic idx =>
    have hln := hlen1 3 hside
    subst hln
    replace h : wstat Y d ct idx st σ (K (pc + 3) ls) := h
    cases d with
    | zero => exact h.elim
    | succ d =>
    unfold wstat at h
    cases hcf : cfind idx ct with
    | none => simp only [hcf] at h
    | some ce =>
    simp only [hcf] at h
    obtain ⟨hmem, hidx⟩ := cfind_mem hcf
    have hE := hC ce hmem
    subst hidx
    have hfix : CallFix p m c y.2.1 y.2.2.1 s args ALL y.1.cls := ⟨hx, hb, hml, hown, hts⟩
    have go3 : ∀ (st' : List sv) (σ' : sS), K (pc + 3) ls st' σ' → ∀ (H1 : Heap) (locs1 : List Loc), va_P D classes (wl cA ad σ' Y) H1 → va_S A s.heap H1 locs1 → wtS Y st' → W p l en R s m args below meth c H1 locs1 0 0 (MQ below (sQc Y D cA ad A Q) args s 0 0 A) (F0 m (pc + 3) lsA (st'.map (cv ad))) := fun st' σ' hk H1 locs1 hP1 hS1 hw1 => go _ _ _ _ hk H1 locs1 lsA hP1 (wl_D σ' hD) hS1 hl hw hw1
    have w8 : ∀ (r : List sv) (P : Prop), cond (Nat.ble (wsum r) 8) P False → wsum r ≤ 8 ∧ P := by
      intro r P hh
      cases hbl : Nat.ble (wsum r) 8 with
      | false => rw [hbl] at hh; exact hh.elim
      | true => rw [hbl] at hh; exact ⟨Nat.le_of_ble_eq_true hbl, hh⟩
    unfold eOK at hE
    unfold wstatE at h
    split at h
    · rename_i h5
      rw [h5] at hE
      obtain ⟨x, z, r, rfl, hk⟩ := w2I_inv h
      obtain ⟨h8, hk⟩ := w8 _ _ hk
      refine va_mmin hx hb (by rw [hml, hl.1]) hown (hts _ hE.1) (hts _ hE.2.1) (hts _ hE.2.2.1) (hts _ hE.2.2.2) (by omega) ?_ (Nat.zero_le _) (Nat.zero_le _) hdg (go3 _ _ hk H locs hP hS (wtS_cons wt_I (wtS_tail (wtS_tail hws))))
      have := wsum_cat ad r
      show ((r.map (cv ad)).map fun v => v.category).sum + 13 ≤ R.locals
      omega
    · rename_i h5
      rw [h5] at hE
      obtain ⟨x, z, r, rfl, hk⟩ := w2I_inv h
      obtain ⟨h8, hk⟩ := w8 _ _ hk
      refine va_mmax hx hb (by rw [hml, hl.1]) hown (hts _ hE.1) (hts _ hE.2.1) (hts _ hE.2.2.1) (hts _ hE.2.2.2) (by omega) ?_ (Nat.zero_le _) (Nat.zero_le _) hdg (go3 _ _ hk H locs hP hS (wtS_cons wt_I (wtS_tail (wtS_tail hws))))
      have := wsum_cat ad r
      show ((r.map (cv ad)).map fun v => v.category).sum + 13 ≤ R.locals
      omega
    · rename_i h5
      rw [h5] at hE
      obtain ⟨n, dp, a, n1, sp, a0, n0, r, rfl, hk⟩ := wCp_inv h
      obtain ⟨h8, ⟨g1, g2, g3, g4, g5⟩, hk⟩ := w8 _ _ hk
      have ha1 : Y[a]? = some (.inr n1) := wtS_head (wtS_tail (wtS_tail hws))
      have ha0 : Y[a0]? = some (.inr n0) := wtS_head (wtS_tail (wtS_tail (wtS_tail (wtS_tail hws))))
      have hset := wl_set (cA := cA) (ad := ad) (σ := σ) (σ' := upA σ a (va_cpy (σ a0) (σ a) sp.toNatClampNeg dp.toNatClampNeg n.toNatClampNeg)) ha1 (fun c hc => by simp [upA, hc]) (x := .inl (cA, n1, .inl (va_cpy (σ a0) (σ a) sp.toNatClampNeg dp.toNatClampNeg n.toNatClampNeg))) (by simp [ent, upA])
      refine va_copyi hx hb (by rw [hml, hl.1]) hown (hts _ hE.1) (hts _ hE.2.1) (hts _ hE.2.2.1) (hts _ hE.2.2.2) hKK hP hD hS a0 a 0 0 (wl_get ha0) (wl_get ha1) rfl rfl rfl g1 g2 g3 g4 g5 (fun i hi => rfl) (by omega) ?_ hdg ?_
      · have := wsum_cat ad r
        have e9 : nativeFrameWords "java/lang/System" "arraycopy" 5 ≤ 40 := Nat.le_of_ble_eq_true rfl
        show ((r.map (cv ad)).map fun v => v.category).sum + (nativeFrameWords "java/lang/System" "arraycopy" 5 + 11) ≤ R.locals
        omega
      · intro H1 locs1 hP1 hD1 hS1
        rw [hset] at hP1
        exact go3 _ _ hk H1 locs1 hP1 hS1 (wtS_tail (wtS_tail (wtS_tail (wtS_tail (wtS_tail hws)))))
    · rename_i h5
      rw [h5] at hE
      obtain ⟨hy, e1, e2, e3⟩ := hE
      refine wcall_go hy h hY hws hD hS hA (fun Q' hM h8 => ?_) go3
      obtain ⟨y1, y2, y3, y4, y5, -⟩ := hy
      exact va_runSN hfix hM ⟨va_cnB _ hts (goodALL fun w hw => (List.mem_cons.mp hw).elim (fun e => e ▸ y2) id) rfl rfl rfl (hN _ e1) (hts _ e3) ⟨y4.1, y4.2, y5⟩ ⟨by show d + 1 ≤ R.frames; omega, by show 8 + (_ + 11) + (40 * d + 40) ≤ R.locals; omega⟩, hts _ e2, trivial⟩ ⟨sPc_blind, fun U hU hW => ⟨rfl, by rw [hU], by rw [hU]; exact hP, va_K.moved hW.alike hKK, hD.weaken (fun _ _ _ _ => trivial), fun w hw => NW_warm hW w hw (hN w hw)⟩⟩ rfl h8.2.1 hl.1 (take_rev ad _ st) h8.1 hdg ⟨Nat.zero_le _, Nat.zero_le _⟩
    · rename_i h5
      rw [h5] at hE
      obtain ⟨hy, e1, e2, e3⟩ := hE
      refine wcall_go hy h hY hws hD hS hA (fun Q' hM h8 => ?_) go3
      obtain ⟨y1, y2, y3, y4, y5, -⟩ := hy
      exact va_runS hfix hM (va_cwS _ hts (goodALL fun w hw => by
        rcases List.mem_append.mp hw with hw | hw
        · simp only [List.mem_cons, List.not_mem_nil, or_false] at hw
          rcases hw with rfl | rfl | rfl
          · exact e1
          · exact e2
          · exact e3
        · exact (List.mem_cons.mp hw).elim (fun e => e ▸ y2) id) rfl rfl rfl ⟨y4.1, y4.2, y5⟩ ⟨by show d + 1 ≤ R.frames; omega, by show 8 + (_ + 11) + (40 * d + 40) ≤ R.locals; omega⟩) ⟨sPc_blind, fun U hU hW => ⟨rfl, by rw [hU], by rw [hU]; exact hP, va_K.moved hW.alike hKK, hD.weaken (fun _ _ _ _ => trivial), fun w hw => NW_warm hW w hw (hN w hw)⟩⟩ rfl h8.2.1 hl.1 (take_rev ad _ st) h8.1 hdg ⟨Nat.zero_le _, Nat.zero_le _⟩
    · exact h.elim
  | invokevirtual idx =>
    have hln := hlen1 3 hside
    subst hln
    replace h : wvirt Y d ct idx st σ (K (pc + 3) ls) := h
    cases d with
    | zero => exact h.elim
    | succ d =>
    unfold wvirt at h
    cases hcf : cfind idx ct with
    | none => simp only [hcf] at h
    | some c0 =>
    simp only [hcf] at h
    obtain ⟨b, ci, r9, hdrop, hh⟩ := w1O_inv h
    clear h
    cases hcr : cfindR idx ci ct with
    | none => simp only [hcr] at hh
    | some ce =>
    simp only [hcr] at hh
    obtain ⟨hmem, hidx, hci⟩ := cfindR_mem hcr
    have hE := hC ce hmem
    subst hidx; subst hci
    have hfix : CallFix p m c y.2.1 y.2.2.1 s args ALL y.1.cls := ⟨hx, hb, hml, hown, hts⟩
    have go3 : ∀ (st' : List sv) (σ' : sS), K (pc + 3) ls st' σ' → ∀ (H1 : Heap) (locs1 : List Loc), va_P D classes (wl cA ad σ' Y) H1 → va_S A s.heap H1 locs1 → wtS Y st' → W p l en R s m args below meth c H1 locs1 0 0 (MQ below (sQc Y D cA ad A Q) args s 0 0 A) (F0 m (pc + 3) lsA (st'.map (cv ad))) := fun st' σ' hk H1 locs1 hP1 hS1 hw1 => go _ _ _ _ hk H1 locs1 lsA hP1 (wl_D σ' hD) hS1 hl hw hw1
    have wb : ∀ (a b : Nat) (P : Prop), cond (Nat.beq a b) P False → a = b ∧ P := by
      intro a b P hh
      cases hbl : Nat.beq a b with
      | false => rw [hbl] at hh; exact hh.elim
      | true => rw [hbl] at hh; exact ⟨Nat.eq_of_beq_eq_true hbl, hh⟩
    have hbY : Y[b]? = some (.inl ce.2.2.1) := hws (.inr (.inr (b, .inl ce.2.2.1))) (by
      have : (.inr (.inr (b, .inl ce.2.2.1)) : sv) ∈ st.drop c0.2.2.2.2.1 := by rw [hdrop]; exact List.mem_cons_self
      exact List.mem_of_mem_drop this)
    have h := hh
    clear hh
    unfold eOK at hE
    unfold wvirtE at h
    split at h
    · rename_i h5
      rw [h5] at hE
      obtain ⟨hna, h⟩ := wb _ _ _ h
      rw [← hna] at hdrop
      obtain ⟨htk, hdp⟩ := drop_take hdrop
      obtain ⟨hy, C, T, N, e0, e1, e2, e3, e4, e5⟩ := hE
      refine wcall_go hy h hY hws hD hS hA (fun Q' hM h8 => ?_) go3
      obtain ⟨y1, y2, y3, y4, y5, -⟩ := hy
      rw [htk] at hM ⊢
      have h9 : ((st.take ce.2.2.2.2.1).reverse).length = ce.2.2.2.2.1 := by
        have := h8.2.1
        rw [htk] at this
        simp only [List.map_cons, List.length_cons, List.length_map] at this
        omega
      exact va_runV hfix hM (cwV _ hts (goodALL fun w hw => by
        rcases List.mem_append.mp hw with hw | hw
        · simp only [List.mem_cons, List.not_mem_nil, or_false] at hw
          rcases hw with rfl | rfl | rfl | rfl
          · exact e2
          · exact e3
          · exact e4
          · exact e5
        · exact (List.mem_cons.mp hw).elim (fun e => e ▸ y2) id) rfl rfl rfl ⟨e1, y4.1, y4.2, y5⟩ ⟨by show d + 1 ≤ R.frames; omega, by show 8 + (_ + 11) + (40 * d + 40) ≤ R.locals; omega⟩) ⟨sPc_blind, va_recv hKK hP e0 (wl_get hbY), fun U hU hW => ⟨rfl, by rw [hU], by rw [hU]; exact hP, va_K.moved hW.alike hKK, hD.weaken (fun _ _ _ _ => trivial), fun w hw => NW_warm hW w hw (hN w hw)⟩⟩ rfl (by rw [List.length_map]; exact h9) hl.1 (take_revV ad hdrop) h8.1 hdg ⟨Nat.zero_le _, Nat.zero_le _⟩
    · rename_i h5
      rw [h5] at hE
      obtain ⟨hna, h⟩ := wb _ _ _ h
      rw [← hna] at hdrop
      obtain ⟨htk, hdp⟩ := drop_take hdrop
      obtain ⟨hy, C, T, N, e0, e1, e2, e3, e4, e5, e6, e7⟩ := hE
      refine wcall_go hy h hY hws hD hS hA (fun Q' hM h8 => ?_) go3
      obtain ⟨y1, y2, y3, y4, y5, -⟩ := hy
      rw [htk] at hM ⊢
      have h9 : ((st.take ce.2.2.2.2.1).reverse).length = ce.2.2.2.2.1 := by
        have := h8.2.1
        rw [htk] at this
        simp only [List.map_cons, List.length_cons, List.length_map] at this
        omega
      have y5' : (parseMethodDescriptor ce.2.2.2.2.2.1.desc).map (fun d => d.parameters.length) = some ce.2.2.2.2.1 := by
        rw [e1] at y5
        exact y5
      exact va_runU hfix hM (va_cwU _ hts (goodALL fun w hw => by
        rcases List.mem_append.mp hw with hw | hw
        · simp only [List.mem_cons, List.not_mem_nil, or_false] at hw
          rcases hw with rfl | rfl | rfl | rfl | rfl
          · exact e2
          · exact e3
          · exact e4
          · exact e5
          · exact e6
        · exact (List.mem_cons.mp hw).elim (fun e => e ▸ y2) id) rfl rfl rfl e1 ⟨e7.1, e7.2, y5'⟩ ⟨by show d + 1 ≤ R.frames; omega, by show 8 + (_ + 11) + (40 * d + 40) ≤ R.locals; omega⟩) ⟨sPc_blind, va_recv hKK hP e0 (wl_get hbY), fun U hU hW => ⟨rfl, by rw [hU], by rw [hU]; exact hP, va_K.moved hW.alike hKK, hD.weaken (fun _ _ _ _ => trivial), fun w hw => NW_warm hW w hw (hN w hw)⟩⟩ rfl (by rw [List.length_map]; exact h9) hl.1 (take_revV ad hdrop) h8.1 hdg ⟨Nat.zero_le _, Nat.zero_le _⟩
    · rename_i h5
      rw [h5] at hE
      obtain ⟨hna, h⟩ := wb _ _ _ h
      rw [← hna] at hdrop
      obtain ⟨htk, hdp⟩ := drop_take hdrop
      obtain ⟨hy, C, T, N, e0, e2, e3, e4, e5, e6, e7, e8, y5'⟩ := hE
      refine wcall_go hy h hY hws hD hS hA (fun Q' hM h8 => ?_) go3
      obtain ⟨y1, y2, y3, y4, y5, -⟩ := hy
      rw [htk] at hM ⊢
      have h9 : ((st.take ce.2.2.2.2.1).reverse).length = ce.2.2.2.2.1 := by
        have := h8.2.1
        rw [htk] at this
        simp only [List.map_cons, List.length_cons, List.length_map] at this
        omega
      exact va_runU hfix hM (va_cwA _ hts (goodALL fun w hw => by
        rcases List.mem_append.mp hw with hw | hw
        · simp only [List.mem_cons, List.not_mem_nil, or_false] at hw
          rcases hw with rfl | rfl | rfl | rfl | rfl
          · exact e2
          · exact e3
          · exact e4
          · exact e5
          · exact e6
        · exact (List.mem_cons.mp hw).elim (fun e => e ▸ y2) id) rfl rfl rfl (hN _ e8) ⟨e7.1, e7.2, y5'⟩ ⟨by show d + 1 ≤ R.frames; omega, by show 8 + (_ + 11) + (40 * d + 40) ≤ R.locals; omega⟩) ⟨sPc_blind, va_recv hKK hP e0 (wl_get hbY), fun U hU hW => ⟨rfl, by rw [hU], by rw [hU]; exact hP, va_K.moved hW.alike hKK, hD.weaken (fun _ _ _ _ => trivial), fun w hw => NW_warm hW w hw (hN w hw)⟩⟩ rfl (by rw [List.length_map]; exact h9) hl.1 (take_revV ad hdrop) h8.1 hdg ⟨Nat.zero_le _, Nat.zero_le _⟩
    · exact h.elim
  | _ => exact False.elim h
end
section
/-! a stretch of a method: up to the stops -/
def fnd (pc : Nat) : List sT → Option sT
  | [] => none
  | e :: r => cond (Nat.beq e.1 pc) (some e) (fnd pc r)
def lkS (pc : Nat) : List (Nat × List Nat) → Option (List Nat)
  | [] => none
  | e :: r => cond (Nat.beq e.1 pc) (some e.2) (lkS pc r)
def hasK (k : Nat) : List Nat → Bool
  | [] => false
  | j :: r => cond (Nat.beq j k) true (hasK k r)
def keepL (ks : List Nat) : sL → sL
  | [] => []
  | q :: r => cond (hasK q.1 ks) (q :: keepL ks r) (keepL ks r)
def blk (Y : List kd) (d : Nat) (y : sY) (ft : List (Nat × Nat × Nat × sF)) (ct : List sE) (tab : List sT) (stops : List (Nat × List Nat)) (Q : Option sv → sS → Prop) : Nat → Nat → sL → List sv → sS → Prop
  | 0, pc, ls, st, σ => Jd Y d y pc ls st σ Q
  | n + 1, pc, ls, st, σ => match fnd pc tab with
    | none => False
    | some e => wp1 Y d y.2.2.1 y.2.2.2 ft ct e ls st σ (fun pc' ls' st' σ' => match lkS pc' stops with
      | some ks => Jd Y d y pc' (keepL ks ls') st' σ' Q
      | none => blk Y d y ft ct tab stops Q n pc' ls' st' σ') Q
theorem fnd_mem {pc : Nat} : ∀ {tab : List sT} {e : sT}, fnd pc tab = some e → e ∈ tab ∧ e.1 = pc
  | [], e, h => by cases h
  | q :: r, e, h => by
    simp only [fnd] at h
    cases hb : Nat.beq q.1 pc with
    | true =>
      rw [hb] at h
      have : q = e := by simpa using h
      subst this
      exact ⟨List.mem_cons_self, Nat.eq_of_beq_eq_true hb⟩
    | false =>
      rw [hb] at h
      exact ⟨List.mem_cons_of_mem _ (fnd_mem h).1, (fnd_mem h).2⟩
theorem keepL_mem {ks : List Nat} : ∀ {ls : sL} (q : Nat × sv), q ∈ keepL ks ls → q ∈ ls
  | [], q, h => by cases h
  | p :: r, q, h => by
    simp only [keepL] at h
    cases hb : hasK p.1 ks with
    | true =>
      rw [hb] at h
      rcases List.mem_cons.mp h with rfl | h
      · exact List.mem_cons_self
      · exact List.mem_cons_of_mem _ (keepL_mem q h)
    | false =>
      rw [hb] at h
      exact List.mem_cons_of_mem _ (keepL_mem q h)
/-- what a method's tables must be -/
def mOK (Y : List kd) (y : sY) (ft : List (Nat × Nat × Nat × sF)) (ct : List sE) (tab : List sT) : Prop := (∀ e ∈ tab, sTok y.1.cls y.2.1 e) ∧ (∀ q ∈ ft, fOK y.1.cls q) ∧ ∀ q ∈ ct, eOK Y y.1.cls q
theorem blk_ok {Y : List kd} {d : Nat} {y : sY} {ft : List (Nat × Nat × Nat × sF)} {ct : List sE} {tab : List sT} (hM : mOK Y y ft ct tab) (stops : List (Nat × List Nat)) {Q : Option sv → sS → Prop} : ∀ (n pc : Nat) (ls : sL) (st : List sv) (σ : sS), blk Y d y ft ct tab stops Q n pc ls st σ → Jd Y d y pc ls st σ Q
  | 0, pc, ls, st, σ, h => h
  | n + 1, pc, ls, st, σ, h => by
    simp only [blk] at h
    cases hf : fnd pc tab with
    | none => simp only [hf] at h
    | some e =>
      simp only [hf] at h
      obtain ⟨hm, hpc⟩ := fnd_mem hf
      rw [← hpc]
      refine wp1_ok hM.2.1 hM.2.2 (hM.1 e hm) h ?_
      intro pc' ls' st' σ' hk
      cases hl : lkS pc' stops with
      | none =>
        simp only [hl] at hk
        exact blk_ok hM stops n pc' ls' st' σ' hk
      | some ks =>
        simp only [hl] at hk
        exact Jd.sub hk (fun q hq => keepL_mem q hq)
theorem tab_of {own : String} {bytes : ByteArray} {tab : List sT} (h : tab.all (fun e => decide (decode bytes e.1 = .ok (e.2.2.1, e.2.1)) && sSide own e) = true) : ∀ e ∈ tab, sTok own bytes e := by
  intro e he
  have := List.all_eq_true.mp h e he
  simp only [Bool.and_eq_true, decide_eq_true_eq] at this
  exact this
end
section
/-! the methods: name, bytes, locals, what they answer -/
def y_GF_set : sY := (⟨"GathersAllFaults", "set", "([III)V"⟩, prog_1_method_49_code, 3, none)
def y_GF_faults : sY := (⟨"GathersAllFaults", "faults", "()I"⟩, prog_1_method_9_code, 1, (some .int))
def y_GA_gather : sY := (⟨"GathersAllFaults$Gatherer", "gather", "(LGathersAllFaults$Tree;)I"⟩, prog_3_method_2_code, 2, (some .int))
def y_GA_look : sY := (⟨"GathersAllFaults$Gatherer", "look", "(III)V"⟩, prog_3_method_9_code, 9, none)
def y_GA_deciderOf : sY := (⟨"GathersAllFaults$Gatherer", "deciderOf", "(II)I"⟩, prog_3_method_10_code, 6, (some .int))
def y_GF_at : sY := (⟨"GathersAllFaults", "at", "([II)I"⟩, prog_1_method_48_code, 2, (some .int))
def y_GA_add : sY := (⟨"GathersAllFaults$Gatherer", "add", "(II)V"⟩, prog_3_method_8_code, 3, none)
def y_GA_lookAtNumber : sY := (⟨"GathersAllFaults$Gatherer", "lookAtNumber", "(II)V"⟩, prog_3_method_11_code, 5, none)
def y_GA_lookAtRecord : sY := (⟨"GathersAllFaults$Gatherer", "lookAtRecord", "(III)V"⟩, prog_3_method_13_code, 8, none)
def y_GA_lookAtFields : sY := (⟨"GathersAllFaults$Gatherer", "lookAtFields", "(III)V"⟩, prog_3_method_14_code, 9, none)
def y_TR_child : sY := (⟨"GathersAllFaults$Tree", "child", "(II)I"⟩, prog_6_method_4_code, 6, (some .int))
def y_GA_lookForStrangers : sY := (⟨"GathersAllFaults$Gatherer", "lookForStrangers", "(II)V"⟩, prog_3_method_15_code, 6, none)
def y_PL_knows : sY := (⟨"GathersAllFaults$Plan", "knows", "(II)Z"⟩, prog_4_method_3_code, 3, (some .boolean))
def y_GA_lookAtDependent : sY := (⟨"GathersAllFaults$Gatherer", "lookAtDependent", "(III)V"⟩, prog_3_method_16_code, 6, none)
def y_GA_countBelow : sY := (⟨"GathersAllFaults$Gatherer", "countBelow", "(II)I"⟩, prog_3_method_6_code, 5, (some .int))
def y_GA_goesOnFrom : sY := (⟨"GathersAllFaults$Gatherer", "goesOnFrom", "(II)Z"⟩, prog_3_method_7_code, 4, (some .boolean))
def y_TR_less : sY := (⟨"GathersAllFaults$Tree", "less", "(II)Z"⟩, prog_6_method_13_code, 3, (some .boolean))
def y_TR_alike : sY := (⟨"GathersAllFaults$Tree", "alike", "(II)Z"⟩, prog_6_method_11_code, 3, (some .boolean))
def y_TR_alikeBelow : sY := (⟨"GathersAllFaults$Tree", "alikeBelow", "(III)Z"⟩, prog_6_method_12_code, 8, (some .boolean))
def y_GA_lookAtList : sY := (⟨"GathersAllFaults$Gatherer", "lookAtList", "(III)V"⟩, prog_3_method_12_code, 8, none)
def y_GA_lookForTwins : sY := (⟨"GathersAllFaults$Gatherer", "lookForTwins", "(II)V"⟩, prog_3_method_17_code, 8, none)
def y_GA_keepFewer : sY := (⟨"GathersAllFaults$Gatherer", "keepFewer", "(IIII)V"⟩, prog_3_method_18_code, 6, none)
def y_GF_close : sY := (⟨"GathersAllFaults", "close", "([IIII)V"⟩, prog_1_method_51_code, 4, none)
def y_GF_fault : sY := (⟨"GathersAllFaults", "fault", "(II)I"⟩, prog_1_method_10_code, 4, (some .int))
def y_GF_refuse : sY := (⟨"GathersAllFaults", "refuse", "(I)I"⟩, prog_1_method_33_code, 2, (some .int))
def y_GA_pathAt : sY := (⟨"GathersAllFaults$Gatherer", "pathAt", "(I)I"⟩, prog_3_method_3_code, 2, (some .int))
def y_GA_codeAt : sY := (⟨"GathersAllFaults$Gatherer", "codeAt", "(I)I"⟩, prog_3_method_4_code, 2, (some .int))
def y_GF_coded : sY := (⟨"GathersAllFaults", "coded", "(I)I"⟩, prog_1_method_11_code, 2, (some .int))
def y_GA_countCode : sY := (⟨"GathersAllFaults$Gatherer", "countCode", "(I)I"⟩, prog_3_method_5_code, 4, (some .int))
def y_GF_below : sY := (⟨"GathersAllFaults", "below", "(I)I"⟩, prog_1_method_12_code, 2, (some .int))
def y_GF_waits : sY := (⟨"GathersAllFaults", "waits", "()I"⟩, prog_1_method_13_code, 1, (some .int))
def y_GF_first : sY := (⟨"GathersAllFaults", "first", "()I"⟩, prog_1_method_14_code, 1, (some .int))
def y_GF_limited : sY := (⟨"GathersAllFaults", "limited", "(II)I"⟩, prog_1_method_15_code, 4, (some .int))
def y_GF_total : sY := (⟨"GathersAllFaults", "total", "()I"⟩, prog_1_method_16_code, 3, (some .int))
def y_GF_same : sY := (⟨"GathersAllFaults", "same", "(II)I"⟩, prog_1_method_17_code, 5, (some .int))
def y_TR_find : sY := (⟨"GathersAllFaults$Tree", "find", "(I)I"⟩, prog_6_method_3_code, 3, (some .int))
def y_GF_image : sY := (⟨"GathersAllFaults", "image", "()I"⟩, prog_1_method_30_code, 1, (some .int))
def y_TR_take : sY := (⟨"GathersAllFaults$Tree", "take", "(LGathersAllFaults$Tree;)V"⟩, prog_6_method_2_code, 2, none)
def y_GF_copy : sY := (⟨"GathersAllFaults", "copy", "([I[I)V"⟩, prog_1_method_50_code, 2, none)
def y_PL_take : sY := (⟨"GathersAllFaults$Plan", "take", "(LGathersAllFaults$Plan;)V"⟩, prog_4_method_2_code, 2, none)
def y_GF_on : sY := (⟨"GathersAllFaults", "on", "()I"⟩, prog_1_method_31_code, 1, (some .int))
def y_GF_count : sY := (⟨"GathersAllFaults", "count", "(I)I"⟩, prog_1_method_32_code, 2, (some .int))
def y_GF_numbers : sY := (⟨"GathersAllFaults", "numbers", "()I"⟩, prog_1_method_41_code, 3, (some .int))
def y_GF_greatestPath : sY := (⟨"GathersAllFaults", "greatestPath", "()I"⟩, prog_1_method_42_code, 3, (some .int))
def y_GF_letter : sY := (⟨"GathersAllFaults", "letter", "(I)I"⟩, prog_1_method_2_code, 2, (some .int))
def y_GF_check : sY := (⟨"GathersAllFaults", "check", "()I"⟩, prog_1_method_4_code, 2, (some .int))
def y_RD_read : sY := (⟨"GathersAllFaults$Reader", "read", "([II)I"⟩, prog_5_method_2_code, 4, (some .int))
def y_RD_stumble : sY := (⟨"GathersAllFaults$Reader", "stumble", "([II)I"⟩, prog_5_method_3_code, 4, (some .int))
def y_CR_goesOn : sY := (⟨"GathersAllFaults$CheckReader", "goesOn", "(I)Z"⟩, prog_2_method_2_code, 2, (some .boolean))
def y_CR_begins : sY := (⟨"GathersAllFaults$CheckReader", "begins", "(I)Z"⟩, prog_2_method_3_code, 2, (some .boolean))
def y_CR_ends : sY := (⟨"GathersAllFaults$CheckReader", "ends", "()V"⟩, prog_2_method_7_code, 1, none)
def y_RD_top : sY := (⟨"GathersAllFaults$Reader", "top", "()I"⟩, prog_5_method_6_code, 1, (some .int))
def y_RD_pop : sY := (⟨"GathersAllFaults$Reader", "pop", "()V"⟩, prog_5_method_5_code, 1, none)
def y_RD_push : sY := (⟨"GathersAllFaults$Reader", "push", "(I)V"⟩, prog_5_method_4_code, 2, none)
def y_CR_goBehindDigits : sY := (⟨"GathersAllFaults$CheckReader", "goBehindDigits", "()V"⟩, prog_2_method_4_code, 1, none)
def y_GF_isDigit : sY := (⟨"GathersAllFaults", "isDigit", "(I)Z"⟩, prog_1_method_45_code, 1, (some .boolean))
def y_CR_field : sY := (⟨"GathersAllFaults$CheckReader", "field", "(I)Z"⟩, prog_2_method_5_code, 2, (some .boolean))
def y_GF_isName : sY := (⟨"GathersAllFaults", "isName", "(I)Z"⟩, prog_1_method_46_code, 1, (some .boolean))
def y_CR_last : sY := (⟨"GathersAllFaults$CheckReader", "last", "(I)Z"⟩, prog_2_method_6_code, 2, (some .boolean))
def y_VR_goesOn : sY := (⟨"GathersAllFaults$ValueReader", "goesOn", "(I)Z"⟩, prog_7_method_2_code, 3, (some .boolean))
def y_VR_begins : sY := (⟨"GathersAllFaults$ValueReader", "begins", "(I)Z"⟩, prog_7_method_3_code, 2, (some .boolean))
def y_VR_ends : sY := (⟨"GathersAllFaults$ValueReader", "ends", "()V"⟩, prog_7_method_5_code, 1, none)
def y_VR_closes : sY := (⟨"GathersAllFaults$ValueReader", "closes", "()Z"⟩, prog_7_method_4_code, 1, (some .boolean))
def y_CR_build : sY := (⟨"GathersAllFaults$CheckReader", "build", "([II)I"⟩, prog_2_method_8_code, 4, (some .int))
def y_CR_takes : sY := (⟨"GathersAllFaults$CheckReader", "takes", "([II)Z"⟩, prog_2_method_10_code, 4, (some .boolean))
def y_CR_settle : sY := (⟨"GathersAllFaults$CheckReader", "settle", "()V"⟩, prog_2_method_17_code, 3, none)
def y_GF_digitOf : sY := (⟨"GathersAllFaults", "digitOf", "(I)I"⟩, prog_1_method_47_code, 1, (some .int))
def y_CR_addsField : sY := (⟨"GathersAllFaults$CheckReader", "addsField", "(II)Z"⟩, prog_2_method_12_code, 4, (some .boolean))
def y_CR_addsDependent : sY := (⟨"GathersAllFaults$CheckReader", "addsDependent", "(III)Z"⟩, prog_2_method_13_code, 5, (some .boolean))
def y_PL_depend : sY := (⟨"GathersAllFaults$Plan", "depend", "(IIII)V"⟩, prog_4_method_5_code, 5, none)
def y_CR_two : sY := (⟨"GathersAllFaults$CheckReader", "two", "([II)I"⟩, prog_2_method_11_code, 2, (some .int))
def y_CR_adds : sY := (⟨"GathersAllFaults$CheckReader", "adds", "(III)Z"⟩, prog_2_method_14_code, 5, (some .boolean))
def y_CR_canReturn : sY := (⟨"GathersAllFaults$CheckReader", "canReturn", "()Z"⟩, prog_2_method_16_code, 3, (some .boolean))
def y_PL_add : sY := (⟨"GathersAllFaults$Plan", "add", "(III)Z"⟩, prog_4_method_4_code, 4, (some .boolean))
def y_CR_wants : sY := (⟨"GathersAllFaults$CheckReader", "wants", "(I)I"⟩, prog_2_method_15_code, 1, (some .int))
def y_CR_tail : sY := (⟨"GathersAllFaults$CheckReader", "tail", "(I)I"⟩, prog_2_method_9_code, 1, (some .int))
def y_VR_build : sY := (⟨"GathersAllFaults$ValueReader", "build", "([II)I"⟩, prog_7_method_6_code, 9, (some .int))
def y_VR_adds : sY := (⟨"GathersAllFaults$ValueReader", "adds", "(II)Z"⟩, prog_7_method_8_code, 5, (some .boolean))
def y_TR_add : sY := (⟨"GathersAllFaults$Tree", "add", "(III)Z"⟩, prog_6_method_5_code, 4, (some .boolean))
def y_VR_takes : sY := (⟨"GathersAllFaults$ValueReader", "takes", "(I)Z"⟩, prog_7_method_7_code, 2, (some .boolean))
def y_TR_link : sY := (⟨"GathersAllFaults$Tree", "link", "()V"⟩, prog_6_method_6_code, 5, none)
def y_GF_value : sY := (⟨"GathersAllFaults", "value", "()I"⟩, prog_1_method_3_code, 2, (some .int))
end
section
/-! the instructions of the class, read off their bytes -/
def tab_GF_set : List sT := [(0, 1, .aload_n 0, 0, [], 0, 0), (1, 3, .ifnull 17, 18, [], 0, 0), (4, 1, .iload_n 1, 0, [], 0, 0), (5, 3, .ifCond .lt 13, 18, [], 0, 0), (8, 1, .iload_n 1, 0, [], 0, 0), (9, 1, .aload_n 0, 0, [], 0, 0), (10, 1, .arraylength, 0, [], 0, 0), (11, 3, .if_icmp .ge 7, 18, [], 0, 0), (14, 1, .aload_n 0, 0, [], 0, 0), (15, 1, .iload_n 1, 0, [], 0, 0), (16, 1, .iload_n 2, 0, [], 0, 0), (17, 1, .iastore, 0, [], 0, 0), (18, 1, .return_, 0, [], 0, 0)]
theorem tk_GF_set : ∀ e ∈ tab_GF_set, sTok "GathersAllFaults" prog_1_method_49_code e := tab_of (by decide +kernel)
def tab_GF_faults : List sT := [(0, 1, .aload_n 0, 0, [], 0, 0), (1, 3, .getfield 22, 0, [], 0, 0), (4, 1, .aload_n 0, 0, [], 0, 0), (5, 3, .getfield 10, 0, [], 0, 0), (8, 3, .invokevirtual 121, 0, [], 0, 0), (11, 1, .ireturn, 0, [], 0, 0)]
theorem tk_GF_faults : ∀ e ∈ tab_GF_faults, sTok "GathersAllFaults" prog_1_method_9_code e := tab_of (by decide +kernel)
def tab_GA_gather : List sT := [(0, 1, .aload_n 1, 0, [], 0, 0), (1, 3, .ifnull 8, 9, [], 0, 0), (4, 1, .aload_n 0, 0, [], 0, 0), (5, 1, .aload_n 1, 0, [], 0, 0), (6, 3, .putfield 21, 0, [], 0, 0), (9, 1, .aload_n 0, 0, [], 0, 0), (10, 1, .iconst 0, 0, [], 0, 0), (11, 3, .putfield 29, 0, [], 0, 0), (14, 1, .aload_n 0, 0, [], 0, 0), (15, 1, .iconst 0, 0, [], 0, 0), (16, 3, .putfield 33, 0, [], 0, 0), (19, 1, .aload_n 0, 0, [], 0, 0), (20, 1, .iconst 0, 0, [], 0, 0), (21, 1, .iconst 0, 0, [], 0, 0), (22, 1, .iconst 0, 0, [], 0, 0), (23, 3, .invokevirtual 36, 0, [], 0, 0), (26, 1, .aload_n 0, 0, [], 0, 0), (27, 3, .getfield 29, 0, [], 0, 0), (30, 1, .ireturn, 0, [], 0, 0)]
theorem tk_GA_gather : ∀ e ∈ tab_GA_gather, sTok "GathersAllFaults$Gatherer" prog_3_method_2_code e := tab_of (by decide +kernel)
def tab_GA_look : List sT := [(0, 1, .aload_n 0, 0, [], 0, 0), (1, 1, .iload_n 1, 0, [], 0, 0), (2, 1, .iload_n 2, 0, [], 0, 0), (3, 3, .invokevirtual 56, 0, [], 0, 0), (6, 2, .istore 4, 0, [], 0, 0), (8, 1, .iload_n 3, 0, [], 0, 0), (9, 3, .sipush 128, 0, [], 128, 0), (12, 3, .if_icmp .gt 8, 20, [], 0, 0), (15, 2, .iload 4, 0, [], 0, 0), (17, 3, .ifCond .ge 4, 21, [], 0, 0), (20, 1, .return_, 0, [], 0, 0), (21, 1, .aload_n 0, 0, [], 0, 0), (22, 3, .getfield 29, 0, [], 0, 0), (25, 2, .istore 5, 0, [], 0, 0), (27, 1, .aload_n 0, 0, [], 0, 0), (28, 3, .getfield 33, 0, [], 0, 0), (31, 2, .istore 6, 0, [], 0, 0), (33, 1, .aload_n 0, 0, [], 0, 0), (34, 3, .getfield 12, 0, [], 0, 0), (37, 3, .getfield 60, 0, [], 0, 0), (40, 2, .iload 4, 0, [], 0, 0), (42, 3, .invokestatic 40, 0, [], 0, 0), (45, 51, .lookupswitch 180 #[(35, 51), (38, 83), (47, 105), (64, 72), (123, 61)], 225, [(35, 96), (38, 128), (47, 150), (64, 117), (123, 106)], 0, 0), (96, 1, .aload_n 0, 0, [], 0, 0), (97, 2, .iload 4, 0, [], 0, 0), (99, 1, .iload_n 2, 0, [], 0, 0), (100, 3, .invokevirtual 63, 0, [], 0, 0), (103, 3, .goto 122, 225, [], 0, 0), (106, 1, .aload_n 0, 0, [], 0, 0), (107, 2, .iload 4, 0, [], 0, 0), (109, 1, .iload_n 2, 0, [], 0, 0), (110, 1, .iload_n 3, 0, [], 0, 0), (111, 3, .invokevirtual 67, 0, [], 0, 0), (114, 3, .goto 111, 225, [], 0, 0), (117, 1, .aload_n 0, 0, [], 0, 0), (118, 2, .iload 4, 0, [], 0, 0), (120, 1, .iload_n 2, 0, [], 0, 0), (121, 1, .iload_n 3, 0, [], 0, 0), (122, 3, .invokevirtual 70, 0, [], 0, 0), (125, 3, .goto 100, 225, [], 0, 0), (128, 1, .aload_n 0, 0, [], 0, 0), (129, 2, .iload 4, 0, [], 0, 0), (131, 1, .iconst 1, 0, [], 1, 0), (132, 1, .iadd, 0, [], 0, 0), (133, 1, .iload_n 2, 0, [], 0, 0), (134, 1, .iload_n 3, 0, [], 0, 0), (135, 1, .iconst 1, 0, [], 1, 0), (136, 1, .iadd, 0, [], 0, 0), (137, 3, .invokevirtual 36, 0, [], 0, 0), (140, 1, .aload_n 0, 0, [], 0, 0), (141, 1, .iload_n 2, 0, [], 0, 0), (142, 2, .iload 5, 0, [], 0, 0), (144, 3, .invokevirtual 73, 0, [], 0, 0), (147, 3, .goto 78, 225, [], 0, 0), (150, 1, .aload_n 0, 0, [], 0, 0), (151, 2, .iload 4, 0, [], 0, 0), (153, 1, .iconst 1, 0, [], 1, 0), (154, 1, .iadd, 0, [], 0, 0), (155, 1, .iload_n 2, 0, [], 0, 0), (156, 1, .iload_n 3, 0, [], 0, 0), (157, 1, .iconst 1, 0, [], 1, 0), (158, 1, .iadd, 0, [], 0, 0), (159, 3, .invokevirtual 36, 0, [], 0, 0), (162, 1, .aload_n 0, 0, [], 0, 0), (163, 3, .getfield 29, 0, [], 0, 0), (166, 2, .iload 5, 0, [], 0, 0), (168, 3, .if_icmp .le 57, 225, [], 0, 0), (171, 1, .aload_n 0, 0, [], 0, 0), (172, 3, .getfield 29, 0, [], 0, 0), (175, 2, .istore 7, 0, [], 0, 0), (177, 1, .aload_n 0, 0, [], 0, 0), (178, 3, .getfield 33, 0, [], 0, 0), (181, 2, .istore 8, 0, [], 0, 0), (183, 1, .aload_n 0, 0, [], 0, 0), (184, 2, .iload 4, 0, [], 0, 0), (186, 1, .iconst 1, 0, [], 1, 0), (187, 1, .iadd, 0, [], 0, 0), (188, 1, .aload_n 0, 0, [], 0, 0), (189, 3, .getfield 12, 0, [], 0, 0), (192, 3, .getfield 76, 0, [], 0, 0), (195, 2, .iload 4, 0, [], 0, 0), (197, 1, .iconst 1, 0, [], 1, 0), (198, 1, .iadd, 0, [], 0, 0), (199, 3, .invokestatic 40, 0, [], 0, 0), (202, 1, .iadd, 0, [], 0, 0), (203, 1, .iload_n 2, 0, [], 0, 0), (204, 1, .iload_n 3, 0, [], 0, 0), (205, 1, .iconst 1, 0, [], 1, 0), (206, 1, .iadd, 0, [], 0, 0), (207, 3, .invokevirtual 36, 0, [], 0, 0), (210, 1, .aload_n 0, 0, [], 0, 0), (211, 2, .iload 5, 0, [], 0, 0), (213, 2, .iload 7, 0, [], 0, 0), (215, 2, .iload 6, 0, [], 0, 0), (217, 2, .iload 8, 0, [], 0, 0), (219, 3, .invokevirtual 79, 0, [], 0, 0), (222, 3, .goto 3, 225, [], 0, 0), (225, 1, .return_, 0, [], 0, 0)]
theorem tk_GA_look : ∀ e ∈ tab_GA_look, sTok "GathersAllFaults$Gatherer" prog_3_method_9_code e := tab_of (by decide +kernel)
def tab_GA_deciderOf : List sT := [(0, 1, .iload_n 1, 0, [], 0, 0), (1, 1, .istore_n 3, 0, [], 0, 0), (2, 1, .iconst 0, 0, [], 0, 0), (3, 2, .istore 4, 0, [], 0, 0), (5, 2, .iload 4, 0, [], 0, 0), (7, 2, .bipush 48, 0, [], 48, 0), (9, 3, .if_icmp .ge 96, 105, [], 0, 0), (12, 1, .aload_n 0, 0, [], 0, 0), (13, 3, .getfield 12, 0, [], 0, 0), (16, 3, .getfield 60, 0, [], 0, 0), (19, 1, .iload_n 3, 0, [], 0, 0), (20, 3, .invokestatic 40, 0, [], 0, 0), (23, 2, .istore 5, 0, [], 0, 0), (25, 2, .iload 5, 0, [], 0, 0), (27, 2, .bipush 94, 0, [], 94, 0), (29, 3, .if_icmp .ne 8, 37, [], 0, 0), (32, 1, .iconst 0, 0, [], 0, 0), (33, 1, .istore_n 3, 0, [], 0, 0), (34, 3, .goto 65, 99, [], 0, 0), (37, 2, .iload 5, 0, [], 0, 0), (39, 2, .bipush 33, 0, [], 33, 0), (41, 3, .if_icmp .eq 12, 53, [], 0, 0), (44, 2, .iload 5, 0, [], 0, 0), (46, 2, .bipush 126, 0, [], 126, 0), (48, 3, .if_icmp .eq 5, 53, [], 0, 0), (51, 1, .iload_n 3, 0, [], 0, 0), (52, 1, .ireturn, 0, [], 0, 0), (53, 1, .aload_n 0, 0, [], 0, 0), (54, 3, .getfield 21, 0, [], 0, 0), (57, 3, .getfield 83, 0, [], 0, 0), (60, 1, .iload_n 2, 0, [], 0, 0), (61, 3, .invokestatic 40, 0, [], 0, 0), (64, 1, .iconst 1, 0, [], 1, 0), (65, 3, .if_icmp .eq 9, 74, [], 0, 0), (68, 3, .iinc 3 1, 0, [], 1, 0), (71, 3, .goto 28, 99, [], 0, 0), (74, 2, .iload 5, 0, [], 0, 0), (76, 2, .bipush 33, 0, [], 33, 0), (78, 3, .if_icmp .ne 19, 97, [], 0, 0), (81, 1, .aload_n 0, 0, [], 0, 0), (82, 1, .aload_n 0, 0, [], 0, 0), (83, 3, .getfield 21, 0, [], 0, 0), (86, 3, .getfield 86, 0, [], 0, 0), (89, 1, .iload_n 2, 0, [], 0, 0), (90, 3, .invokestatic 40, 0, [], 0, 0), (93, 1, .iconst 4, 0, [], 4, 0), (94, 3, .invokevirtual 89, 0, [], 0, 0), (97, 1, .iconst (-1), 0, [], (-1), 0), (98, 1, .ireturn, 0, [], 0, 0), (99, 3, .iinc 4 1, 0, [], 1, 0), (102, 3, .goto (-97), 5, [], 0, 0), (105, 1, .iconst (-1), 0, [], (-1), 0), (106, 1, .ireturn, 0, [], 0, 0)]
theorem tk_GA_deciderOf : ∀ e ∈ tab_GA_deciderOf, sTok "GathersAllFaults$Gatherer" prog_3_method_10_code e := tab_of (by decide +kernel)
def tab_GF_at : List sT := [(0, 1, .aload_n 0, 0, [], 0, 0), (1, 3, .ifnull 19, 20, [], 0, 0), (4, 1, .iload_n 1, 0, [], 0, 0), (5, 3, .ifCond .lt 15, 20, [], 0, 0), (8, 1, .iload_n 1, 0, [], 0, 0), (9, 1, .aload_n 0, 0, [], 0, 0), (10, 1, .arraylength, 0, [], 0, 0), (11, 3, .if_icmp .ge 9, 20, [], 0, 0), (14, 1, .aload_n 0, 0, [], 0, 0), (15, 1, .iload_n 1, 0, [], 0, 0), (16, 1, .iaload, 0, [], 0, 0), (17, 3, .goto 4, 21, [], 0, 0), (20, 1, .iconst 0, 0, [], 0, 0), (21, 1, .ireturn, 0, [], 0, 0)]
theorem tk_GF_at : ∀ e ∈ tab_GF_at, sTok "GathersAllFaults" prog_1_method_48_code e := tab_of (by decide +kernel)
def tab_GA_add : List sT := [(0, 1, .aload_n 0, 0, [], 0, 0), (1, 3, .getfield 29, 0, [], 0, 0), (4, 3, .sipush 6144, 0, [], 6144, 0), (7, 3, .if_icmp .ge 30, 37, [], 0, 0), (10, 1, .aload_n 0, 0, [], 0, 0), (11, 3, .getfield 25, 0, [], 0, 0), (14, 1, .aload_n 0, 0, [], 0, 0), (15, 3, .getfield 29, 0, [], 0, 0), (18, 2, .bipush 100, 0, [], 100, 0), (20, 1, .iload_n 1, 0, [], 0, 0), (21, 1, .imul, 0, [], 0, 0), (22, 1, .iload_n 2, 0, [], 0, 0), (23, 1, .iadd, 0, [], 0, 0), (24, 3, .invokestatic 52, 0, [], 0, 0), (27, 1, .aload_n 0, 0, [], 0, 0), (28, 1, .dup, 0, [], 0, 0), (29, 3, .getfield 29, 0, [], 0, 0), (32, 1, .iconst 1, 0, [], 1, 0), (33, 1, .iadd, 0, [], 0, 0), (34, 3, .putfield 29, 0, [], 0, 0), (37, 1, .return_, 0, [], 0, 0)]
theorem tk_GA_add : ∀ e ∈ tab_GA_add, sTok "GathersAllFaults$Gatherer" prog_3_method_8_code e := tab_of (by decide +kernel)
def tab_GA_lookAtNumber : List sT := [(0, 1, .aload_n 0, 0, [], 0, 0), (1, 3, .getfield 21, 0, [], 0, 0), (4, 3, .getfield 86, 0, [], 0, 0), (7, 1, .iload_n 2, 0, [], 0, 0), (8, 3, .invokestatic 40, 0, [], 0, 0), (11, 1, .istore_n 3, 0, [], 0, 0), (12, 1, .aload_n 0, 0, [], 0, 0), (13, 3, .getfield 21, 0, [], 0, 0), (16, 3, .getfield 92, 0, [], 0, 0), (19, 1, .iload_n 2, 0, [], 0, 0), (20, 3, .invokestatic 40, 0, [], 0, 0), (23, 2, .istore 4, 0, [], 0, 0), (25, 1, .aload_n 0, 0, [], 0, 0), (26, 3, .getfield 21, 0, [], 0, 0), (29, 3, .getfield 83, 0, [], 0, 0), (32, 1, .iload_n 2, 0, [], 0, 0), (33, 3, .invokestatic 40, 0, [], 0, 0), (36, 3, .ifCond .eq 12, 48, [], 0, 0), (39, 1, .aload_n 0, 0, [], 0, 0), (40, 1, .iload_n 3, 0, [], 0, 0), (41, 1, .iconst 1, 0, [], 1, 0), (42, 3, .invokevirtual 89, 0, [], 0, 0), (45, 3, .goto 50, 95, [], 0, 0), (48, 2, .iload 4, 0, [], 0, 0), (50, 1, .aload_n 0, 0, [], 0, 0), (51, 3, .getfield 12, 0, [], 0, 0), (54, 3, .getfield 95, 0, [], 0, 0), (57, 1, .iload_n 1, 0, [], 0, 0), (58, 3, .invokestatic 40, 0, [], 0, 0), (61, 3, .if_icmp .ge 12, 73, [], 0, 0), (64, 1, .aload_n 0, 0, [], 0, 0), (65, 1, .iload_n 3, 0, [], 0, 0), (66, 1, .iconst 2, 0, [], 2, 0), (67, 3, .invokevirtual 89, 0, [], 0, 0), (70, 3, .goto 25, 95, [], 0, 0), (73, 2, .iload 4, 0, [], 0, 0), (75, 1, .aload_n 0, 0, [], 0, 0), (76, 3, .getfield 12, 0, [], 0, 0), (79, 3, .getfield 98, 0, [], 0, 0), (82, 1, .iload_n 1, 0, [], 0, 0), (83, 3, .invokestatic 40, 0, [], 0, 0), (86, 3, .if_icmp .le 9, 95, [], 0, 0), (89, 1, .aload_n 0, 0, [], 0, 0), (90, 1, .iload_n 3, 0, [], 0, 0), (91, 1, .iconst 3, 0, [], 3, 0), (92, 3, .invokevirtual 89, 0, [], 0, 0), (95, 1, .return_, 0, [], 0, 0)]
theorem tk_GA_lookAtNumber : ∀ e ∈ tab_GA_lookAtNumber, sTok "GathersAllFaults$Gatherer" prog_3_method_11_code e := tab_of (by decide +kernel)
def tab_GA_lookAtRecord : List sT := [(0, 1, .aload_n 0, 0, [], 0, 0), (1, 3, .getfield 21, 0, [], 0, 0), (4, 3, .getfield 83, 0, [], 0, 0), (7, 1, .iload_n 2, 0, [], 0, 0), (8, 3, .invokestatic 40, 0, [], 0, 0), (11, 1, .iconst 2, 0, [], 2, 0), (12, 3, .if_icmp .eq 20, 32, [], 0, 0), (15, 1, .aload_n 0, 0, [], 0, 0), (16, 1, .aload_n 0, 0, [], 0, 0), (17, 3, .getfield 21, 0, [], 0, 0), (20, 3, .getfield 86, 0, [], 0, 0), (23, 1, .iload_n 2, 0, [], 0, 0), (24, 3, .invokestatic 40, 0, [], 0, 0), (27, 1, .iconst 5, 0, [], 5, 0), (28, 3, .invokevirtual 89, 0, [], 0, 0), (31, 1, .return_, 0, [], 0, 0), (32, 1, .aload_n 0, 0, [], 0, 0), (33, 3, .getfield 29, 0, [], 0, 0), (36, 2, .istore 4, 0, [], 0, 0), (38, 1, .aload_n 0, 0, [], 0, 0), (39, 1, .iload_n 1, 0, [], 0, 0), (40, 1, .iload_n 2, 0, [], 0, 0), (41, 1, .iload_n 3, 0, [], 0, 0), (42, 3, .invokevirtual 105, 0, [], 0, 0), (45, 1, .aload_n 0, 0, [], 0, 0), (46, 1, .iload_n 1, 0, [], 0, 0), (47, 1, .iload_n 2, 0, [], 0, 0), (48, 3, .invokevirtual 108, 0, [], 0, 0), (51, 1, .aload_n 0, 0, [], 0, 0), (52, 3, .getfield 12, 0, [], 0, 0), (55, 3, .getfield 111, 0, [], 0, 0), (58, 1, .iload_n 1, 0, [], 0, 0), (59, 3, .invokestatic 40, 0, [], 0, 0), (62, 2, .istore 5, 0, [], 0, 0), (64, 1, .aload_n 0, 0, [], 0, 0), (65, 3, .getfield 12, 0, [], 0, 0), (68, 3, .getfield 114, 0, [], 0, 0), (71, 1, .iload_n 1, 0, [], 0, 0), (72, 3, .invokestatic 40, 0, [], 0, 0), (75, 2, .istore 6, 0, [], 0, 0), (77, 1, .iconst 0, 0, [], 0, 0), (78, 2, .istore 7, 0, [], 0, 0), (80, 2, .iload 7, 0, [], 0, 0), (82, 2, .iload 6, 0, [], 0, 0), (84, 3, .if_icmp .ge 21, 105, [], 0, 0), (87, 1, .aload_n 0, 0, [], 0, 0), (88, 2, .iload 5, 0, [], 0, 0), (90, 2, .iload 7, 0, [], 0, 0), (92, 1, .iadd, 0, [], 0, 0), (93, 1, .iload_n 2, 0, [], 0, 0), (94, 2, .iload 4, 0, [], 0, 0), (96, 3, .invokevirtual 117, 0, [], 0, 0), (99, 3, .iinc 7 1, 0, [], 1, 0), (102, 3, .goto (-22), 80, [], 0, 0), (105, 1, .return_, 0, [], 0, 0)]
theorem tk_GA_lookAtRecord : ∀ e ∈ tab_GA_lookAtRecord, sTok "GathersAllFaults$Gatherer" prog_3_method_13_code e := tab_of (by decide +kernel)
def tab_GA_lookAtFields : List sT := [(0, 1, .aload_n 0, 0, [], 0, 0), (1, 3, .getfield 12, 0, [], 0, 0), (4, 3, .getfield 120, 0, [], 0, 0), (7, 1, .iload_n 1, 0, [], 0, 0), (8, 3, .invokestatic 40, 0, [], 0, 0), (11, 2, .istore 4, 0, [], 0, 0), (13, 1, .iload_n 1, 0, [], 0, 0), (14, 1, .iconst 1, 0, [], 1, 0), (15, 1, .iadd, 0, [], 0, 0), (16, 2, .istore 5, 0, [], 0, 0), (18, 1, .iconst 0, 0, [], 0, 0), (19, 2, .istore 6, 0, [], 0, 0), (21, 2, .iload 6, 0, [], 0, 0), (23, 2, .iload 4, 0, [], 0, 0), (25, 3, .if_icmp .ge 109, 134, [], 0, 0), (28, 1, .aload_n 0, 0, [], 0, 0), (29, 3, .getfield 12, 0, [], 0, 0), (32, 3, .getfield 123, 0, [], 0, 0), (35, 2, .iload 5, 0, [], 0, 0), (37, 3, .invokestatic 40, 0, [], 0, 0), (40, 2, .istore 7, 0, [], 0, 0), (42, 1, .aload_n 0, 0, [], 0, 0), (43, 3, .getfield 21, 0, [], 0, 0), (46, 1, .iload_n 2, 0, [], 0, 0), (47, 2, .iload 7, 0, [], 0, 0), (49, 3, .invokevirtual 126, 0, [], 0, 0), (52, 2, .istore 8, 0, [], 0, 0), (54, 2, .iload 8, 0, [], 0, 0), (56, 3, .ifCond .lt 17, 73, [], 0, 0), (59, 1, .aload_n 0, 0, [], 0, 0), (60, 2, .iload 5, 0, [], 0, 0), (62, 2, .iload 8, 0, [], 0, 0), (64, 1, .iload_n 3, 0, [], 0, 0), (65, 1, .iconst 1, 0, [], 1, 0), (66, 1, .iadd, 0, [], 0, 0), (67, 3, .invokevirtual 36, 0, [], 0, 0), (70, 3, .goto 41, 111, [], 0, 0), (73, 1, .aload_n 0, 0, [], 0, 0), (74, 3, .getfield 12, 0, [], 0, 0), (77, 3, .getfield 129, 0, [], 0, 0), (80, 2, .iload 5, 0, [], 0, 0), (82, 3, .invokestatic 40, 0, [], 0, 0), (85, 3, .ifCond .ne 26, 111, [], 0, 0), (88, 1, .aload_n 0, 0, [], 0, 0), (89, 2, .bipush 10, 0, [], 10, 0), (91, 1, .aload_n 0, 0, [], 0, 0), (92, 3, .getfield 21, 0, [], 0, 0), (95, 3, .getfield 86, 0, [], 0, 0), (98, 1, .iload_n 2, 0, [], 0, 0), (99, 3, .invokestatic 40, 0, [], 0, 0), (102, 1, .imul, 0, [], 0, 0), (103, 2, .iload 7, 0, [], 0, 0), (105, 1, .iadd, 0, [], 0, 0), (106, 2, .bipush 6, 0, [], 6, 0), (108, 3, .invokevirtual 89, 0, [], 0, 0), (111, 2, .iload 5, 0, [], 0, 0), (113, 1, .aload_n 0, 0, [], 0, 0), (114, 3, .getfield 12, 0, [], 0, 0), (117, 3, .getfield 76, 0, [], 0, 0), (120, 2, .iload 5, 0, [], 0, 0), (122, 3, .invokestatic 40, 0, [], 0, 0), (125, 1, .iadd, 0, [], 0, 0), (126, 2, .istore 5, 0, [], 0, 0), (128, 3, .iinc 6 1, 0, [], 1, 0), (131, 3, .goto (-110), 21, [], 0, 0), (134, 1, .return_, 0, [], 0, 0)]
theorem tk_GA_lookAtFields : ∀ e ∈ tab_GA_lookAtFields, sTok "GathersAllFaults$Gatherer" prog_3_method_14_code e := tab_of (by decide +kernel)
def tab_TR_child : List sT := [(0, 1, .aload_n 0, 0, [], 0, 0), (1, 3, .getfield 18, 0, [], 0, 0), (4, 1, .iload_n 1, 0, [], 0, 0), (5, 3, .invokestatic 42, 0, [], 0, 0), (8, 1, .istore_n 3, 0, [], 0, 0), (9, 1, .iload_n 1, 0, [], 0, 0), (10, 1, .iconst 1, 0, [], 1, 0), (11, 1, .iadd, 0, [], 0, 0), (12, 2, .istore 4, 0, [], 0, 0), (14, 1, .iconst 0, 0, [], 0, 0), (15, 2, .istore 5, 0, [], 0, 0), (17, 2, .iload 5, 0, [], 0, 0), (19, 1, .iload_n 3, 0, [], 0, 0), (20, 3, .if_icmp .ge 39, 59, [], 0, 0), (23, 1, .aload_n 0, 0, [], 0, 0), (24, 3, .getfield 21, 0, [], 0, 0), (27, 2, .iload 4, 0, [], 0, 0), (29, 3, .invokestatic 42, 0, [], 0, 0), (32, 1, .iload_n 2, 0, [], 0, 0), (33, 3, .if_icmp .ne 6, 39, [], 0, 0), (36, 2, .iload 4, 0, [], 0, 0), (38, 1, .ireturn, 0, [], 0, 0), (39, 2, .iload 4, 0, [], 0, 0), (41, 1, .aload_n 0, 0, [], 0, 0), (42, 3, .getfield 24, 0, [], 0, 0), (45, 2, .iload 4, 0, [], 0, 0), (47, 3, .invokestatic 42, 0, [], 0, 0), (50, 1, .iadd, 0, [], 0, 0), (51, 2, .istore 4, 0, [], 0, 0), (53, 3, .iinc 5 1, 0, [], 1, 0), (56, 3, .goto (-39), 17, [], 0, 0), (59, 1, .iconst (-1), 0, [], (-1), 0), (60, 1, .ireturn, 0, [], 0, 0)]
theorem tk_TR_child : ∀ e ∈ tab_TR_child, sTok "GathersAllFaults$Tree" prog_6_method_4_code e := tab_of (by decide +kernel)
def tab_GA_lookForStrangers : List sT := [(0, 1, .aload_n 0, 0, [], 0, 0), (1, 3, .getfield 21, 0, [], 0, 0), (4, 3, .getfield 101, 0, [], 0, 0), (7, 1, .iload_n 2, 0, [], 0, 0), (8, 3, .invokestatic 40, 0, [], 0, 0), (11, 1, .istore_n 3, 0, [], 0, 0), (12, 1, .iload_n 2, 0, [], 0, 0), (13, 1, .iconst 1, 0, [], 1, 0), (14, 1, .iadd, 0, [], 0, 0), (15, 2, .istore 4, 0, [], 0, 0), (17, 1, .iconst 0, 0, [], 0, 0), (18, 2, .istore 5, 0, [], 0, 0), (20, 2, .iload 5, 0, [], 0, 0), (22, 1, .iload_n 3, 0, [], 0, 0), (23, 3, .if_icmp .ge 67, 90, [], 0, 0), (26, 1, .aload_n 0, 0, [], 0, 0), (27, 3, .getfield 12, 0, [], 0, 0), (30, 1, .iload_n 1, 0, [], 0, 0), (31, 1, .aload_n 0, 0, [], 0, 0), (32, 3, .getfield 21, 0, [], 0, 0), (35, 3, .getfield 132, 0, [], 0, 0), (38, 2, .iload 4, 0, [], 0, 0), (40, 3, .invokestatic 40, 0, [], 0, 0), (43, 3, .invokevirtual 133, 0, [], 0, 0), (46, 3, .ifCond .ne 21, 67, [], 0, 0), (49, 1, .aload_n 0, 0, [], 0, 0), (50, 1, .aload_n 0, 0, [], 0, 0), (51, 3, .getfield 21, 0, [], 0, 0), (54, 3, .getfield 86, 0, [], 0, 0), (57, 2, .iload 4, 0, [], 0, 0), (59, 3, .invokestatic 40, 0, [], 0, 0), (62, 2, .bipush 7, 0, [], 7, 0), (64, 3, .invokevirtual 89, 0, [], 0, 0), (67, 2, .iload 4, 0, [], 0, 0), (69, 1, .aload_n 0, 0, [], 0, 0), (70, 3, .getfield 21, 0, [], 0, 0), (73, 3, .getfield 104, 0, [], 0, 0), (76, 2, .iload 4, 0, [], 0, 0), (78, 3, .invokestatic 40, 0, [], 0, 0), (81, 1, .iadd, 0, [], 0, 0), (82, 2, .istore 4, 0, [], 0, 0), (84, 3, .iinc 5 1, 0, [], 1, 0), (87, 3, .goto (-67), 20, [], 0, 0), (90, 1, .return_, 0, [], 0, 0)]
theorem tk_GA_lookForStrangers : ∀ e ∈ tab_GA_lookForStrangers, sTok "GathersAllFaults$Gatherer" prog_3_method_15_code e := tab_of (by decide +kernel)
def tab_PL_knows : List sT := [(0, 1, .aload_n 0, 0, [], 0, 0), (1, 3, .getfield 33, 0, [], 0, 0), (4, 1, .iload_n 1, 0, [], 0, 0), (5, 3, .invokestatic 66, 0, [], 0, 0), (8, 1, .iload_n 2, 0, [], 0, 0), (9, 1, .ishr, 0, [], 0, 0), (10, 1, .iconst 1, 0, [], 1, 0), (11, 1, .iand, 0, [], 0, 0), (12, 1, .iconst 1, 0, [], 1, 0), (13, 3, .if_icmp .ne 7, 20, [], 0, 0), (16, 1, .iconst 1, 0, [], 1, 0), (17, 3, .goto 4, 21, [], 0, 0), (20, 1, .iconst 0, 0, [], 0, 0), (21, 1, .ireturn, 0, [], 0, 0)]
theorem tk_PL_knows : ∀ e ∈ tab_PL_knows, sTok "GathersAllFaults$Plan" prog_4_method_3_code e := tab_of (by decide +kernel)
def tab_GA_lookAtDependent : List sT := [(0, 1, .aload_n 0, 0, [], 0, 0), (1, 3, .getfield 21, 0, [], 0, 0), (4, 1, .iload_n 2, 0, [], 0, 0), (5, 1, .aload_n 0, 0, [], 0, 0), (6, 3, .getfield 12, 0, [], 0, 0), (9, 3, .getfield 136, 0, [], 0, 0), (12, 1, .iload_n 1, 0, [], 0, 0), (13, 3, .invokestatic 40, 0, [], 0, 0), (16, 3, .invokevirtual 126, 0, [], 0, 0), (19, 2, .istore 4, 0, [], 0, 0), (21, 1, .aload_n 0, 0, [], 0, 0), (22, 3, .getfield 21, 0, [], 0, 0), (25, 1, .iload_n 2, 0, [], 0, 0), (26, 1, .aload_n 0, 0, [], 0, 0), (27, 3, .getfield 12, 0, [], 0, 0), (30, 3, .getfield 139, 0, [], 0, 0), (33, 1, .iload_n 1, 0, [], 0, 0), (34, 3, .invokestatic 40, 0, [], 0, 0), (37, 3, .invokevirtual 126, 0, [], 0, 0), (40, 2, .istore 5, 0, [], 0, 0), (42, 2, .iload 4, 0, [], 0, 0), (44, 3, .ifCond .lt 48, 92, [], 0, 0), (47, 2, .iload 5, 0, [], 0, 0), (49, 3, .ifCond .lt 43, 92, [], 0, 0), (52, 1, .aload_n 0, 0, [], 0, 0), (53, 1, .aload_n 0, 0, [], 0, 0), (54, 3, .getfield 21, 0, [], 0, 0), (57, 3, .getfield 86, 0, [], 0, 0), (60, 2, .iload 4, 0, [], 0, 0), (62, 3, .invokestatic 40, 0, [], 0, 0), (65, 1, .iload_n 3, 0, [], 0, 0), (66, 3, .invokevirtual 142, 0, [], 0, 0), (69, 3, .ifCond .gt 23, 92, [], 0, 0), (72, 1, .aload_n 0, 0, [], 0, 0), (73, 1, .aload_n 0, 0, [], 0, 0), (74, 3, .getfield 21, 0, [], 0, 0), (77, 3, .getfield 86, 0, [], 0, 0), (80, 2, .iload 5, 0, [], 0, 0), (82, 3, .invokestatic 40, 0, [], 0, 0), (85, 1, .iload_n 3, 0, [], 0, 0), (86, 3, .invokevirtual 142, 0, [], 0, 0), (89, 3, .ifCond .le 16, 105, [], 0, 0), (92, 1, .aload_n 0, 0, [], 0, 0), (93, 1, .dup, 0, [], 0, 0), (94, 3, .getfield 33, 0, [], 0, 0), (97, 1, .iconst 1, 0, [], 1, 0), (98, 1, .iadd, 0, [], 0, 0), (99, 3, .putfield 33, 0, [], 0, 0), (102, 3, .goto 86, 188, [], 0, 0), (105, 1, .aload_n 0, 0, [], 0, 0), (106, 3, .getfield 12, 0, [], 0, 0), (109, 3, .getfield 145, 0, [], 0, 0), (112, 1, .iload_n 1, 0, [], 0, 0), (113, 3, .invokestatic 40, 0, [], 0, 0), (116, 2, .bipush 60, 0, [], 60, 0), (118, 3, .if_icmp .ne 38, 156, [], 0, 0), (121, 1, .aload_n 0, 0, [], 0, 0), (122, 3, .getfield 21, 0, [], 0, 0), (125, 2, .iload 4, 0, [], 0, 0), (127, 2, .iload 5, 0, [], 0, 0), (129, 3, .invokevirtual 148, 0, [], 0, 0), (132, 3, .ifCond .ne 56, 188, [], 0, 0), (135, 1, .aload_n 0, 0, [], 0, 0), (136, 1, .aload_n 0, 0, [], 0, 0), (137, 3, .getfield 21, 0, [], 0, 0), (140, 3, .getfield 86, 0, [], 0, 0), (143, 2, .iload 5, 0, [], 0, 0), (145, 3, .invokestatic 40, 0, [], 0, 0), (148, 2, .bipush 8, 0, [], 8, 0), (150, 3, .invokevirtual 89, 0, [], 0, 0), (153, 3, .goto 35, 188, [], 0, 0), (156, 1, .aload_n 0, 0, [], 0, 0), (157, 3, .getfield 21, 0, [], 0, 0), (160, 2, .iload 4, 0, [], 0, 0), (162, 2, .iload 5, 0, [], 0, 0), (164, 3, .invokevirtual 151, 0, [], 0, 0), (167, 3, .ifCond .ne 21, 188, [], 0, 0), (170, 1, .aload_n 0, 0, [], 0, 0), (171, 1, .aload_n 0, 0, [], 0, 0), (172, 3, .getfield 21, 0, [], 0, 0), (175, 3, .getfield 86, 0, [], 0, 0), (178, 2, .iload 5, 0, [], 0, 0), (180, 3, .invokestatic 40, 0, [], 0, 0), (183, 2, .bipush 9, 0, [], 9, 0), (185, 3, .invokevirtual 89, 0, [], 0, 0), (188, 1, .return_, 0, [], 0, 0)]
theorem tk_GA_lookAtDependent : ∀ e ∈ tab_GA_lookAtDependent, sTok "GathersAllFaults$Gatherer" prog_3_method_16_code e := tab_of (by decide +kernel)
def tab_GA_countBelow : List sT := [(0, 1, .iconst 0, 0, [], 0, 0), (1, 1, .istore_n 3, 0, [], 0, 0), (2, 1, .iload_n 2, 0, [], 0, 0), (3, 2, .istore 4, 0, [], 0, 0), (5, 2, .iload 4, 0, [], 0, 0), (7, 1, .aload_n 0, 0, [], 0, 0), (8, 3, .getfield 29, 0, [], 0, 0), (11, 3, .if_icmp .ge 31, 42, [], 0, 0), (14, 1, .aload_n 0, 0, [], 0, 0), (15, 3, .getfield 25, 0, [], 0, 0), (18, 2, .iload 4, 0, [], 0, 0), (20, 3, .invokestatic 40, 0, [], 0, 0), (23, 2, .bipush 100, 0, [], 100, 0), (25, 1, .idiv, 0, [], 0, 0), (26, 1, .iload_n 1, 0, [], 0, 0), (27, 3, .invokestatic 48, 0, [], 0, 0), (30, 3, .ifCond .eq 6, 36, [], 0, 0), (33, 3, .iinc 3 1, 0, [], 1, 0), (36, 3, .iinc 4 1, 0, [], 1, 0), (39, 3, .goto (-34), 5, [], 0, 0), (42, 1, .iload_n 3, 0, [], 0, 0), (43, 1, .ireturn, 0, [], 0, 0)]
theorem tk_GA_countBelow : ∀ e ∈ tab_GA_countBelow, sTok "GathersAllFaults$Gatherer" prog_3_method_6_code e := tab_of (by decide +kernel)
def tab_GA_goesOnFrom : List sT := [(0, 1, .iload_n 0, 0, [], 0, 0), (1, 1, .istore_n 2, 0, [], 0, 0), (2, 1, .iconst 0, 0, [], 0, 0), (3, 1, .istore_n 3, 0, [], 0, 0), (4, 1, .iload_n 3, 0, [], 0, 0), (5, 1, .iconst 5, 0, [], 5, 0), (6, 3, .if_icmp .gt 19, 25, [], 0, 0), (9, 1, .iload_n 2, 0, [], 0, 0), (10, 1, .iload_n 1, 0, [], 0, 0), (11, 3, .if_icmp .le 14, 25, [], 0, 0), (14, 1, .iload_n 2, 0, [], 0, 0), (15, 2, .bipush 10, 0, [], 10, 0), (17, 1, .idiv, 0, [], 0, 0), (18, 1, .istore_n 2, 0, [], 0, 0), (19, 3, .iinc 3 1, 0, [], 1, 0), (22, 3, .goto (-18), 4, [], 0, 0), (25, 1, .iload_n 2, 0, [], 0, 0), (26, 1, .iload_n 1, 0, [], 0, 0), (27, 3, .if_icmp .ne 7, 34, [], 0, 0), (30, 1, .iconst 1, 0, [], 1, 0), (31, 3, .goto 4, 35, [], 0, 0), (34, 1, .iconst 0, 0, [], 0, 0), (35, 1, .ireturn, 0, [], 0, 0)]
theorem tk_GA_goesOnFrom : ∀ e ∈ tab_GA_goesOnFrom, sTok "GathersAllFaults$Gatherer" prog_3_method_7_code e := tab_of (by decide +kernel)
def tab_TR_less : List sT := [(0, 1, .aload_n 0, 0, [], 0, 0), (1, 3, .getfield 9, 0, [], 0, 0), (4, 1, .iload_n 1, 0, [], 0, 0), (5, 3, .invokestatic 42, 0, [], 0, 0), (8, 3, .ifCond .ne 39, 47, [], 0, 0), (11, 1, .aload_n 0, 0, [], 0, 0), (12, 3, .getfield 9, 0, [], 0, 0), (15, 1, .iload_n 2, 0, [], 0, 0), (16, 3, .invokestatic 42, 0, [], 0, 0), (19, 3, .ifCond .ne 28, 47, [], 0, 0), (22, 1, .aload_n 0, 0, [], 0, 0), (23, 3, .getfield 15, 0, [], 0, 0), (26, 1, .iload_n 1, 0, [], 0, 0), (27, 3, .invokestatic 42, 0, [], 0, 0), (30, 1, .aload_n 0, 0, [], 0, 0), (31, 3, .getfield 15, 0, [], 0, 0), (34, 1, .iload_n 2, 0, [], 0, 0), (35, 3, .invokestatic 42, 0, [], 0, 0), (38, 3, .if_icmp .ge 7, 45, [], 0, 0), (41, 1, .iconst 1, 0, [], 1, 0), (42, 3, .goto 4, 46, [], 0, 0), (45, 1, .iconst 0, 0, [], 0, 0), (46, 1, .ireturn, 0, [], 0, 0), (47, 1, .aload_n 0, 0, [], 0, 0), (48, 3, .getfield 24, 0, [], 0, 0), (51, 1, .iload_n 1, 0, [], 0, 0), (52, 3, .invokestatic 42, 0, [], 0, 0), (55, 1, .aload_n 0, 0, [], 0, 0), (56, 3, .getfield 24, 0, [], 0, 0), (59, 1, .iload_n 2, 0, [], 0, 0), (60, 3, .invokestatic 42, 0, [], 0, 0), (63, 3, .if_icmp .ge 7, 70, [], 0, 0), (66, 1, .iconst 1, 0, [], 1, 0), (67, 3, .goto 4, 71, [], 0, 0), (70, 1, .iconst 0, 0, [], 0, 0), (71, 1, .ireturn, 0, [], 0, 0)]
theorem tk_TR_less : ∀ e ∈ tab_TR_less, sTok "GathersAllFaults$Tree" prog_6_method_13_code e := tab_of (by decide +kernel)
def tab_TR_alike : List sT := [(0, 1, .aload_n 0, 0, [], 0, 0), (1, 1, .iload_n 1, 0, [], 0, 0), (2, 1, .iload_n 2, 0, [], 0, 0), (3, 1, .iconst 0, 0, [], 0, 0), (4, 3, .invokevirtual 61, 0, [], 0, 0), (7, 1, .ireturn, 0, [], 0, 0)]
theorem tk_TR_alike : ∀ e ∈ tab_TR_alike, sTok "GathersAllFaults$Tree" prog_6_method_11_code e := tab_of (by decide +kernel)
def tab_TR_alikeBelow : List sT := [(0, 1, .iload_n 3, 0, [], 0, 0), (1, 1, .iconst 4, 0, [], 4, 0), (2, 3, .if_icmp .gt 79, 81, [], 0, 0), (5, 1, .aload_n 0, 0, [], 0, 0), (6, 3, .getfield 9, 0, [], 0, 0), (9, 1, .iload_n 1, 0, [], 0, 0), (10, 3, .invokestatic 42, 0, [], 0, 0), (13, 1, .aload_n 0, 0, [], 0, 0), (14, 3, .getfield 9, 0, [], 0, 0), (17, 1, .iload_n 2, 0, [], 0, 0), (18, 3, .invokestatic 42, 0, [], 0, 0), (21, 3, .if_icmp .ne 60, 81, [], 0, 0), (24, 1, .aload_n 0, 0, [], 0, 0), (25, 3, .getfield 15, 0, [], 0, 0), (28, 1, .iload_n 1, 0, [], 0, 0), (29, 3, .invokestatic 42, 0, [], 0, 0), (32, 1, .aload_n 0, 0, [], 0, 0), (33, 3, .getfield 15, 0, [], 0, 0), (36, 1, .iload_n 2, 0, [], 0, 0), (37, 3, .invokestatic 42, 0, [], 0, 0), (40, 3, .if_icmp .ne 41, 81, [], 0, 0), (43, 1, .aload_n 0, 0, [], 0, 0), (44, 3, .getfield 18, 0, [], 0, 0), (47, 1, .iload_n 1, 0, [], 0, 0), (48, 3, .invokestatic 42, 0, [], 0, 0), (51, 1, .aload_n 0, 0, [], 0, 0), (52, 3, .getfield 18, 0, [], 0, 0), (55, 1, .iload_n 2, 0, [], 0, 0), (56, 3, .invokestatic 42, 0, [], 0, 0), (59, 3, .if_icmp .ne 22, 81, [], 0, 0), (62, 1, .aload_n 0, 0, [], 0, 0), (63, 3, .getfield 24, 0, [], 0, 0), (66, 1, .iload_n 1, 0, [], 0, 0), (67, 3, .invokestatic 42, 0, [], 0, 0), (70, 1, .aload_n 0, 0, [], 0, 0), (71, 3, .getfield 24, 0, [], 0, 0), (74, 1, .iload_n 2, 0, [], 0, 0), (75, 3, .invokestatic 42, 0, [], 0, 0), (78, 3, .if_icmp .eq 5, 83, [], 0, 0), (81, 1, .iconst 0, 0, [], 0, 0), (82, 1, .ireturn, 0, [], 0, 0), (83, 1, .aload_n 0, 0, [], 0, 0), (84, 3, .getfield 18, 0, [], 0, 0), (87, 1, .iload_n 1, 0, [], 0, 0), (88, 3, .invokestatic 42, 0, [], 0, 0), (91, 2, .istore 4, 0, [], 0, 0), (93, 1, .iload_n 1, 0, [], 0, 0), (94, 1, .iconst 1, 0, [], 1, 0), (95, 1, .iadd, 0, [], 0, 0), (96, 2, .istore 5, 0, [], 0, 0), (98, 1, .iconst 0, 0, [], 0, 0), (99, 2, .istore 6, 0, [], 0, 0), (101, 2, .iload 6, 0, [], 0, 0), (103, 2, .iload 4, 0, [], 0, 0), (105, 3, .if_icmp .ge 60, 165, [], 0, 0), (108, 1, .aload_n 0, 0, [], 0, 0), (109, 1, .iload_n 2, 0, [], 0, 0), (110, 1, .aload_n 0, 0, [], 0, 0), (111, 3, .getfield 21, 0, [], 0, 0), (114, 2, .iload 5, 0, [], 0, 0), (116, 3, .invokestatic 42, 0, [], 0, 0), (119, 3, .invokevirtual 65, 0, [], 0, 0), (122, 2, .istore 7, 0, [], 0, 0), (124, 2, .iload 7, 0, [], 0, 0), (126, 3, .ifCond .lt 17, 143, [], 0, 0), (129, 1, .aload_n 0, 0, [], 0, 0), (130, 2, .iload 5, 0, [], 0, 0), (132, 2, .iload 7, 0, [], 0, 0), (134, 1, .iload_n 3, 0, [], 0, 0), (135, 1, .iconst 1, 0, [], 1, 0), (136, 1, .iadd, 0, [], 0, 0), (137, 3, .invokevirtual 61, 0, [], 0, 0), (140, 3, .ifCond .ne 5, 145, [], 0, 0), (143, 1, .iconst 0, 0, [], 0, 0), (144, 1, .ireturn, 0, [], 0, 0), (145, 2, .iload 5, 0, [], 0, 0), (147, 1, .aload_n 0, 0, [], 0, 0), (148, 3, .getfield 24, 0, [], 0, 0), (151, 2, .iload 5, 0, [], 0, 0), (153, 3, .invokestatic 42, 0, [], 0, 0), (156, 1, .iadd, 0, [], 0, 0), (157, 2, .istore 5, 0, [], 0, 0), (159, 3, .iinc 6 1, 0, [], 1, 0), (162, 3, .goto (-61), 101, [], 0, 0), (165, 1, .iconst 1, 0, [], 1, 0), (166, 1, .ireturn, 0, [], 0, 0)]
theorem tk_TR_alikeBelow : ∀ e ∈ tab_TR_alikeBelow, sTok "GathersAllFaults$Tree" prog_6_method_12_code e := tab_of (by decide +kernel)
def tab_GA_lookAtList : List sT := [(0, 1, .aload_n 0, 0, [], 0, 0), (1, 3, .getfield 21, 0, [], 0, 0), (4, 3, .getfield 86, 0, [], 0, 0), (7, 1, .iload_n 2, 0, [], 0, 0), (8, 3, .invokestatic 40, 0, [], 0, 0), (11, 2, .istore 4, 0, [], 0, 0), (13, 1, .aload_n 0, 0, [], 0, 0), (14, 3, .getfield 21, 0, [], 0, 0), (17, 3, .getfield 83, 0, [], 0, 0), (20, 1, .iload_n 2, 0, [], 0, 0), (21, 3, .invokestatic 40, 0, [], 0, 0), (24, 1, .iconst 3, 0, [], 3, 0), (25, 3, .if_icmp .eq 12, 37, [], 0, 0), (28, 1, .aload_n 0, 0, [], 0, 0), (29, 2, .iload 4, 0, [], 0, 0), (31, 2, .bipush 10, 0, [], 10, 0), (33, 3, .invokevirtual 89, 0, [], 0, 0), (36, 1, .return_, 0, [], 0, 0), (37, 1, .aload_n 0, 0, [], 0, 0), (38, 3, .getfield 21, 0, [], 0, 0), (41, 3, .getfield 101, 0, [], 0, 0), (44, 1, .iload_n 2, 0, [], 0, 0), (45, 3, .invokestatic 40, 0, [], 0, 0), (48, 2, .istore 5, 0, [], 0, 0), (50, 2, .iload 5, 0, [], 0, 0), (52, 1, .aload_n 0, 0, [], 0, 0), (53, 3, .getfield 12, 0, [], 0, 0), (56, 3, .getfield 95, 0, [], 0, 0), (59, 1, .iload_n 1, 0, [], 0, 0), (60, 3, .invokestatic 40, 0, [], 0, 0), (63, 3, .if_icmp .lt 19, 82, [], 0, 0), (66, 2, .iload 5, 0, [], 0, 0), (68, 1, .aload_n 0, 0, [], 0, 0), (69, 3, .getfield 12, 0, [], 0, 0), (72, 3, .getfield 98, 0, [], 0, 0), (75, 1, .iload_n 1, 0, [], 0, 0), (76, 3, .invokestatic 40, 0, [], 0, 0), (79, 3, .if_icmp .le 11, 90, [], 0, 0), (82, 1, .aload_n 0, 0, [], 0, 0), (83, 2, .iload 4, 0, [], 0, 0), (85, 2, .bipush 11, 0, [], 11, 0), (87, 3, .invokevirtual 89, 0, [], 0, 0), (90, 1, .iload_n 2, 0, [], 0, 0), (91, 1, .iconst 1, 0, [], 1, 0), (92, 1, .iadd, 0, [], 0, 0), (93, 2, .istore 6, 0, [], 0, 0), (95, 1, .iconst 0, 0, [], 0, 0), (96, 2, .istore 7, 0, [], 0, 0), (98, 2, .iload 7, 0, [], 0, 0), (100, 2, .iload 5, 0, [], 0, 0), (102, 3, .if_icmp .ge 38, 140, [], 0, 0), (105, 1, .aload_n 0, 0, [], 0, 0), (106, 1, .iload_n 1, 0, [], 0, 0), (107, 1, .iconst 1, 0, [], 1, 0), (108, 1, .iadd, 0, [], 0, 0), (109, 2, .iload 6, 0, [], 0, 0), (111, 1, .iload_n 3, 0, [], 0, 0), (112, 1, .iconst 1, 0, [], 1, 0), (113, 1, .iadd, 0, [], 0, 0), (114, 3, .invokevirtual 36, 0, [], 0, 0), (117, 2, .iload 6, 0, [], 0, 0), (119, 1, .aload_n 0, 0, [], 0, 0), (120, 3, .getfield 21, 0, [], 0, 0), (123, 3, .getfield 104, 0, [], 0, 0), (126, 2, .iload 6, 0, [], 0, 0), (128, 3, .invokestatic 40, 0, [], 0, 0), (131, 1, .iadd, 0, [], 0, 0), (132, 2, .istore 6, 0, [], 0, 0), (134, 3, .iinc 7 1, 0, [], 1, 0), (137, 3, .goto (-39), 98, [], 0, 0), (140, 1, .return_, 0, [], 0, 0)]
theorem tk_GA_lookAtList : ∀ e ∈ tab_GA_lookAtList, sTok "GathersAllFaults$Gatherer" prog_3_method_12_code e := tab_of (by decide +kernel)
def tab_GA_lookForTwins : List sT := [(0, 1, .aload_n 0, 0, [], 0, 0), (1, 3, .getfield 29, 0, [], 0, 0), (4, 1, .iload_n 2, 0, [], 0, 0), (5, 3, .if_icmp .le 14, 19, [], 0, 0), (8, 1, .aload_n 0, 0, [], 0, 0), (9, 1, .dup, 0, [], 0, 0), (10, 3, .getfield 33, 0, [], 0, 0), (13, 1, .iconst 1, 0, [], 1, 0), (14, 1, .iadd, 0, [], 0, 0), (15, 3, .putfield 33, 0, [], 0, 0), (18, 1, .return_, 0, [], 0, 0), (19, 1, .aload_n 0, 0, [], 0, 0), (20, 3, .getfield 21, 0, [], 0, 0), (23, 3, .getfield 83, 0, [], 0, 0), (26, 1, .iload_n 1, 0, [], 0, 0), (27, 3, .invokestatic 40, 0, [], 0, 0), (30, 1, .iconst 3, 0, [], 3, 0), (31, 3, .if_icmp .eq 4, 35, [], 0, 0), (34, 1, .return_, 0, [], 0, 0), (35, 1, .aload_n 0, 0, [], 0, 0), (36, 3, .getfield 21, 0, [], 0, 0), (39, 3, .getfield 101, 0, [], 0, 0), (42, 1, .iload_n 1, 0, [], 0, 0), (43, 3, .invokestatic 40, 0, [], 0, 0), (46, 1, .istore_n 3, 0, [], 0, 0), (47, 1, .iconst 1, 0, [], 1, 0), (48, 2, .istore 4, 0, [], 0, 0), (50, 2, .iload 4, 0, [], 0, 0), (52, 1, .iload_n 3, 0, [], 0, 0), (53, 3, .if_icmp .ge 95, 148, [], 0, 0), (56, 1, .aload_n 0, 0, [], 0, 0), (57, 3, .getfield 21, 0, [], 0, 0), (60, 1, .iload_n 1, 0, [], 0, 0), (61, 2, .bipush 6, 0, [], 6, 0), (63, 2, .iload 4, 0, [], 0, 0), (65, 1, .iadd, 0, [], 0, 0), (66, 3, .invokevirtual 126, 0, [], 0, 0), (69, 2, .istore 5, 0, [], 0, 0), (71, 1, .iconst 0, 0, [], 0, 0), (72, 2, .istore 6, 0, [], 0, 0), (74, 1, .iconst 0, 0, [], 0, 0), (75, 2, .istore 7, 0, [], 0, 0), (77, 2, .iload 7, 0, [], 0, 0), (79, 2, .iload 4, 0, [], 0, 0), (81, 3, .if_icmp .ge 38, 119, [], 0, 0), (84, 2, .iload 6, 0, [], 0, 0), (86, 3, .ifCond .ne 33, 119, [], 0, 0), (89, 1, .aload_n 0, 0, [], 0, 0), (90, 3, .getfield 21, 0, [], 0, 0), (93, 1, .aload_n 0, 0, [], 0, 0), (94, 3, .getfield 21, 0, [], 0, 0), (97, 1, .iload_n 1, 0, [], 0, 0), (98, 2, .bipush 6, 0, [], 6, 0), (100, 2, .iload 7, 0, [], 0, 0), (102, 1, .iadd, 0, [], 0, 0), (103, 3, .invokevirtual 126, 0, [], 0, 0), (106, 2, .iload 5, 0, [], 0, 0), (108, 3, .invokevirtual 151, 0, [], 0, 0), (111, 2, .istore 6, 0, [], 0, 0), (113, 3, .iinc 7 1, 0, [], 1, 0), (116, 3, .goto (-39), 77, [], 0, 0), (119, 2, .iload 6, 0, [], 0, 0), (121, 3, .ifCond .eq 21, 142, [], 0, 0), (124, 1, .aload_n 0, 0, [], 0, 0), (125, 1, .aload_n 0, 0, [], 0, 0), (126, 3, .getfield 21, 0, [], 0, 0), (129, 3, .getfield 86, 0, [], 0, 0), (132, 2, .iload 5, 0, [], 0, 0), (134, 3, .invokestatic 40, 0, [], 0, 0), (137, 2, .bipush 12, 0, [], 12, 0), (139, 3, .invokevirtual 89, 0, [], 0, 0), (142, 3, .iinc 4 1, 0, [], 1, 0), (145, 3, .goto (-95), 50, [], 0, 0), (148, 1, .return_, 0, [], 0, 0)]
theorem tk_GA_lookForTwins : ∀ e ∈ tab_GA_lookForTwins, sTok "GathersAllFaults$Gatherer" prog_3_method_17_code e := tab_of (by decide +kernel)
def tab_GA_keepFewer : List sT := [(0, 1, .aload_n 0, 0, [], 0, 0), (1, 3, .getfield 29, 0, [], 0, 0), (4, 1, .iload_n 2, 0, [], 0, 0), (5, 1, .isub, 0, [], 0, 0), (6, 2, .istore 5, 0, [], 0, 0), (8, 2, .iload 5, 0, [], 0, 0), (10, 1, .iload_n 2, 0, [], 0, 0), (11, 1, .iload_n 1, 0, [], 0, 0), (12, 1, .isub, 0, [], 0, 0), (13, 3, .if_icmp .ge 42, 55, [], 0, 0), (16, 1, .aload_n 0, 0, [], 0, 0), (17, 3, .getfield 25, 0, [], 0, 0), (20, 1, .iload_n 2, 0, [], 0, 0), (21, 1, .aload_n 0, 0, [], 0, 0), (22, 3, .getfield 29, 0, [], 0, 0), (25, 1, .iload_n 2, 0, [], 0, 0), (26, 1, .iload_n 1, 0, [], 0, 0), (27, 1, .isub, 0, [], 0, 0), (28, 3, .invokestatic 154, 0, [], 0, 0), (31, 1, .aload_n 0, 0, [], 0, 0), (32, 1, .iload_n 1, 0, [], 0, 0), (33, 2, .iload 5, 0, [], 0, 0), (35, 1, .iadd, 0, [], 0, 0), (36, 3, .putfield 29, 0, [], 0, 0), (39, 1, .aload_n 0, 0, [], 0, 0), (40, 1, .iload_n 3, 0, [], 0, 0), (41, 1, .aload_n 0, 0, [], 0, 0), (42, 3, .getfield 33, 0, [], 0, 0), (45, 1, .iadd, 0, [], 0, 0), (46, 2, .iload 4, 0, [], 0, 0), (48, 1, .isub, 0, [], 0, 0), (49, 3, .putfield 33, 0, [], 0, 0), (52, 3, .goto 14, 66, [], 0, 0), (55, 1, .aload_n 0, 0, [], 0, 0), (56, 1, .iload_n 2, 0, [], 0, 0), (57, 3, .putfield 29, 0, [], 0, 0), (60, 1, .aload_n 0, 0, [], 0, 0), (61, 2, .iload 4, 0, [], 0, 0), (63, 3, .putfield 33, 0, [], 0, 0), (66, 1, .return_, 0, [], 0, 0)]
theorem tk_GA_keepFewer : ∀ e ∈ tab_GA_keepFewer, sTok "GathersAllFaults$Gatherer" prog_3_method_18_code e := tab_of (by decide +kernel)
def tab_GF_close : List sT := [(0, 1, .aload_n 0, 0, [], 0, 0), (1, 3, .ifnull 35, 36, [], 0, 0), (4, 1, .iload_n 3, 0, [], 0, 0), (5, 3, .ifCond .lt 31, 36, [], 0, 0), (8, 1, .iload_n 3, 0, [], 0, 0), (9, 1, .iload_n 1, 0, [], 0, 0), (10, 3, .if_icmp .gt 26, 36, [], 0, 0), (13, 1, .iload_n 1, 0, [], 0, 0), (14, 1, .iload_n 2, 0, [], 0, 0), (15, 3, .if_icmp .gt 21, 36, [], 0, 0), (18, 1, .iload_n 2, 0, [], 0, 0), (19, 1, .aload_n 0, 0, [], 0, 0), (20, 1, .arraylength, 0, [], 0, 0), (21, 3, .if_icmp .gt 15, 36, [], 0, 0), (24, 1, .aload_n 0, 0, [], 0, 0), (25, 1, .iload_n 1, 0, [], 0, 0), (26, 1, .aload_n 0, 0, [], 0, 0), (27, 1, .iload_n 1, 0, [], 0, 0), (28, 1, .iload_n 3, 0, [], 0, 0), (29, 1, .isub, 0, [], 0, 0), (30, 1, .iload_n 2, 0, [], 0, 0), (31, 1, .iload_n 1, 0, [], 0, 0), (32, 1, .isub, 0, [], 0, 0), (33, 3, .invokestatic 220, 0, [], 0, 0), (36, 1, .return_, 0, [], 0, 0)]
theorem tk_GF_close : ∀ e ∈ tab_GF_close, sTok "GathersAllFaults" prog_1_method_51_code e := tab_of (by decide +kernel)
def tab_GF_fault : List sT := [(0, 1, .iload_n 2, 0, [], 0, 0), (1, 3, .ifCond .eq 15, 16, [], 0, 0), (4, 1, .iload_n 2, 0, [], 0, 0), (5, 1, .iconst 1, 0, [], 1, 0), (6, 3, .if_icmp .eq 10, 16, [], 0, 0), (9, 1, .aload_n 0, 0, [], 0, 0), (10, 2, .bipush (-2), 0, [], (-2), 0), (12, 3, .invokevirtual 60, 0, [], 0, 0), (15, 1, .ireturn, 0, [], 0, 0), (16, 1, .aload_n 0, 0, [], 0, 0), (17, 3, .getfield 22, 0, [], 0, 0), (20, 1, .aload_n 0, 0, [], 0, 0), (21, 3, .getfield 10, 0, [], 0, 0), (24, 3, .invokevirtual 121, 0, [], 0, 0), (27, 1, .istore_n 3, 0, [], 0, 0), (28, 1, .iload_n 1, 0, [], 0, 0), (29, 3, .ifCond .lt 8, 37, [], 0, 0), (32, 1, .iload_n 1, 0, [], 0, 0), (33, 1, .iload_n 3, 0, [], 0, 0), (34, 3, .if_icmp .lt 9, 43, [], 0, 0), (37, 1, .aload_n 0, 0, [], 0, 0), (38, 1, .iconst (-1), 0, [], (-1), 0), (39, 3, .invokevirtual 60, 0, [], 0, 0), (42, 1, .ireturn, 0, [], 0, 0), (43, 1, .iload_n 2, 0, [], 0, 0), (44, 3, .ifCond .ne 14, 58, [], 0, 0), (47, 1, .aload_n 0, 0, [], 0, 0), (48, 3, .getfield 22, 0, [], 0, 0), (51, 1, .iload_n 1, 0, [], 0, 0), (52, 3, .invokevirtual 125, 0, [], 0, 0), (55, 3, .goto 11, 66, [], 0, 0), (58, 1, .aload_n 0, 0, [], 0, 0), (59, 3, .getfield 22, 0, [], 0, 0), (62, 1, .iload_n 1, 0, [], 0, 0), (63, 3, .invokevirtual 128, 0, [], 0, 0), (66, 1, .ireturn, 0, [], 0, 0)]
theorem tk_GF_fault : ∀ e ∈ tab_GF_fault, sTok "GathersAllFaults" prog_1_method_10_code e := tab_of (by decide +kernel)
def tab_GF_refuse : List sT := [(0, 1, .aload_n 0, 0, [], 0, 0), (1, 3, .getfield 47, 0, [], 0, 0), (4, 1, .iload_n 1, 0, [], 0, 0), (5, 1, .ineg, 0, [], 0, 0), (6, 1, .aload_n 0, 0, [], 0, 0), (7, 3, .getfield 47, 0, [], 0, 0), (10, 1, .iload_n 1, 0, [], 0, 0), (11, 1, .ineg, 0, [], 0, 0), (12, 3, .invokestatic 102, 0, [], 0, 0), (15, 1, .iconst 1, 0, [], 1, 0), (16, 1, .iadd, 0, [], 0, 0), (17, 3, .invokestatic 68, 0, [], 0, 0), (20, 1, .iload_n 1, 0, [], 0, 0), (21, 1, .ireturn, 0, [], 0, 0)]
theorem tk_GF_refuse : ∀ e ∈ tab_GF_refuse, sTok "GathersAllFaults" prog_1_method_33_code e := tab_of (by decide +kernel)
def tab_GA_pathAt : List sT := [(0, 1, .aload_n 0, 0, [], 0, 0), (1, 3, .getfield 25, 0, [], 0, 0), (4, 1, .iload_n 1, 0, [], 0, 0), (5, 3, .invokestatic 40, 0, [], 0, 0), (8, 2, .bipush 100, 0, [], 100, 0), (10, 1, .idiv, 0, [], 0, 0), (11, 1, .ireturn, 0, [], 0, 0)]
theorem tk_GA_pathAt : ∀ e ∈ tab_GA_pathAt, sTok "GathersAllFaults$Gatherer" prog_3_method_3_code e := tab_of (by decide +kernel)
def tab_GA_codeAt : List sT := [(0, 1, .aload_n 0, 0, [], 0, 0), (1, 3, .getfield 25, 0, [], 0, 0), (4, 1, .iload_n 1, 0, [], 0, 0), (5, 3, .invokestatic 40, 0, [], 0, 0), (8, 2, .bipush 100, 0, [], 100, 0), (10, 1, .irem, 0, [], 0, 0), (11, 1, .ireturn, 0, [], 0, 0)]
theorem tk_GA_codeAt : ∀ e ∈ tab_GA_codeAt, sTok "GathersAllFaults$Gatherer" prog_3_method_4_code e := tab_of (by decide +kernel)
def tab_GF_coded : List sT := [(0, 1, .iload_n 1, 0, [], 0, 0), (1, 1, .iconst 1, 0, [], 1, 0), (2, 3, .if_icmp .lt 9, 11, [], 0, 0), (5, 1, .iload_n 1, 0, [], 0, 0), (6, 2, .bipush 12, 0, [], 12, 0), (8, 3, .if_icmp .le 10, 18, [], 0, 0), (11, 1, .aload_n 0, 0, [], 0, 0), (12, 2, .bipush (-2), 0, [], (-2), 0), (14, 3, .invokevirtual 60, 0, [], 0, 0), (17, 1, .ireturn, 0, [], 0, 0), (18, 1, .aload_n 0, 0, [], 0, 0), (19, 3, .getfield 22, 0, [], 0, 0), (22, 1, .aload_n 0, 0, [], 0, 0), (23, 3, .getfield 10, 0, [], 0, 0), (26, 3, .invokevirtual 121, 0, [], 0, 0), (29, 1, .pop, 0, [], 0, 0), (30, 1, .aload_n 0, 0, [], 0, 0), (31, 3, .getfield 22, 0, [], 0, 0), (34, 1, .iload_n 1, 0, [], 0, 0), (35, 3, .invokevirtual 131, 0, [], 0, 0), (38, 1, .ireturn, 0, [], 0, 0)]
theorem tk_GF_coded : ∀ e ∈ tab_GF_coded, sTok "GathersAllFaults" prog_1_method_11_code e := tab_of (by decide +kernel)
def tab_GA_countCode : List sT := [(0, 1, .iconst 0, 0, [], 0, 0), (1, 1, .istore_n 2, 0, [], 0, 0), (2, 1, .iconst 0, 0, [], 0, 0), (3, 1, .istore_n 3, 0, [], 0, 0), (4, 1, .iload_n 3, 0, [], 0, 0), (5, 1, .aload_n 0, 0, [], 0, 0), (6, 3, .getfield 29, 0, [], 0, 0), (9, 3, .if_icmp .ge 21, 30, [], 0, 0), (12, 1, .aload_n 0, 0, [], 0, 0), (13, 1, .iload_n 3, 0, [], 0, 0), (14, 3, .invokevirtual 44, 0, [], 0, 0), (17, 1, .iload_n 1, 0, [], 0, 0), (18, 3, .if_icmp .ne 6, 24, [], 0, 0), (21, 3, .iinc 2 1, 0, [], 1, 0), (24, 3, .iinc 3 1, 0, [], 1, 0), (27, 3, .goto (-23), 4, [], 0, 0), (30, 1, .iload_n 2, 0, [], 0, 0), (31, 1, .ireturn, 0, [], 0, 0)]
theorem tk_GA_countCode : ∀ e ∈ tab_GA_countCode, sTok "GathersAllFaults$Gatherer" prog_3_method_5_code e := tab_of (by decide +kernel)
def tab_GF_below : List sT := [(0, 1, .iload_n 1, 0, [], 0, 0), (1, 3, .ifCond .ge 10, 11, [], 0, 0), (4, 1, .aload_n 0, 0, [], 0, 0), (5, 2, .bipush (-4), 0, [], (-4), 0), (7, 3, .invokevirtual 60, 0, [], 0, 0), (10, 1, .ireturn, 0, [], 0, 0), (11, 1, .iload_n 1, 0, [], 0, 0), (12, 2, .ldc 134, 0, [], 99999, 0), (14, 3, .if_icmp .le 10, 24, [], 0, 0), (17, 1, .aload_n 0, 0, [], 0, 0), (18, 2, .bipush (-6), 0, [], (-6), 0), (20, 3, .invokevirtual 60, 0, [], 0, 0), (23, 1, .ireturn, 0, [], 0, 0), (24, 1, .aload_n 0, 0, [], 0, 0), (25, 3, .getfield 22, 0, [], 0, 0), (28, 1, .aload_n 0, 0, [], 0, 0), (29, 3, .getfield 10, 0, [], 0, 0), (32, 3, .invokevirtual 121, 0, [], 0, 0), (35, 1, .pop, 0, [], 0, 0), (36, 1, .aload_n 0, 0, [], 0, 0), (37, 3, .getfield 22, 0, [], 0, 0), (40, 1, .iload_n 1, 0, [], 0, 0), (41, 1, .iconst 0, 0, [], 0, 0), (42, 3, .invokevirtual 135, 0, [], 0, 0), (45, 1, .ireturn, 0, [], 0, 0)]
theorem tk_GF_below : ∀ e ∈ tab_GF_below, sTok "GathersAllFaults" prog_1_method_12_code e := tab_of (by decide +kernel)
def tab_GF_waits : List sT := [(0, 1, .aload_n 0, 0, [], 0, 0), (1, 3, .getfield 22, 0, [], 0, 0), (4, 1, .aload_n 0, 0, [], 0, 0), (5, 3, .getfield 10, 0, [], 0, 0), (8, 3, .invokevirtual 121, 0, [], 0, 0), (11, 1, .pop, 0, [], 0, 0), (12, 1, .aload_n 0, 0, [], 0, 0), (13, 3, .getfield 22, 0, [], 0, 0), (16, 3, .getfield 139, 0, [], 0, 0), (19, 1, .ireturn, 0, [], 0, 0)]
theorem tk_GF_waits : ∀ e ∈ tab_GF_waits, sTok "GathersAllFaults" prog_1_method_13_code e := tab_of (by decide +kernel)
def tab_GF_first : List sT := [(0, 1, .aload_n 0, 0, [], 0, 0), (1, 3, .getfield 22, 0, [], 0, 0), (4, 1, .aload_n 0, 0, [], 0, 0), (5, 3, .getfield 10, 0, [], 0, 0), (8, 3, .invokevirtual 121, 0, [], 0, 0), (11, 3, .ifCond .le 17, 28, [], 0, 0), (14, 1, .aload_n 0, 0, [], 0, 0), (15, 3, .getfield 22, 0, [], 0, 0), (18, 3, .getfield 142, 0, [], 0, 0), (21, 1, .iconst 0, 0, [], 0, 0), (22, 3, .invokestatic 102, 0, [], 0, 0), (25, 3, .goto 5, 30, [], 0, 0), (28, 2, .bipush (-9), 0, [], (-9), 0), (30, 1, .ireturn, 0, [], 0, 0)]
theorem tk_GF_first : ∀ e ∈ tab_GF_first, sTok "GathersAllFaults" prog_1_method_14_code e := tab_of (by decide +kernel)
def tab_GF_limited : List sT := [(0, 1, .iload_n 1, 0, [], 0, 0), (1, 3, .ifCond .ge 10, 11, [], 0, 0), (4, 1, .aload_n 0, 0, [], 0, 0), (5, 2, .bipush (-4), 0, [], (-4), 0), (7, 3, .invokevirtual 60, 0, [], 0, 0), (10, 1, .ireturn, 0, [], 0, 0), (11, 1, .iload_n 1, 0, [], 0, 0), (12, 2, .bipush 99, 0, [], 99, 0), (14, 3, .if_icmp .le 10, 24, [], 0, 0), (17, 1, .aload_n 0, 0, [], 0, 0), (18, 2, .bipush (-6), 0, [], (-6), 0), (20, 3, .invokevirtual 60, 0, [], 0, 0), (23, 1, .ireturn, 0, [], 0, 0), (24, 1, .iload_n 2, 0, [], 0, 0), (25, 3, .ifCond .eq 15, 40, [], 0, 0), (28, 1, .iload_n 2, 0, [], 0, 0), (29, 1, .iconst 1, 0, [], 1, 0), (30, 3, .if_icmp .eq 10, 40, [], 0, 0), (33, 1, .aload_n 0, 0, [], 0, 0), (34, 2, .bipush (-2), 0, [], (-2), 0), (36, 3, .invokevirtual 60, 0, [], 0, 0), (39, 1, .ireturn, 0, [], 0, 0), (40, 1, .iload_n 1, 0, [], 0, 0), (41, 1, .aload_n 0, 0, [], 0, 0), (42, 3, .getfield 22, 0, [], 0, 0), (45, 1, .aload_n 0, 0, [], 0, 0), (46, 3, .getfield 10, 0, [], 0, 0), (49, 3, .invokevirtual 121, 0, [], 0, 0), (52, 3, .invokestatic 145, 0, [], 0, 0), (55, 1, .istore_n 3, 0, [], 0, 0), (56, 1, .iload_n 2, 0, [], 0, 0), (57, 3, .ifCond .ne 5, 62, [], 0, 0), (60, 1, .iload_n 3, 0, [], 0, 0), (61, 1, .ireturn, 0, [], 0, 0), (62, 1, .iload_n 3, 0, [], 0, 0), (63, 3, .ifCond .le 19, 82, [], 0, 0), (66, 1, .aload_n 0, 0, [], 0, 0), (67, 3, .getfield 22, 0, [], 0, 0), (70, 3, .getfield 142, 0, [], 0, 0), (73, 1, .iload_n 3, 0, [], 0, 0), (74, 1, .iconst 1, 0, [], 1, 0), (75, 1, .isub, 0, [], 0, 0), (76, 3, .invokestatic 102, 0, [], 0, 0), (79, 3, .goto 5, 84, [], 0, 0), (82, 2, .bipush (-9), 0, [], (-9), 0), (84, 1, .ireturn, 0, [], 0, 0)]
theorem tk_GF_limited : ∀ e ∈ tab_GF_limited, sTok "GathersAllFaults" prog_1_method_15_code e := tab_of (by decide +kernel)
def tab_GF_total : List sT := [(0, 1, .aload_n 0, 0, [], 0, 0), (1, 3, .getfield 22, 0, [], 0, 0), (4, 1, .aload_n 0, 0, [], 0, 0), (5, 3, .getfield 10, 0, [], 0, 0), (8, 3, .invokevirtual 121, 0, [], 0, 0), (11, 3, .ifCond .le 6, 17, [], 0, 0), (14, 2, .bipush (-9), 0, [], (-9), 0), (16, 1, .ireturn, 0, [], 0, 0), (17, 1, .iconst 0, 0, [], 0, 0), (18, 1, .istore_n 1, 0, [], 0, 0), (19, 1, .iconst 0, 0, [], 0, 0), (20, 1, .istore_n 2, 0, [], 0, 0), (21, 1, .iload_n 2, 0, [], 0, 0), (22, 1, .aload_n 0, 0, [], 0, 0), (23, 3, .getfield 10, 0, [], 0, 0), (26, 3, .getfield 83, 0, [], 0, 0), (29, 3, .if_icmp .ge 37, 66, [], 0, 0), (32, 1, .aload_n 0, 0, [], 0, 0), (33, 3, .getfield 10, 0, [], 0, 0), (36, 3, .getfield 99, 0, [], 0, 0), (39, 1, .iload_n 2, 0, [], 0, 0), (40, 3, .invokestatic 102, 0, [], 0, 0), (43, 3, .ifCond .ne 17, 60, [], 0, 0), (46, 1, .iload_n 1, 0, [], 0, 0), (47, 1, .aload_n 0, 0, [], 0, 0), (48, 3, .getfield 10, 0, [], 0, 0), (51, 3, .getfield 105, 0, [], 0, 0), (54, 1, .iload_n 2, 0, [], 0, 0), (55, 3, .invokestatic 102, 0, [], 0, 0), (58, 1, .iadd, 0, [], 0, 0), (59, 1, .istore_n 1, 0, [], 0, 0), (60, 3, .iinc 2 1, 0, [], 1, 0), (63, 3, .goto (-42), 21, [], 0, 0), (66, 1, .iload_n 1, 0, [], 0, 0), (67, 1, .ireturn, 0, [], 0, 0)]
theorem tk_GF_total : ∀ e ∈ tab_GF_total, sTok "GathersAllFaults" prog_1_method_16_code e := tab_of (by decide +kernel)
def tab_GF_same : List sT := [(0, 1, .aload_n 0, 0, [], 0, 0), (1, 3, .getfield 10, 0, [], 0, 0), (4, 1, .iload_n 1, 0, [], 0, 0), (5, 3, .invokevirtual 96, 0, [], 0, 0), (8, 1, .istore_n 3, 0, [], 0, 0), (9, 1, .aload_n 0, 0, [], 0, 0), (10, 3, .getfield 10, 0, [], 0, 0), (13, 1, .iload_n 2, 0, [], 0, 0), (14, 3, .invokevirtual 96, 0, [], 0, 0), (17, 2, .istore 4, 0, [], 0, 0), (19, 1, .iload_n 3, 0, [], 0, 0), (20, 3, .ifCond .lt 8, 28, [], 0, 0), (23, 2, .iload 4, 0, [], 0, 0), (25, 3, .ifCond .ge 9, 34, [], 0, 0), (28, 1, .aload_n 0, 0, [], 0, 0), (29, 1, .iconst (-1), 0, [], (-1), 0), (30, 3, .invokevirtual 60, 0, [], 0, 0), (33, 1, .ireturn, 0, [], 0, 0), (34, 1, .aload_n 0, 0, [], 0, 0), (35, 3, .getfield 10, 0, [], 0, 0), (38, 1, .iload_n 3, 0, [], 0, 0), (39, 2, .iload 4, 0, [], 0, 0), (41, 3, .invokevirtual 150, 0, [], 0, 0), (44, 3, .ifCond .eq 7, 51, [], 0, 0), (47, 1, .iconst 1, 0, [], 1, 0), (48, 3, .goto 4, 52, [], 0, 0), (51, 1, .iconst 0, 0, [], 0, 0), (52, 1, .ireturn, 0, [], 0, 0)]
theorem tk_GF_same : ∀ e ∈ tab_GF_same, sTok "GathersAllFaults" prog_1_method_17_code e := tab_of (by decide +kernel)
def tab_TR_find : List sT := [(0, 1, .iconst 0, 0, [], 0, 0), (1, 1, .istore_n 2, 0, [], 0, 0), (2, 1, .iload_n 2, 0, [], 0, 0), (3, 1, .aload_n 0, 0, [], 0, 0), (4, 3, .getfield 30, 0, [], 0, 0), (7, 3, .if_icmp .ge 23, 30, [], 0, 0), (10, 1, .aload_n 0, 0, [], 0, 0), (11, 3, .getfield 27, 0, [], 0, 0), (14, 1, .iload_n 2, 0, [], 0, 0), (15, 3, .invokestatic 42, 0, [], 0, 0), (18, 1, .iload_n 1, 0, [], 0, 0), (19, 3, .if_icmp .ne 5, 24, [], 0, 0), (22, 1, .iload_n 2, 0, [], 0, 0), (23, 1, .ireturn, 0, [], 0, 0), (24, 3, .iinc 2 1, 0, [], 1, 0), (27, 3, .goto (-25), 2, [], 0, 0), (30, 1, .iconst (-1), 0, [], (-1), 0), (31, 1, .ireturn, 0, [], 0, 0)]
theorem tk_TR_find : ∀ e ∈ tab_TR_find, sTok "GathersAllFaults$Tree" prog_6_method_3_code e := tab_of (by decide +kernel)
def tab_GF_image : List sT := [(0, 1, .aload_n 0, 0, [], 0, 0), (1, 3, .getfield 50, 0, [], 0, 0), (4, 1, .aload_n 0, 0, [], 0, 0), (5, 3, .getfield 10, 0, [], 0, 0), (8, 3, .invokevirtual 79, 0, [], 0, 0), (11, 1, .aload_n 0, 0, [], 0, 0), (12, 3, .getfield 56, 0, [], 0, 0), (15, 1, .aload_n 0, 0, [], 0, 0), (16, 3, .getfield 22, 0, [], 0, 0), (19, 3, .getfield 87, 0, [], 0, 0), (22, 3, .invokevirtual 92, 0, [], 0, 0), (25, 1, .aload_n 0, 0, [], 0, 0), (26, 1, .iconst 1, 0, [], 1, 0), (27, 3, .putfield 201, 0, [], 0, 0), (30, 1, .aload_n 0, 0, [], 0, 0), (31, 3, .getfield 10, 0, [], 0, 0), (34, 3, .getfield 83, 0, [], 0, 0), (37, 1, .ireturn, 0, [], 0, 0)]
theorem tk_GF_image : ∀ e ∈ tab_GF_image, sTok "GathersAllFaults" prog_1_method_30_code e := tab_of (by decide +kernel)
def tab_TR_take : List sT := [(0, 1, .aload_n 1, 0, [], 0, 0), (1, 3, .ifnonnull 4, 5, [], 0, 0), (4, 1, .return_, 0, [], 0, 0), (5, 1, .aload_n 1, 0, [], 0, 0), (6, 3, .getfield 9, 0, [], 0, 0), (9, 1, .aload_n 0, 0, [], 0, 0), (10, 3, .getfield 9, 0, [], 0, 0), (13, 3, .invokestatic 38, 0, [], 0, 0), (16, 1, .aload_n 1, 0, [], 0, 0), (17, 3, .getfield 15, 0, [], 0, 0), (20, 1, .aload_n 0, 0, [], 0, 0), (21, 3, .getfield 15, 0, [], 0, 0), (24, 3, .invokestatic 38, 0, [], 0, 0), (27, 1, .aload_n 1, 0, [], 0, 0), (28, 3, .getfield 18, 0, [], 0, 0), (31, 1, .aload_n 0, 0, [], 0, 0), (32, 3, .getfield 18, 0, [], 0, 0), (35, 3, .invokestatic 38, 0, [], 0, 0), (38, 1, .aload_n 1, 0, [], 0, 0), (39, 3, .getfield 21, 0, [], 0, 0), (42, 1, .aload_n 0, 0, [], 0, 0), (43, 3, .getfield 21, 0, [], 0, 0), (46, 3, .invokestatic 38, 0, [], 0, 0), (49, 1, .aload_n 1, 0, [], 0, 0), (50, 3, .getfield 24, 0, [], 0, 0), (53, 1, .aload_n 0, 0, [], 0, 0), (54, 3, .getfield 24, 0, [], 0, 0), (57, 3, .invokestatic 38, 0, [], 0, 0), (60, 1, .aload_n 1, 0, [], 0, 0), (61, 3, .getfield 27, 0, [], 0, 0), (64, 1, .aload_n 0, 0, [], 0, 0), (65, 3, .getfield 27, 0, [], 0, 0), (68, 3, .invokestatic 38, 0, [], 0, 0), (71, 1, .aload_n 0, 0, [], 0, 0), (72, 1, .aload_n 1, 0, [], 0, 0), (73, 3, .getfield 30, 0, [], 0, 0), (76, 3, .putfield 30, 0, [], 0, 0), (79, 1, .return_, 0, [], 0, 0)]
theorem tk_TR_take : ∀ e ∈ tab_TR_take, sTok "GathersAllFaults$Tree" prog_6_method_2_code e := tab_of (by decide +kernel)
def tab_GF_copy : List sT := [(0, 1, .aload_n 0, 0, [], 0, 0), (1, 3, .ifnull 21, 22, [], 0, 0), (4, 1, .aload_n 1, 0, [], 0, 0), (5, 3, .ifnull 17, 22, [], 0, 0), (8, 1, .aload_n 0, 0, [], 0, 0), (9, 1, .iconst 0, 0, [], 0, 0), (10, 1, .aload_n 1, 0, [], 0, 0), (11, 1, .iconst 0, 0, [], 0, 0), (12, 1, .aload_n 0, 0, [], 0, 0), (13, 1, .arraylength, 0, [], 0, 0), (14, 1, .aload_n 1, 0, [], 0, 0), (15, 1, .arraylength, 0, [], 0, 0), (16, 3, .invokestatic 145, 0, [], 0, 0), (19, 3, .invokestatic 220, 0, [], 0, 0), (22, 1, .return_, 0, [], 0, 0)]
theorem tk_GF_copy : ∀ e ∈ tab_GF_copy, sTok "GathersAllFaults" prog_1_method_50_code e := tab_of (by decide +kernel)
def tab_PL_take : List sT := [(0, 1, .aload_n 1, 0, [], 0, 0), (1, 3, .ifnonnull 4, 5, [], 0, 0), (4, 1, .return_, 0, [], 0, 0), (5, 1, .aload_n 1, 0, [], 0, 0), (6, 3, .getfield 9, 0, [], 0, 0), (9, 1, .aload_n 0, 0, [], 0, 0), (10, 3, .getfield 9, 0, [], 0, 0), (13, 3, .invokestatic 59, 0, [], 0, 0), (16, 1, .aload_n 1, 0, [], 0, 0), (17, 3, .getfield 15, 0, [], 0, 0), (20, 1, .aload_n 0, 0, [], 0, 0), (21, 3, .getfield 15, 0, [], 0, 0), (24, 3, .invokestatic 59, 0, [], 0, 0), (27, 1, .aload_n 1, 0, [], 0, 0), (28, 3, .getfield 18, 0, [], 0, 0), (31, 1, .aload_n 0, 0, [], 0, 0), (32, 3, .getfield 18, 0, [], 0, 0), (35, 3, .invokestatic 59, 0, [], 0, 0), (38, 1, .aload_n 1, 0, [], 0, 0), (39, 3, .getfield 21, 0, [], 0, 0), (42, 1, .aload_n 0, 0, [], 0, 0), (43, 3, .getfield 21, 0, [], 0, 0), (46, 3, .invokestatic 59, 0, [], 0, 0), (49, 1, .aload_n 1, 0, [], 0, 0), (50, 3, .getfield 24, 0, [], 0, 0), (53, 1, .aload_n 0, 0, [], 0, 0), (54, 3, .getfield 24, 0, [], 0, 0), (57, 3, .invokestatic 59, 0, [], 0, 0), (60, 1, .aload_n 1, 0, [], 0, 0), (61, 3, .getfield 27, 0, [], 0, 0), (64, 1, .aload_n 0, 0, [], 0, 0), (65, 3, .getfield 27, 0, [], 0, 0), (68, 3, .invokestatic 59, 0, [], 0, 0), (71, 1, .aload_n 1, 0, [], 0, 0), (72, 3, .getfield 30, 0, [], 0, 0), (75, 1, .aload_n 0, 0, [], 0, 0), (76, 3, .getfield 30, 0, [], 0, 0), (79, 3, .invokestatic 59, 0, [], 0, 0), (82, 1, .aload_n 1, 0, [], 0, 0), (83, 3, .getfield 33, 0, [], 0, 0), (86, 1, .aload_n 0, 0, [], 0, 0), (87, 3, .getfield 33, 0, [], 0, 0), (90, 3, .invokestatic 59, 0, [], 0, 0), (93, 1, .aload_n 1, 0, [], 0, 0), (94, 3, .getfield 36, 0, [], 0, 0), (97, 1, .aload_n 0, 0, [], 0, 0), (98, 3, .getfield 36, 0, [], 0, 0), (101, 3, .invokestatic 59, 0, [], 0, 0), (104, 1, .aload_n 1, 0, [], 0, 0), (105, 3, .getfield 39, 0, [], 0, 0), (108, 1, .aload_n 0, 0, [], 0, 0), (109, 3, .getfield 39, 0, [], 0, 0), (112, 3, .invokestatic 59, 0, [], 0, 0), (115, 1, .aload_n 1, 0, [], 0, 0), (116, 3, .getfield 42, 0, [], 0, 0), (119, 1, .aload_n 0, 0, [], 0, 0), (120, 3, .getfield 42, 0, [], 0, 0), (123, 3, .invokestatic 59, 0, [], 0, 0), (126, 1, .aload_n 1, 0, [], 0, 0), (127, 3, .getfield 45, 0, [], 0, 0), (130, 1, .aload_n 0, 0, [], 0, 0), (131, 3, .getfield 45, 0, [], 0, 0), (134, 3, .invokestatic 59, 0, [], 0, 0), (137, 1, .aload_n 1, 0, [], 0, 0), (138, 3, .getfield 48, 0, [], 0, 0), (141, 1, .aload_n 0, 0, [], 0, 0), (142, 3, .getfield 48, 0, [], 0, 0), (145, 3, .invokestatic 59, 0, [], 0, 0), (148, 1, .aload_n 0, 0, [], 0, 0), (149, 1, .aload_n 1, 0, [], 0, 0), (150, 3, .getfield 51, 0, [], 0, 0), (153, 3, .putfield 51, 0, [], 0, 0), (156, 1, .aload_n 0, 0, [], 0, 0), (157, 1, .aload_n 1, 0, [], 0, 0), (158, 3, .getfield 63, 0, [], 0, 0), (161, 3, .putfield 63, 0, [], 0, 0), (164, 1, .return_, 0, [], 0, 0)]
theorem tk_PL_take : ∀ e ∈ tab_PL_take, sTok "GathersAllFaults$Plan" prog_4_method_2_code e := tab_of (by decide +kernel)
def tab_GF_on : List sT := [(0, 1, .aload_n 0, 0, [], 0, 0), (1, 3, .getfield 201, 0, [], 0, 0), (4, 3, .ifCond .ne 10, 14, [], 0, 0), (7, 1, .aload_n 0, 0, [], 0, 0), (8, 2, .bipush (-3), 0, [], (-3), 0), (10, 3, .invokevirtual 60, 0, [], 0, 0), (13, 1, .ireturn, 0, [], 0, 0), (14, 1, .aload_n 0, 0, [], 0, 0), (15, 3, .getfield 10, 0, [], 0, 0), (18, 1, .aload_n 0, 0, [], 0, 0), (19, 3, .getfield 50, 0, [], 0, 0), (22, 3, .invokevirtual 79, 0, [], 0, 0), (25, 1, .aload_n 0, 0, [], 0, 0), (26, 3, .getfield 22, 0, [], 0, 0), (29, 3, .getfield 87, 0, [], 0, 0), (32, 1, .aload_n 0, 0, [], 0, 0), (33, 3, .getfield 56, 0, [], 0, 0), (36, 3, .invokevirtual 92, 0, [], 0, 0), (39, 1, .aload_n 0, 0, [], 0, 0), (40, 3, .getfield 10, 0, [], 0, 0), (43, 3, .getfield 83, 0, [], 0, 0), (46, 1, .ireturn, 0, [], 0, 0)]
theorem tk_GF_on : ∀ e ∈ tab_GF_on, sTok "GathersAllFaults" prog_1_method_31_code e := tab_of (by decide +kernel)
def tab_GF_count : List sT := [(0, 1, .iload_n 1, 0, [], 0, 0), (1, 47, .tableswitch 118 0 7 #[47, 55, 66, 78, 83, 88, 108, 113], 119, [(0, 48), (1, 56), (2, 67), (3, 79), (4, 84), (5, 89), (6, 109), (7, 114)], 0, 0), (48, 1, .aload_n 0, 0, [], 0, 0), (49, 3, .getfield 10, 0, [], 0, 0), (52, 3, .getfield 83, 0, [], 0, 0), (55, 1, .ireturn, 0, [], 0, 0), (56, 1, .aload_n 0, 0, [], 0, 0), (57, 3, .getfield 22, 0, [], 0, 0), (60, 3, .getfield 87, 0, [], 0, 0), (63, 3, .getfield 95, 0, [], 0, 0), (66, 1, .ireturn, 0, [], 0, 0), (67, 1, .aload_n 0, 0, [], 0, 0), (68, 3, .getfield 22, 0, [], 0, 0), (71, 1, .aload_n 0, 0, [], 0, 0), (72, 3, .getfield 10, 0, [], 0, 0), (75, 3, .invokevirtual 121, 0, [], 0, 0), (78, 1, .ireturn, 0, [], 0, 0), (79, 1, .aload_n 0, 0, [], 0, 0), (80, 3, .invokevirtual 168, 0, [], 0, 0), (83, 1, .ireturn, 0, [], 0, 0), (84, 1, .aload_n 0, 0, [], 0, 0), (85, 3, .invokevirtual 205, 0, [], 0, 0), (88, 1, .ireturn, 0, [], 0, 0), (89, 1, .aload_n 0, 0, [], 0, 0), (90, 3, .getfield 22, 0, [], 0, 0), (93, 1, .aload_n 0, 0, [], 0, 0), (94, 3, .getfield 10, 0, [], 0, 0), (97, 3, .invokevirtual 121, 0, [], 0, 0), (100, 1, .pop, 0, [], 0, 0), (101, 1, .aload_n 0, 0, [], 0, 0), (102, 3, .getfield 22, 0, [], 0, 0), (105, 3, .getfield 139, 0, [], 0, 0), (108, 1, .ireturn, 0, [], 0, 0), (109, 1, .aload_n 0, 0, [], 0, 0), (110, 3, .getfield 192, 0, [], 0, 0), (113, 1, .ireturn, 0, [], 0, 0), (114, 1, .aload_n 0, 0, [], 0, 0), (115, 3, .getfield 64, 0, [], 0, 0), (118, 1, .ireturn, 0, [], 0, 0), (119, 1, .iload_n 1, 0, [], 0, 0), (120, 2, .bipush 11, 0, [], 11, 0), (122, 3, .if_icmp .lt 23, 145, [], 0, 0), (125, 1, .iload_n 1, 0, [], 0, 0), (126, 2, .bipush 16, 0, [], 16, 0), (128, 3, .if_icmp .gt 17, 145, [], 0, 0), (131, 1, .aload_n 0, 0, [], 0, 0), (132, 3, .getfield 47, 0, [], 0, 0), (135, 1, .iload_n 1, 0, [], 0, 0), (136, 2, .bipush 10, 0, [], 10, 0), (138, 1, .isub, 0, [], 0, 0), (139, 3, .invokestatic 102, 0, [], 0, 0), (142, 3, .goto 5, 147, [], 0, 0), (145, 2, .bipush (-9), 0, [], (-9), 0), (147, 1, .ireturn, 0, [], 0, 0)]
theorem tk_GF_count : ∀ e ∈ tab_GF_count, sTok "GathersAllFaults" prog_1_method_32_code e := tab_of (by decide +kernel)
def tab_GF_numbers : List sT := [(0, 1, .iconst 0, 0, [], 0, 0), (1, 1, .istore_n 1, 0, [], 0, 0), (2, 1, .iconst 0, 0, [], 0, 0), (3, 1, .istore_n 2, 0, [], 0, 0), (4, 1, .iload_n 2, 0, [], 0, 0), (5, 1, .aload_n 0, 0, [], 0, 0), (6, 3, .getfield 10, 0, [], 0, 0), (9, 3, .getfield 83, 0, [], 0, 0), (12, 3, .if_icmp .ge 26, 38, [], 0, 0), (15, 1, .aload_n 0, 0, [], 0, 0), (16, 3, .getfield 10, 0, [], 0, 0), (19, 3, .getfield 99, 0, [], 0, 0), (22, 1, .iload_n 2, 0, [], 0, 0), (23, 3, .invokestatic 102, 0, [], 0, 0), (26, 3, .ifCond .ne 6, 32, [], 0, 0), (29, 3, .iinc 1 1, 0, [], 1, 0), (32, 3, .iinc 2 1, 0, [], 1, 0), (35, 3, .goto (-31), 4, [], 0, 0), (38, 1, .iload_n 1, 0, [], 0, 0), (39, 1, .ireturn, 0, [], 0, 0)]
theorem tk_GF_numbers : ∀ e ∈ tab_GF_numbers, sTok "GathersAllFaults" prog_1_method_41_code e := tab_of (by decide +kernel)
def tab_GF_greatestPath : List sT := [(0, 1, .iconst 0, 0, [], 0, 0), (1, 1, .istore_n 1, 0, [], 0, 0), (2, 1, .iconst 0, 0, [], 0, 0), (3, 1, .istore_n 2, 0, [], 0, 0), (4, 1, .iload_n 2, 0, [], 0, 0), (5, 1, .aload_n 0, 0, [], 0, 0), (6, 3, .getfield 10, 0, [], 0, 0), (9, 3, .getfield 83, 0, [], 0, 0), (12, 3, .if_icmp .ge 25, 37, [], 0, 0), (15, 1, .iload_n 1, 0, [], 0, 0), (16, 1, .aload_n 0, 0, [], 0, 0), (17, 3, .getfield 10, 0, [], 0, 0), (20, 3, .getfield 114, 0, [], 0, 0), (23, 1, .iload_n 2, 0, [], 0, 0), (24, 3, .invokestatic 102, 0, [], 0, 0), (27, 3, .invokestatic 217, 0, [], 0, 0), (30, 1, .istore_n 1, 0, [], 0, 0), (31, 3, .iinc 2 1, 0, [], 1, 0), (34, 3, .goto (-30), 4, [], 0, 0), (37, 1, .iload_n 1, 0, [], 0, 0), (38, 1, .ireturn, 0, [], 0, 0)]
theorem tk_GF_greatestPath : ∀ e ∈ tab_GF_greatestPath, sTok "GathersAllFaults" prog_1_method_42_code e := tab_of (by decide +kernel)
def tab_GF_letter : List sT := [(0, 1, .iload_n 1, 0, [], 0, 0), (1, 3, .ifCond .ge 10, 11, [], 0, 0), (4, 1, .aload_n 0, 0, [], 0, 0), (5, 2, .bipush (-4), 0, [], (-4), 0), (7, 3, .invokevirtual 60, 0, [], 0, 0), (10, 1, .ireturn, 0, [], 0, 0), (11, 1, .iload_n 1, 0, [], 0, 0), (12, 3, .sipush 255, 0, [], 255, 0), (15, 3, .if_icmp .gt 12, 27, [], 0, 0), (18, 1, .aload_n 0, 0, [], 0, 0), (19, 3, .getfield 64, 0, [], 0, 0), (22, 2, .bipush 96, 0, [], 96, 0), (24, 3, .if_icmp .lt 10, 34, [], 0, 0), (27, 1, .aload_n 0, 0, [], 0, 0), (28, 2, .bipush (-6), 0, [], (-6), 0), (30, 3, .invokevirtual 60, 0, [], 0, 0), (33, 1, .ireturn, 0, [], 0, 0), (34, 1, .aload_n 0, 0, [], 0, 0), (35, 3, .getfield 40, 0, [], 0, 0), (38, 1, .aload_n 0, 0, [], 0, 0), (39, 3, .getfield 64, 0, [], 0, 0), (42, 1, .iload_n 1, 0, [], 0, 0), (43, 3, .invokestatic 68, 0, [], 0, 0), (46, 1, .aload_n 0, 0, [], 0, 0), (47, 1, .dup, 0, [], 0, 0), (48, 3, .getfield 64, 0, [], 0, 0), (51, 1, .iconst 1, 0, [], 1, 0), (52, 1, .iadd, 0, [], 0, 0), (53, 3, .putfield 64, 0, [], 0, 0), (56, 1, .aload_n 0, 0, [], 0, 0), (57, 3, .getfield 64, 0, [], 0, 0), (60, 1, .ireturn, 0, [], 0, 0)]
theorem tk_GF_letter : ∀ e ∈ tab_GF_letter, sTok "GathersAllFaults" prog_1_method_2_code e := tab_of (by decide +kernel)
def tab_GF_check : List sT := [(0, 1, .aload_n 0, 0, [], 0, 0), (1, 3, .getfield 36, 0, [], 0, 0), (4, 1, .aload_n 0, 0, [], 0, 0), (5, 3, .getfield 40, 0, [], 0, 0), (8, 1, .aload_n 0, 0, [], 0, 0), (9, 3, .getfield 64, 0, [], 0, 0), (12, 3, .invokevirtual 86, 0, [], 0, 0), (15, 1, .istore_n 1, 0, [], 0, 0), (16, 1, .aload_n 0, 0, [], 0, 0), (17, 1, .iconst 0, 0, [], 0, 0), (18, 3, .putfield 64, 0, [], 0, 0), (21, 1, .iload_n 1, 0, [], 0, 0), (22, 3, .ifCond .eq 5, 27, [], 0, 0), (25, 1, .iload_n 1, 0, [], 0, 0), (26, 1, .ireturn, 0, [], 0, 0), (27, 1, .aload_n 0, 0, [], 0, 0), (28, 3, .getfield 22, 0, [], 0, 0), (31, 3, .getfield 87, 0, [], 0, 0), (34, 1, .aload_n 0, 0, [], 0, 0), (35, 3, .getfield 36, 0, [], 0, 0), (38, 3, .getfield 90, 0, [], 0, 0), (41, 3, .invokevirtual 92, 0, [], 0, 0), (44, 1, .aload_n 0, 0, [], 0, 0), (45, 3, .getfield 22, 0, [], 0, 0), (48, 3, .getfield 87, 0, [], 0, 0), (51, 3, .getfield 95, 0, [], 0, 0), (54, 1, .ireturn, 0, [], 0, 0)]
theorem tk_GF_check : ∀ e ∈ tab_GF_check, sTok "GathersAllFaults" prog_1_method_4_code e := tab_of (by decide +kernel)
def tab_RD_read : List sT := [(0, 1, .aload_n 0, 0, [], 0, 0), (1, 1, .aload_n 1, 0, [], 0, 0), (2, 1, .iload_n 2, 0, [], 0, 0), (3, 3, .invokevirtual 15, 0, [], 0, 0), (6, 1, .istore_n 3, 0, [], 0, 0), (7, 1, .iload_n 3, 0, [], 0, 0), (8, 3, .ifCond .lt 9, 17, [], 0, 0), (11, 3, .sipush (-1000), 0, [], (-1000), 0), (14, 1, .iload_n 3, 0, [], 0, 0), (15, 1, .isub, 0, [], 0, 0), (16, 1, .ireturn, 0, [], 0, 0), (17, 1, .aload_n 0, 0, [], 0, 0), (18, 1, .iconst 0, 0, [], 0, 0), (19, 3, .putfield 19, 0, [], 0, 0), (22, 1, .aload_n 0, 0, [], 0, 0), (23, 1, .aload_n 1, 0, [], 0, 0), (24, 1, .iload_n 2, 0, [], 0, 0), (25, 3, .invokevirtual 23, 0, [], 0, 0), (28, 1, .istore_n 3, 0, [], 0, 0), (29, 1, .iload_n 3, 0, [], 0, 0), (30, 3, .ifCond .lt 11, 41, [], 0, 0), (33, 3, .sipush (-2000), 0, [], (-2000), 0), (36, 1, .iload_n 3, 0, [], 0, 0), (37, 1, .isub, 0, [], 0, 0), (38, 3, .goto 4, 42, [], 0, 0), (41, 1, .iconst 0, 0, [], 0, 0), (42, 1, .ireturn, 0, [], 0, 0)]
theorem tk_RD_read : ∀ e ∈ tab_RD_read, sTok "GathersAllFaults$Reader" prog_5_method_2_code e := tab_of (by decide +kernel)
def tab_RD_stumble : List sT := [(0, 1, .aload_n 0, 0, [], 0, 0), (1, 1, .iconst 0, 0, [], 0, 0), (2, 3, .putfield 19, 0, [], 0, 0), (5, 1, .aload_n 0, 0, [], 0, 0), (6, 1, .iconst 0, 0, [], 0, 0), (7, 3, .putfield 26, 0, [], 0, 0), (10, 1, .aload_n 0, 0, [], 0, 0), (11, 1, .iconst 0, 0, [], 0, 0), (12, 3, .putfield 29, 0, [], 0, 0), (15, 1, .iconst 0, 0, [], 0, 0), (16, 1, .istore_n 3, 0, [], 0, 0), (17, 1, .iload_n 3, 0, [], 0, 0), (18, 1, .iload_n 2, 0, [], 0, 0), (19, 3, .if_icmp .ge 23, 42, [], 0, 0), (22, 1, .aload_n 0, 0, [], 0, 0), (23, 1, .aload_n 1, 0, [], 0, 0), (24, 1, .iload_n 3, 0, [], 0, 0), (25, 3, .invokestatic 33, 0, [], 0, 0), (28, 3, .invokevirtual 36, 0, [], 0, 0), (31, 3, .ifCond .ne 5, 36, [], 0, 0), (34, 1, .iload_n 3, 0, [], 0, 0), (35, 1, .ireturn, 0, [], 0, 0), (36, 3, .iinc 3 1, 0, [], 1, 0), (39, 3, .goto (-22), 17, [], 0, 0), (42, 1, .aload_n 0, 0, [], 0, 0), (43, 3, .getfield 26, 0, [], 0, 0), (46, 1, .iconst 1, 0, [], 1, 0), (47, 3, .if_icmp .ne 7, 54, [], 0, 0), (50, 1, .iconst (-1), 0, [], (-1), 0), (51, 3, .goto 4, 55, [], 0, 0), (54, 1, .iload_n 2, 0, [], 0, 0), (55, 1, .ireturn, 0, [], 0, 0)]
theorem tk_RD_stumble : ∀ e ∈ tab_RD_stumble, sTok "GathersAllFaults$Reader" prog_5_method_3_code e := tab_of (by decide +kernel)
def tab_CR_goesOn : List sT := [(0, 1, .aload_n 0, 0, [], 0, 0), (1, 3, .getfield 22, 0, [], 0, 0), (4, 44, .tableswitch 146 0 6 #[44, 146, 50, 76, 98, 108, 114], 150, [(0, 48), (1, 150), (2, 54), (3, 80), (4, 102), (5, 112), (6, 118)], 0, 0), (48, 1, .aload_n 0, 0, [], 0, 0), (49, 1, .iload_n 1, 0, [], 0, 0), (50, 3, .invokevirtual 26, 0, [], 0, 0), (53, 1, .ireturn, 0, [], 0, 0), (54, 1, .aload_n 0, 0, [], 0, 0), (55, 1, .dup, 0, [], 0, 0), (56, 3, .getfield 30, 0, [], 0, 0), (59, 1, .iconst 1, 0, [], 1, 0), (60, 1, .isub, 0, [], 0, 0), (61, 3, .putfield 30, 0, [], 0, 0), (64, 1, .aload_n 0, 0, [], 0, 0), (65, 3, .getfield 30, 0, [], 0, 0), (68, 3, .ifCond .ne 7, 75, [], 0, 0), (71, 1, .aload_n 0, 0, [], 0, 0), (72, 3, .invokevirtual 33, 0, [], 0, 0), (75, 1, .iload_n 1, 0, [], 0, 0), (76, 3, .invokestatic 36, 0, [], 0, 0), (79, 1, .ireturn, 0, [], 0, 0), (80, 1, .aload_n 0, 0, [], 0, 0), (81, 1, .iload_n 1, 0, [], 0, 0), (82, 3, .invokevirtual 39, 0, [], 0, 0), (85, 3, .ifCond .ne 11, 96, [], 0, 0), (88, 1, .aload_n 0, 0, [], 0, 0), (89, 1, .iload_n 1, 0, [], 0, 0), (90, 3, .invokevirtual 42, 0, [], 0, 0), (93, 3, .ifCond .eq 7, 100, [], 0, 0), (96, 1, .iconst 1, 0, [], 1, 0), (97, 3, .goto 4, 101, [], 0, 0), (100, 1, .iconst 0, 0, [], 0, 0), (101, 1, .ireturn, 0, [], 0, 0), (102, 1, .aload_n 0, 0, [], 0, 0), (103, 1, .iconst 0, 0, [], 0, 0), (104, 3, .putfield 22, 0, [], 0, 0), (107, 1, .iload_n 1, 0, [], 0, 0), (108, 3, .invokestatic 45, 0, [], 0, 0), (111, 1, .ireturn, 0, [], 0, 0), (112, 1, .aload_n 0, 0, [], 0, 0), (113, 1, .iload_n 1, 0, [], 0, 0), (114, 3, .invokevirtual 42, 0, [], 0, 0), (117, 1, .ireturn, 0, [], 0, 0), (118, 1, .aload_n 0, 0, [], 0, 0), (119, 1, .dup, 0, [], 0, 0), (120, 3, .getfield 30, 0, [], 0, 0), (123, 1, .iconst 1, 0, [], 1, 0), (124, 1, .isub, 0, [], 0, 0), (125, 3, .putfield 30, 0, [], 0, 0), (128, 1, .aload_n 0, 0, [], 0, 0), (129, 1, .aload_n 0, 0, [], 0, 0), (130, 3, .getfield 30, 0, [], 0, 0), (133, 3, .ifCond .ne 7, 140, [], 0, 0), (136, 1, .iconst 5, 0, [], 5, 0), (137, 3, .goto 5, 142, [], 0, 0), (140, 2, .bipush 6, 0, [], 6, 0), (142, 3, .putfield 22, 0, [], 0, 0), (145, 1, .iload_n 1, 0, [], 0, 0), (146, 3, .invokestatic 45, 0, [], 0, 0), (149, 1, .ireturn, 0, [], 0, 0), (150, 1, .iconst 0, 0, [], 0, 0), (151, 1, .ireturn, 0, [], 0, 0)]
theorem tk_CR_goesOn : ∀ e ∈ tab_CR_goesOn, sTok "GathersAllFaults$CheckReader" prog_2_method_2_code e := tab_of (by decide +kernel)
def tab_CR_begins : List sT := [(0, 1, .iload_n 1, 0, [], 0, 0), (1, 83, .lookupswitch 147 #[(33, 126), (35, 89), (38, 126), (42, 83), (47, 128), (64, 89), (94, 83), (123, 135), (126, 126)], 148, [(33, 127), (35, 90), (38, 127), (42, 84), (47, 129), (64, 90), (94, 84), (123, 136), (126, 127)], 0, 0), (84, 1, .aload_n 0, 0, [], 0, 0), (85, 3, .invokevirtual 48, 0, [], 0, 0), (88, 1, .iconst 1, 0, [], 1, 0), (89, 1, .ireturn, 0, [], 0, 0), (90, 1, .aload_n 0, 0, [], 0, 0), (91, 1, .iconst 2, 0, [], 2, 0), (92, 3, .putfield 22, 0, [], 0, 0), (95, 1, .aload_n 0, 0, [], 0, 0), (96, 1, .iload_n 1, 0, [], 0, 0), (97, 2, .bipush 35, 0, [], 35, 0), (99, 3, .if_icmp .ne 7, 106, [], 0, 0), (102, 1, .iconst 4, 0, [], 4, 0), (103, 3, .goto 4, 107, [], 0, 0), (106, 1, .iconst 2, 0, [], 2, 0), (107, 3, .putfield 30, 0, [], 0, 0), (110, 1, .aload_n 0, 0, [], 0, 0), (111, 1, .iload_n 1, 0, [], 0, 0), (112, 2, .bipush 64, 0, [], 64, 0), (114, 3, .if_icmp .ne 7, 121, [], 0, 0), (117, 1, .iconst 1, 0, [], 1, 0), (118, 3, .goto 4, 122, [], 0, 0), (121, 1, .iconst 0, 0, [], 0, 0), (122, 3, .putfield 51, 0, [], 0, 0), (125, 1, .iconst 1, 0, [], 1, 0), (126, 1, .ireturn, 0, [], 0, 0), (127, 1, .iconst 1, 0, [], 1, 0), (128, 1, .ireturn, 0, [], 0, 0), (129, 1, .aload_n 0, 0, [], 0, 0), (130, 1, .iload_n 1, 0, [], 0, 0), (131, 3, .invokevirtual 55, 0, [], 0, 0), (134, 1, .iconst 1, 0, [], 1, 0), (135, 1, .ireturn, 0, [], 0, 0), (136, 1, .aload_n 0, 0, [], 0, 0), (137, 1, .iload_n 1, 0, [], 0, 0), (138, 3, .invokevirtual 55, 0, [], 0, 0), (141, 1, .aload_n 0, 0, [], 0, 0), (142, 1, .iconst 3, 0, [], 3, 0), (143, 3, .putfield 22, 0, [], 0, 0), (146, 1, .iconst 1, 0, [], 1, 0), (147, 1, .ireturn, 0, [], 0, 0), (148, 1, .iconst 0, 0, [], 0, 0), (149, 1, .ireturn, 0, [], 0, 0)]
theorem tk_CR_begins : ∀ e ∈ tab_CR_begins, sTok "GathersAllFaults$CheckReader" prog_2_method_3_code e := tab_of (by decide +kernel)
def tab_CR_ends : List sT := [(0, 1, .aload_n 0, 0, [], 0, 0), (1, 3, .getfield 62, 0, [], 0, 0), (4, 3, .ifCond .ne 11, 15, [], 0, 0), (7, 1, .aload_n 0, 0, [], 0, 0), (8, 1, .iconst 1, 0, [], 1, 0), (9, 3, .putfield 22, 0, [], 0, 0), (12, 3, .goto 29, 41, [], 0, 0), (15, 1, .aload_n 0, 0, [], 0, 0), (16, 3, .invokevirtual 65, 0, [], 0, 0), (19, 2, .bipush 47, 0, [], 47, 0), (21, 3, .if_icmp .ne 15, 36, [], 0, 0), (24, 1, .aload_n 0, 0, [], 0, 0), (25, 3, .invokevirtual 59, 0, [], 0, 0), (28, 1, .aload_n 0, 0, [], 0, 0), (29, 1, .iconst 0, 0, [], 0, 0), (30, 3, .putfield 22, 0, [], 0, 0), (33, 3, .goto 8, 41, [], 0, 0), (36, 1, .aload_n 0, 0, [], 0, 0), (37, 1, .iconst 3, 0, [], 3, 0), (38, 3, .putfield 22, 0, [], 0, 0), (41, 1, .return_, 0, [], 0, 0)]
theorem tk_CR_ends : ∀ e ∈ tab_CR_ends, sTok "GathersAllFaults$CheckReader" prog_2_method_7_code e := tab_of (by decide +kernel)
def tab_RD_top : List sT := [(0, 1, .aload_n 0, 0, [], 0, 0), (1, 3, .getfield 19, 0, [], 0, 0), (4, 3, .ifCond .le 19, 23, [], 0, 0), (7, 1, .aload_n 0, 0, [], 0, 0), (8, 3, .getfield 9, 0, [], 0, 0), (11, 1, .aload_n 0, 0, [], 0, 0), (12, 3, .getfield 19, 0, [], 0, 0), (15, 1, .iconst 1, 0, [], 1, 0), (16, 1, .isub, 0, [], 0, 0), (17, 3, .invokestatic 33, 0, [], 0, 0), (20, 3, .goto 4, 24, [], 0, 0), (23, 1, .iconst (-1), 0, [], (-1), 0), (24, 1, .ireturn, 0, [], 0, 0)]
theorem tk_RD_top : ∀ e ∈ tab_RD_top, sTok "GathersAllFaults$Reader" prog_5_method_6_code e := tab_of (by decide +kernel)
def tab_RD_pop : List sT := [(0, 1, .aload_n 0, 0, [], 0, 0), (1, 3, .getfield 19, 0, [], 0, 0), (4, 3, .ifCond .le 13, 17, [], 0, 0), (7, 1, .aload_n 0, 0, [], 0, 0), (8, 1, .dup, 0, [], 0, 0), (9, 3, .getfield 19, 0, [], 0, 0), (12, 1, .iconst 1, 0, [], 1, 0), (13, 1, .isub, 0, [], 0, 0), (14, 3, .putfield 19, 0, [], 0, 0), (17, 1, .return_, 0, [], 0, 0)]
theorem tk_RD_pop : ∀ e ∈ tab_RD_pop, sTok "GathersAllFaults$Reader" prog_5_method_5_code e := tab_of (by decide +kernel)
def tab_RD_push : List sT := [(0, 1, .aload_n 0, 0, [], 0, 0), (1, 3, .getfield 9, 0, [], 0, 0), (4, 1, .aload_n 0, 0, [], 0, 0), (5, 3, .getfield 19, 0, [], 0, 0), (8, 1, .iload_n 1, 0, [], 0, 0), (9, 3, .invokestatic 40, 0, [], 0, 0), (12, 1, .aload_n 0, 0, [], 0, 0), (13, 1, .dup, 0, [], 0, 0), (14, 3, .getfield 19, 0, [], 0, 0), (17, 1, .iconst 1, 0, [], 1, 0), (18, 1, .iadd, 0, [], 0, 0), (19, 3, .putfield 19, 0, [], 0, 0), (22, 1, .return_, 0, [], 0, 0)]
theorem tk_RD_push : ∀ e ∈ tab_RD_push, sTok "GathersAllFaults$Reader" prog_5_method_4_code e := tab_of (by decide +kernel)
def tab_CR_goBehindDigits : List sT := [(0, 1, .aload_n 0, 0, [], 0, 0), (1, 3, .getfield 51, 0, [], 0, 0), (4, 3, .ifCond .eq 11, 15, [], 0, 0), (7, 1, .aload_n 0, 0, [], 0, 0), (8, 1, .iconst 0, 0, [], 0, 0), (9, 3, .putfield 22, 0, [], 0, 0), (12, 3, .goto 7, 19, [], 0, 0), (15, 1, .aload_n 0, 0, [], 0, 0), (16, 3, .invokevirtual 48, 0, [], 0, 0), (19, 1, .return_, 0, [], 0, 0)]
theorem tk_CR_goBehindDigits : ∀ e ∈ tab_CR_goBehindDigits, sTok "GathersAllFaults$CheckReader" prog_2_method_4_code e := tab_of (by decide +kernel)
def tab_GF_isDigit : List sT := [(0, 1, .iload_n 0, 0, [], 0, 0), (1, 2, .bipush 48, 0, [], 48, 0), (3, 3, .if_icmp .lt 13, 16, [], 0, 0), (6, 1, .iload_n 0, 0, [], 0, 0), (7, 2, .bipush 57, 0, [], 57, 0), (9, 3, .if_icmp .gt 7, 16, [], 0, 0), (12, 1, .iconst 1, 0, [], 1, 0), (13, 3, .goto 4, 17, [], 0, 0), (16, 1, .iconst 0, 0, [], 0, 0), (17, 1, .ireturn, 0, [], 0, 0)]
theorem tk_GF_isDigit : ∀ e ∈ tab_GF_isDigit, sTok "GathersAllFaults" prog_1_method_45_code e := tab_of (by decide +kernel)
def tab_CR_field : List sT := [(0, 1, .iload_n 1, 0, [], 0, 0), (1, 2, .bipush 46, 0, [], 46, 0), (3, 3, .if_icmp .ne 10, 13, [], 0, 0), (6, 1, .aload_n 0, 0, [], 0, 0), (7, 1, .iconst 4, 0, [], 4, 0), (8, 3, .putfield 22, 0, [], 0, 0), (11, 1, .iconst 1, 0, [], 1, 0), (12, 1, .ireturn, 0, [], 0, 0), (13, 1, .iload_n 1, 0, [], 0, 0), (14, 3, .invokestatic 45, 0, [], 0, 0), (17, 3, .ifCond .eq 10, 27, [], 0, 0), (20, 1, .aload_n 0, 0, [], 0, 0), (21, 1, .iconst 0, 0, [], 0, 0), (22, 3, .putfield 22, 0, [], 0, 0), (25, 1, .iconst 1, 0, [], 1, 0), (26, 1, .ireturn, 0, [], 0, 0), (27, 1, .iconst 0, 0, [], 0, 0), (28, 1, .ireturn, 0, [], 0, 0)]
theorem tk_CR_field : ∀ e ∈ tab_CR_field, sTok "GathersAllFaults$CheckReader" prog_2_method_5_code e := tab_of (by decide +kernel)
def tab_GF_isName : List sT := [(0, 1, .iload_n 0, 0, [], 0, 0), (1, 2, .bipush 97, 0, [], 97, 0), (3, 3, .if_icmp .lt 13, 16, [], 0, 0), (6, 1, .iload_n 0, 0, [], 0, 0), (7, 2, .bipush 101, 0, [], 101, 0), (9, 3, .if_icmp .gt 7, 16, [], 0, 0), (12, 1, .iconst 1, 0, [], 1, 0), (13, 3, .goto 4, 17, [], 0, 0), (16, 1, .iconst 0, 0, [], 0, 0), (17, 1, .ireturn, 0, [], 0, 0)]
theorem tk_GF_isName : ∀ e ∈ tab_GF_isName, sTok "GathersAllFaults" prog_1_method_46_code e := tab_of (by decide +kernel)
def tab_CR_last : List sT := [(0, 1, .iload_n 1, 0, [], 0, 0), (1, 2, .bipush 60, 0, [], 60, 0), (3, 3, .if_icmp .eq 9, 12, [], 0, 0), (6, 1, .iload_n 1, 0, [], 0, 0), (7, 2, .bipush 61, 0, [], 61, 0), (9, 3, .if_icmp .ne 16, 25, [], 0, 0), (12, 1, .aload_n 0, 0, [], 0, 0), (13, 2, .bipush 6, 0, [], 6, 0), (15, 3, .putfield 22, 0, [], 0, 0), (18, 1, .aload_n 0, 0, [], 0, 0), (19, 1, .iconst 2, 0, [], 2, 0), (20, 3, .putfield 30, 0, [], 0, 0), (23, 1, .iconst 1, 0, [], 1, 0), (24, 1, .ireturn, 0, [], 0, 0), (25, 1, .iload_n 1, 0, [], 0, 0), (26, 2, .bipush 125, 0, [], 125, 0), (28, 3, .if_icmp .ne 13, 41, [], 0, 0), (31, 1, .aload_n 0, 0, [], 0, 0), (32, 3, .invokevirtual 59, 0, [], 0, 0), (35, 1, .aload_n 0, 0, [], 0, 0), (36, 3, .invokevirtual 48, 0, [], 0, 0), (39, 1, .iconst 1, 0, [], 1, 0), (40, 1, .ireturn, 0, [], 0, 0), (41, 1, .iconst 0, 0, [], 0, 0), (42, 1, .ireturn, 0, [], 0, 0)]
theorem tk_CR_last : ∀ e ∈ tab_CR_last, sTok "GathersAllFaults$CheckReader" prog_2_method_6_code e := tab_of (by decide +kernel)
def tab_VR_goesOn : List sT := [(0, 1, .aload_n 0, 0, [], 0, 0), (1, 3, .getfield 18, 0, [], 0, 0), (4, 3, .ifCond .eq 14, 18, [], 0, 0), (7, 1, .iload_n 1, 0, [], 0, 0), (8, 3, .invokestatic 22, 0, [], 0, 0), (11, 3, .ifCond .eq 7, 18, [], 0, 0), (14, 1, .iconst 1, 0, [], 1, 0), (15, 3, .goto 4, 19, [], 0, 0), (18, 1, .iconst 0, 0, [], 0, 0), (19, 1, .istore_n 2, 0, [], 0, 0), (20, 1, .aload_n 0, 0, [], 0, 0), (21, 1, .iconst 0, 0, [], 0, 0), (22, 3, .putfield 18, 0, [], 0, 0), (25, 1, .iload_n 2, 0, [], 0, 0), (26, 3, .ifCond .eq 5, 31, [], 0, 0), (29, 1, .iconst 1, 0, [], 1, 0), (30, 1, .ireturn, 0, [], 0, 0), (31, 1, .aload_n 0, 0, [], 0, 0), (32, 3, .getfield 26, 0, [], 0, 0), (35, 33, .tableswitch 111 0 4 #[33, 111, 88, 39, 58], 146, [(0, 68), (1, 146), (2, 123), (3, 74), (4, 93)], 0, 0), (68, 1, .aload_n 0, 0, [], 0, 0), (69, 1, .iload_n 1, 0, [], 0, 0), (70, 3, .invokevirtual 30, 0, [], 0, 0), (73, 1, .ireturn, 0, [], 0, 0), (74, 1, .iload_n 1, 0, [], 0, 0), (75, 2, .bipush 93, 0, [], 93, 0), (77, 3, .if_icmp .ne 10, 87, [], 0, 0), (80, 1, .aload_n 0, 0, [], 0, 0), (81, 3, .invokevirtual 33, 0, [], 0, 0), (84, 3, .goto 8, 92, [], 0, 0), (87, 1, .aload_n 0, 0, [], 0, 0), (88, 1, .iload_n 1, 0, [], 0, 0), (89, 3, .invokevirtual 30, 0, [], 0, 0), (92, 1, .ireturn, 0, [], 0, 0), (93, 1, .aload_n 0, 0, [], 0, 0), (94, 1, .iconst 0, 0, [], 0, 0), (95, 3, .putfield 26, 0, [], 0, 0), (98, 1, .iload_n 1, 0, [], 0, 0), (99, 2, .bipush 93, 0, [], 93, 0), (101, 3, .if_icmp .ne 10, 111, [], 0, 0), (104, 1, .aload_n 0, 0, [], 0, 0), (105, 3, .invokevirtual 33, 0, [], 0, 0), (108, 3, .goto 14, 122, [], 0, 0), (111, 1, .iload_n 1, 0, [], 0, 0), (112, 2, .bipush 44, 0, [], 44, 0), (114, 3, .if_icmp .ne 7, 121, [], 0, 0), (117, 1, .iconst 1, 0, [], 1, 0), (118, 3, .goto 4, 122, [], 0, 0), (121, 1, .iconst 0, 0, [], 0, 0), (122, 1, .ireturn, 0, [], 0, 0), (123, 1, .aload_n 0, 0, [], 0, 0), (124, 1, .iconst 0, 0, [], 0, 0), (125, 3, .putfield 26, 0, [], 0, 0), (128, 1, .iload_n 1, 0, [], 0, 0), (129, 2, .bipush 41, 0, [], 41, 0), (131, 3, .if_icmp .ne 10, 141, [], 0, 0), (134, 1, .aload_n 0, 0, [], 0, 0), (135, 3, .invokevirtual 33, 0, [], 0, 0), (138, 3, .goto 7, 145, [], 0, 0), (141, 1, .iload_n 1, 0, [], 0, 0), (142, 3, .invokestatic 37, 0, [], 0, 0), (145, 1, .ireturn, 0, [], 0, 0), (146, 1, .iconst 0, 0, [], 0, 0), (147, 1, .ireturn, 0, [], 0, 0)]
theorem tk_VR_goesOn : ∀ e ∈ tab_VR_goesOn, sTok "GathersAllFaults$ValueReader" prog_7_method_2_code e := tab_of (by decide +kernel)
def tab_VR_begins : List sT := [(0, 1, .iload_n 1, 0, [], 0, 0), (1, 2, .bipush 40, 0, [], 40, 0), (3, 3, .if_icmp .eq 9, 12, [], 0, 0), (6, 1, .iload_n 1, 0, [], 0, 0), (7, 2, .bipush 91, 0, [], 91, 0), (9, 3, .if_icmp .ne 25, 34, [], 0, 0), (12, 1, .aload_n 0, 0, [], 0, 0), (13, 1, .iload_n 1, 0, [], 0, 0), (14, 3, .invokevirtual 40, 0, [], 0, 0), (17, 1, .aload_n 0, 0, [], 0, 0), (18, 1, .iload_n 1, 0, [], 0, 0), (19, 2, .bipush 40, 0, [], 40, 0), (21, 3, .if_icmp .ne 7, 28, [], 0, 0), (24, 1, .iconst 2, 0, [], 2, 0), (25, 3, .goto 4, 29, [], 0, 0), (28, 1, .iconst 3, 0, [], 3, 0), (29, 3, .putfield 26, 0, [], 0, 0), (32, 1, .iconst 1, 0, [], 1, 0), (33, 1, .ireturn, 0, [], 0, 0), (34, 1, .aload_n 0, 0, [], 0, 0), (35, 1, .iload_n 1, 0, [], 0, 0), (36, 3, .invokestatic 22, 0, [], 0, 0), (39, 3, .putfield 18, 0, [], 0, 0), (42, 1, .aload_n 0, 0, [], 0, 0), (43, 3, .invokevirtual 44, 0, [], 0, 0), (46, 1, .aload_n 0, 0, [], 0, 0), (47, 3, .getfield 18, 0, [], 0, 0), (50, 3, .ifCond .ne 9, 59, [], 0, 0), (53, 1, .iload_n 1, 0, [], 0, 0), (54, 2, .bipush 63, 0, [], 63, 0), (56, 3, .if_icmp .ne 7, 63, [], 0, 0), (59, 1, .iconst 1, 0, [], 1, 0), (60, 3, .goto 4, 64, [], 0, 0), (63, 1, .iconst 0, 0, [], 0, 0), (64, 1, .ireturn, 0, [], 0, 0)]
theorem tk_VR_begins : ∀ e ∈ tab_VR_begins, sTok "GathersAllFaults$ValueReader" prog_7_method_3_code e := tab_of (by decide +kernel)
def tab_VR_ends : List sT := [(0, 1, .aload_n 0, 0, [], 0, 0), (1, 3, .getfield 50, 0, [], 0, 0), (4, 3, .ifCond .ne 11, 15, [], 0, 0), (7, 1, .aload_n 0, 0, [], 0, 0), (8, 1, .iconst 1, 0, [], 1, 0), (9, 3, .putfield 26, 0, [], 0, 0), (12, 3, .goto 21, 33, [], 0, 0), (15, 1, .aload_n 0, 0, [], 0, 0), (16, 1, .aload_n 0, 0, [], 0, 0), (17, 3, .invokevirtual 53, 0, [], 0, 0), (20, 2, .bipush 40, 0, [], 40, 0), (22, 3, .if_icmp .ne 7, 29, [], 0, 0), (25, 1, .iconst 2, 0, [], 2, 0), (26, 3, .goto 4, 30, [], 0, 0), (29, 1, .iconst 4, 0, [], 4, 0), (30, 3, .putfield 26, 0, [], 0, 0), (33, 1, .return_, 0, [], 0, 0)]
theorem tk_VR_ends : ∀ e ∈ tab_VR_ends, sTok "GathersAllFaults$ValueReader" prog_7_method_5_code e := tab_of (by decide +kernel)
def tab_VR_closes : List sT := [(0, 1, .aload_n 0, 0, [], 0, 0), (1, 3, .invokevirtual 47, 0, [], 0, 0), (4, 1, .aload_n 0, 0, [], 0, 0), (5, 3, .invokevirtual 44, 0, [], 0, 0), (8, 1, .iconst 1, 0, [], 1, 0), (9, 1, .ireturn, 0, [], 0, 0)]
theorem tk_VR_closes : ∀ e ∈ tab_VR_closes, sTok "GathersAllFaults$ValueReader" prog_7_method_4_code e := tab_of (by decide +kernel)
def tab_CR_build : List sT := [(0, 1, .aload_n 0, 0, [], 0, 0), (1, 3, .getfield 12, 0, [], 0, 0), (4, 1, .iconst 0, 0, [], 0, 0), (5, 3, .putfield 69, 0, [], 0, 0), (8, 1, .aload_n 0, 0, [], 0, 0), (9, 3, .getfield 12, 0, [], 0, 0), (12, 1, .iconst 0, 0, [], 0, 0), (13, 3, .putfield 72, 0, [], 0, 0), (16, 1, .aload_n 0, 0, [], 0, 0), (17, 1, .iconst 0, 0, [], 0, 0), (18, 3, .putfield 75, 0, [], 0, 0), (21, 1, .aload_n 0, 0, [], 0, 0), (22, 1, .iconst 0, 0, [], 0, 0), (23, 3, .putfield 78, 0, [], 0, 0), (26, 1, .aload_n 0, 0, [], 0, 0), (27, 1, .iconst 0, 0, [], 0, 0), (28, 3, .putfield 81, 0, [], 0, 0), (31, 1, .iconst 0, 0, [], 0, 0), (32, 1, .istore_n 3, 0, [], 0, 0), (33, 1, .iload_n 3, 0, [], 0, 0), (34, 1, .iload_n 2, 0, [], 0, 0), (35, 3, .if_icmp .ge 31, 66, [], 0, 0), (38, 1, .aload_n 0, 0, [], 0, 0), (39, 1, .aload_n 1, 0, [], 0, 0), (40, 1, .iload_n 3, 0, [], 0, 0), (41, 3, .invokevirtual 84, 0, [], 0, 0), (44, 3, .ifCond .ne 5, 49, [], 0, 0), (47, 1, .iload_n 3, 0, [], 0, 0), (48, 1, .ireturn, 0, [], 0, 0), (49, 1, .iload_n 3, 0, [], 0, 0), (50, 1, .aload_n 1, 0, [], 0, 0), (51, 1, .iload_n 3, 0, [], 0, 0), (52, 3, .invokestatic 88, 0, [], 0, 0), (55, 3, .invokestatic 92, 0, [], 0, 0), (58, 1, .iadd, 0, [], 0, 0), (59, 1, .istore_n 3, 0, [], 0, 0), (60, 3, .iinc 3 1, 0, [], 1, 0), (63, 3, .goto (-30), 33, [], 0, 0), (66, 1, .iconst (-1), 0, [], (-1), 0), (67, 1, .ireturn, 0, [], 0, 0)]
theorem tk_CR_build : ∀ e ∈ tab_CR_build, sTok "GathersAllFaults$CheckReader" prog_2_method_8_code e := tab_of (by decide +kernel)
def tab_CR_takes : List sT := [(0, 1, .aload_n 1, 0, [], 0, 0), (1, 1, .iload_n 2, 0, [], 0, 0), (2, 3, .invokestatic 88, 0, [], 0, 0), (5, 1, .istore_n 3, 0, [], 0, 0), (6, 1, .iload_n 3, 0, [], 0, 0), (7, 57, .lookupswitch 181 #[(35, 135), (46, 93), (60, 109), (61, 109), (64, 155), (125, 57)], 188, [(35, 142), (46, 100), (60, 116), (61, 116), (64, 162), (125, 64)], 0, 0), (64, 1, .aload_n 0, 0, [], 0, 0), (65, 3, .getfield 12, 0, [], 0, 0), (68, 3, .getfield 96, 0, [], 0, 0), (71, 1, .aload_n 0, 0, [], 0, 0), (72, 3, .invokevirtual 65, 0, [], 0, 0), (75, 1, .aload_n 0, 0, [], 0, 0), (76, 3, .getfield 12, 0, [], 0, 0), (79, 3, .getfield 69, 0, [], 0, 0), (82, 1, .aload_n 0, 0, [], 0, 0), (83, 3, .invokevirtual 65, 0, [], 0, 0), (86, 1, .isub, 0, [], 0, 0), (87, 3, .invokestatic 99, 0, [], 0, 0), (90, 1, .aload_n 0, 0, [], 0, 0), (91, 3, .invokevirtual 59, 0, [], 0, 0), (94, 1, .aload_n 0, 0, [], 0, 0), (95, 3, .invokevirtual 103, 0, [], 0, 0), (98, 1, .iconst 1, 0, [], 1, 0), (99, 1, .ireturn, 0, [], 0, 0), (100, 1, .aload_n 0, 0, [], 0, 0), (101, 1, .aload_n 1, 0, [], 0, 0), (102, 1, .iload_n 2, 0, [], 0, 0), (103, 1, .iconst 1, 0, [], 1, 0), (104, 1, .iadd, 0, [], 0, 0), (105, 3, .invokestatic 88, 0, [], 0, 0), (108, 3, .invokestatic 106, 0, [], 0, 0), (111, 1, .iconst 1, 0, [], 1, 0), (112, 3, .invokevirtual 109, 0, [], 0, 0), (115, 1, .ireturn, 0, [], 0, 0), (116, 1, .aload_n 0, 0, [], 0, 0), (117, 1, .iload_n 3, 0, [], 0, 0), (118, 1, .aload_n 1, 0, [], 0, 0), (119, 1, .iload_n 2, 0, [], 0, 0), (120, 1, .iconst 1, 0, [], 1, 0), (121, 1, .iadd, 0, [], 0, 0), (122, 3, .invokestatic 88, 0, [], 0, 0), (125, 3, .invokestatic 106, 0, [], 0, 0), (128, 1, .aload_n 1, 0, [], 0, 0), (129, 1, .iload_n 2, 0, [], 0, 0), (130, 1, .iconst 2, 0, [], 2, 0), (131, 1, .iadd, 0, [], 0, 0), (132, 3, .invokestatic 88, 0, [], 0, 0), (135, 3, .invokestatic 106, 0, [], 0, 0), (138, 3, .invokevirtual 113, 0, [], 0, 0), (141, 1, .ireturn, 0, [], 0, 0), (142, 1, .aload_n 0, 0, [], 0, 0), (143, 1, .iload_n 3, 0, [], 0, 0), (144, 1, .aload_n 1, 0, [], 0, 0), (145, 1, .iload_n 2, 0, [], 0, 0), (146, 1, .iconst 1, 0, [], 1, 0), (147, 1, .iadd, 0, [], 0, 0), (148, 3, .invokestatic 117, 0, [], 0, 0), (151, 1, .aload_n 1, 0, [], 0, 0), (152, 1, .iload_n 2, 0, [], 0, 0), (153, 1, .iconst 3, 0, [], 3, 0), (154, 1, .iadd, 0, [], 0, 0), (155, 3, .invokestatic 117, 0, [], 0, 0), (158, 3, .invokevirtual 120, 0, [], 0, 0), (161, 1, .ireturn, 0, [], 0, 0), (162, 1, .aload_n 0, 0, [], 0, 0), (163, 1, .iload_n 3, 0, [], 0, 0), (164, 1, .aload_n 1, 0, [], 0, 0), (165, 1, .iload_n 2, 0, [], 0, 0), (166, 1, .iconst 1, 0, [], 1, 0), (167, 1, .iadd, 0, [], 0, 0), (168, 3, .invokestatic 88, 0, [], 0, 0), (171, 2, .bipush 48, 0, [], 48, 0), (173, 1, .isub, 0, [], 0, 0), (174, 1, .aload_n 1, 0, [], 0, 0), (175, 1, .iload_n 2, 0, [], 0, 0), (176, 1, .iconst 2, 0, [], 2, 0), (177, 1, .iadd, 0, [], 0, 0), (178, 3, .invokestatic 88, 0, [], 0, 0), (181, 2, .bipush 48, 0, [], 48, 0), (183, 1, .isub, 0, [], 0, 0), (184, 3, .invokevirtual 120, 0, [], 0, 0), (187, 1, .ireturn, 0, [], 0, 0), (188, 1, .iload_n 3, 0, [], 0, 0), (189, 3, .invokestatic 45, 0, [], 0, 0), (192, 3, .ifCond .eq 15, 207, [], 0, 0), (195, 1, .aload_n 0, 0, [], 0, 0), (196, 1, .iload_n 3, 0, [], 0, 0), (197, 3, .invokestatic 106, 0, [], 0, 0), (200, 1, .iconst 0, 0, [], 0, 0), (201, 3, .invokevirtual 109, 0, [], 0, 0), (204, 3, .goto 10, 214, [], 0, 0), (207, 1, .aload_n 0, 0, [], 0, 0), (208, 1, .iload_n 3, 0, [], 0, 0), (209, 1, .iconst 0, 0, [], 0, 0), (210, 1, .iconst 0, 0, [], 0, 0), (211, 3, .invokevirtual 120, 0, [], 0, 0), (214, 1, .ireturn, 0, [], 0, 0)]
theorem tk_CR_takes : ∀ e ∈ tab_CR_takes, sTok "GathersAllFaults$CheckReader" prog_2_method_10_code e := tab_of (by decide +kernel)
def tab_CR_settle : List sT := [(0, 1, .iconst 0, 0, [], 0, 0), (1, 1, .istore_n 1, 0, [], 0, 0), (2, 1, .iload_n 1, 0, [], 0, 0), (3, 2, .bipush 24, 0, [], 24, 0), (5, 3, .if_icmp .ge 81, 86, [], 0, 0), (8, 1, .aload_n 0, 0, [], 0, 0), (9, 3, .getfield 62, 0, [], 0, 0), (12, 3, .ifCond .le 74, 86, [], 0, 0), (15, 1, .aload_n 0, 0, [], 0, 0), (16, 3, .getfield 18, 0, [], 0, 0), (19, 1, .aload_n 0, 0, [], 0, 0), (20, 3, .getfield 62, 0, [], 0, 0), (23, 1, .iconst 1, 0, [], 1, 0), (24, 1, .isub, 0, [], 0, 0), (25, 3, .invokestatic 88, 0, [], 0, 0), (28, 1, .iconst 1, 0, [], 1, 0), (29, 1, .isub, 0, [], 0, 0), (30, 1, .istore_n 2, 0, [], 0, 0), (31, 1, .aload_n 0, 0, [], 0, 0), (32, 3, .getfield 18, 0, [], 0, 0), (35, 1, .aload_n 0, 0, [], 0, 0), (36, 3, .getfield 62, 0, [], 0, 0), (39, 1, .iconst 1, 0, [], 1, 0), (40, 1, .isub, 0, [], 0, 0), (41, 1, .iload_n 2, 0, [], 0, 0), (42, 3, .invokestatic 99, 0, [], 0, 0), (45, 1, .iload_n 2, 0, [], 0, 0), (46, 3, .ifCond .le 4, 50, [], 0, 0), (49, 1, .return_, 0, [], 0, 0), (50, 1, .aload_n 0, 0, [], 0, 0), (51, 3, .getfield 12, 0, [], 0, 0), (54, 3, .getfield 96, 0, [], 0, 0), (57, 1, .aload_n 0, 0, [], 0, 0), (58, 3, .invokevirtual 65, 0, [], 0, 0), (61, 1, .aload_n 0, 0, [], 0, 0), (62, 3, .getfield 12, 0, [], 0, 0), (65, 3, .getfield 69, 0, [], 0, 0), (68, 1, .aload_n 0, 0, [], 0, 0), (69, 3, .invokevirtual 65, 0, [], 0, 0), (72, 1, .isub, 0, [], 0, 0), (73, 3, .invokestatic 99, 0, [], 0, 0), (76, 1, .aload_n 0, 0, [], 0, 0), (77, 3, .invokevirtual 59, 0, [], 0, 0), (80, 3, .iinc 1 1, 0, [], 1, 0), (83, 3, .goto (-81), 2, [], 0, 0), (86, 1, .return_, 0, [], 0, 0)]
theorem tk_CR_settle : ∀ e ∈ tab_CR_settle, sTok "GathersAllFaults$CheckReader" prog_2_method_17_code e := tab_of (by decide +kernel)
def tab_GF_digitOf : List sT := [(0, 1, .iload_n 0, 0, [], 0, 0), (1, 2, .bipush 97, 0, [], 97, 0), (3, 1, .isub, 0, [], 0, 0), (4, 1, .iconst 1, 0, [], 1, 0), (5, 1, .iadd, 0, [], 0, 0), (6, 1, .ireturn, 0, [], 0, 0)]
theorem tk_GF_digitOf : ∀ e ∈ tab_GF_digitOf, sTok "GathersAllFaults" prog_1_method_47_code e := tab_of (by decide +kernel)
def tab_CR_addsField : List sT := [(0, 1, .aload_n 0, 0, [], 0, 0), (1, 3, .invokevirtual 65, 0, [], 0, 0), (4, 1, .istore_n 3, 0, [], 0, 0), (5, 1, .aload_n 0, 0, [], 0, 0), (6, 3, .getfield 12, 0, [], 0, 0), (9, 1, .iload_n 3, 0, [], 0, 0), (10, 1, .iload_n 1, 0, [], 0, 0), (11, 3, .invokevirtual 123, 0, [], 0, 0), (14, 3, .ifCond .eq 5, 19, [], 0, 0), (17, 1, .iconst 0, 0, [], 0, 0), (18, 1, .ireturn, 0, [], 0, 0), (19, 1, .aload_n 0, 0, [], 0, 0), (20, 3, .getfield 12, 0, [], 0, 0), (23, 3, .getfield 126, 0, [], 0, 0), (26, 1, .iload_n 3, 0, [], 0, 0), (27, 1, .aload_n 0, 0, [], 0, 0), (28, 3, .getfield 12, 0, [], 0, 0), (31, 3, .getfield 126, 0, [], 0, 0), (34, 1, .iload_n 3, 0, [], 0, 0), (35, 3, .invokestatic 88, 0, [], 0, 0), (38, 1, .iconst 1, 0, [], 1, 0), (39, 1, .iload_n 1, 0, [], 0, 0), (40, 1, .ishl, 0, [], 0, 0), (41, 1, .ior, 0, [], 0, 0), (42, 3, .invokestatic 99, 0, [], 0, 0), (45, 1, .aload_n 0, 0, [], 0, 0), (46, 3, .getfield 12, 0, [], 0, 0), (49, 3, .getfield 129, 0, [], 0, 0), (52, 1, .iload_n 3, 0, [], 0, 0), (53, 1, .aload_n 0, 0, [], 0, 0), (54, 3, .getfield 12, 0, [], 0, 0), (57, 3, .getfield 129, 0, [], 0, 0), (60, 1, .iload_n 3, 0, [], 0, 0), (61, 3, .invokestatic 88, 0, [], 0, 0), (64, 1, .iconst 1, 0, [], 1, 0), (65, 1, .iadd, 0, [], 0, 0), (66, 3, .invokestatic 99, 0, [], 0, 0), (69, 1, .aload_n 0, 0, [], 0, 0), (70, 1, .iload_n 1, 0, [], 0, 0), (71, 3, .putfield 78, 0, [], 0, 0), (74, 1, .aload_n 0, 0, [], 0, 0), (75, 1, .iload_n 2, 0, [], 0, 0), (76, 3, .putfield 81, 0, [], 0, 0), (79, 1, .iconst 1, 0, [], 1, 0), (80, 1, .ireturn, 0, [], 0, 0)]
theorem tk_CR_addsField : ∀ e ∈ tab_CR_addsField, sTok "GathersAllFaults$CheckReader" prog_2_method_12_code e := tab_of (by decide +kernel)
def tab_CR_addsDependent : List sT := [(0, 1, .aload_n 0, 0, [], 0, 0), (1, 3, .invokevirtual 65, 0, [], 0, 0), (4, 2, .istore 4, 0, [], 0, 0), (6, 1, .aload_n 0, 0, [], 0, 0), (7, 3, .getfield 12, 0, [], 0, 0), (10, 2, .iload 4, 0, [], 0, 0), (12, 1, .iload_n 2, 0, [], 0, 0), (13, 3, .invokevirtual 123, 0, [], 0, 0), (16, 3, .ifCond .eq 16, 32, [], 0, 0), (19, 1, .aload_n 0, 0, [], 0, 0), (20, 3, .getfield 12, 0, [], 0, 0), (23, 2, .iload 4, 0, [], 0, 0), (25, 1, .iload_n 3, 0, [], 0, 0), (26, 3, .invokevirtual 123, 0, [], 0, 0), (29, 3, .ifCond .ne 5, 34, [], 0, 0), (32, 1, .iconst 0, 0, [], 0, 0), (33, 1, .ireturn, 0, [], 0, 0), (34, 1, .aload_n 0, 0, [], 0, 0), (35, 3, .getfield 12, 0, [], 0, 0), (38, 2, .iload 4, 0, [], 0, 0), (40, 1, .iload_n 1, 0, [], 0, 0), (41, 1, .iload_n 2, 0, [], 0, 0), (42, 1, .iload_n 3, 0, [], 0, 0), (43, 3, .invokevirtual 132, 0, [], 0, 0), (46, 1, .iconst 1, 0, [], 1, 0), (47, 1, .ireturn, 0, [], 0, 0)]
theorem tk_CR_addsDependent : ∀ e ∈ tab_CR_addsDependent, sTok "GathersAllFaults$CheckReader" prog_2_method_13_code e := tab_of (by decide +kernel)
def tab_PL_depend : List sT := [(0, 1, .aload_n 0, 0, [], 0, 0), (1, 3, .getfield 39, 0, [], 0, 0), (4, 1, .iload_n 1, 0, [], 0, 0), (5, 3, .invokestatic 66, 0, [], 0, 0), (8, 3, .ifCond .ne 15, 23, [], 0, 0), (11, 1, .aload_n 0, 0, [], 0, 0), (12, 3, .getfield 36, 0, [], 0, 0), (15, 1, .iload_n 1, 0, [], 0, 0), (16, 1, .aload_n 0, 0, [], 0, 0), (17, 3, .getfield 63, 0, [], 0, 0), (20, 3, .invokestatic 55, 0, [], 0, 0), (23, 1, .aload_n 0, 0, [], 0, 0), (24, 3, .getfield 39, 0, [], 0, 0), (27, 1, .iload_n 1, 0, [], 0, 0), (28, 1, .aload_n 0, 0, [], 0, 0), (29, 3, .getfield 39, 0, [], 0, 0), (32, 1, .iload_n 1, 0, [], 0, 0), (33, 3, .invokestatic 66, 0, [], 0, 0), (36, 1, .iconst 1, 0, [], 1, 0), (37, 1, .iadd, 0, [], 0, 0), (38, 3, .invokestatic 55, 0, [], 0, 0), (41, 1, .aload_n 0, 0, [], 0, 0), (42, 3, .getfield 42, 0, [], 0, 0), (45, 1, .aload_n 0, 0, [], 0, 0), (46, 3, .getfield 63, 0, [], 0, 0), (49, 1, .iload_n 2, 0, [], 0, 0), (50, 3, .invokestatic 55, 0, [], 0, 0), (53, 1, .aload_n 0, 0, [], 0, 0), (54, 3, .getfield 45, 0, [], 0, 0), (57, 1, .aload_n 0, 0, [], 0, 0), (58, 3, .getfield 63, 0, [], 0, 0), (61, 1, .iload_n 3, 0, [], 0, 0), (62, 3, .invokestatic 55, 0, [], 0, 0), (65, 1, .aload_n 0, 0, [], 0, 0), (66, 3, .getfield 48, 0, [], 0, 0), (69, 1, .aload_n 0, 0, [], 0, 0), (70, 3, .getfield 63, 0, [], 0, 0), (73, 2, .iload 4, 0, [], 0, 0), (75, 3, .invokestatic 55, 0, [], 0, 0), (78, 1, .aload_n 0, 0, [], 0, 0), (79, 1, .dup, 0, [], 0, 0), (80, 3, .getfield 63, 0, [], 0, 0), (83, 1, .iconst 1, 0, [], 1, 0), (84, 1, .iadd, 0, [], 0, 0), (85, 3, .putfield 63, 0, [], 0, 0), (88, 1, .return_, 0, [], 0, 0)]
theorem tk_PL_depend : ∀ e ∈ tab_PL_depend, sTok "GathersAllFaults$Plan" prog_4_method_5_code e := tab_of (by decide +kernel)
def tab_CR_two : List sT := [(0, 2, .bipush 10, 0, [], 10, 0), (2, 1, .aload_n 0, 0, [], 0, 0), (3, 1, .iload_n 1, 0, [], 0, 0), (4, 3, .invokestatic 88, 0, [], 0, 0), (7, 2, .bipush 48, 0, [], 48, 0), (9, 1, .isub, 0, [], 0, 0), (10, 1, .imul, 0, [], 0, 0), (11, 1, .aload_n 0, 0, [], 0, 0), (12, 1, .iload_n 1, 0, [], 0, 0), (13, 1, .iconst 1, 0, [], 1, 0), (14, 1, .iadd, 0, [], 0, 0), (15, 3, .invokestatic 88, 0, [], 0, 0), (18, 1, .iadd, 0, [], 0, 0), (19, 2, .bipush 48, 0, [], 48, 0), (21, 1, .isub, 0, [], 0, 0), (22, 1, .ireturn, 0, [], 0, 0)]
theorem tk_CR_two : ∀ e ∈ tab_CR_two, sTok "GathersAllFaults$CheckReader" prog_2_method_11_code e := tab_of (by decide +kernel)
def tab_CR_adds : List sT := [(0, 1, .iload_n 2, 0, [], 0, 0), (1, 1, .iload_n 3, 0, [], 0, 0), (2, 3, .if_icmp .gt 29, 31, [], 0, 0), (5, 1, .iload_n 1, 0, [], 0, 0), (6, 2, .bipush 94, 0, [], 94, 0), (8, 3, .if_icmp .ne 10, 18, [], 0, 0), (11, 1, .aload_n 0, 0, [], 0, 0), (12, 3, .invokevirtual 136, 0, [], 0, 0), (15, 3, .ifCond .eq 16, 31, [], 0, 0), (18, 1, .aload_n 0, 0, [], 0, 0), (19, 3, .getfield 12, 0, [], 0, 0), (22, 1, .iload_n 1, 0, [], 0, 0), (23, 1, .iload_n 2, 0, [], 0, 0), (24, 1, .iload_n 3, 0, [], 0, 0), (25, 3, .invokevirtual 140, 0, [], 0, 0), (28, 3, .ifCond .ne 5, 33, [], 0, 0), (31, 1, .iconst 0, 0, [], 0, 0), (32, 1, .ireturn, 0, [], 0, 0), (33, 1, .aload_n 0, 0, [], 0, 0), (34, 3, .getfield 12, 0, [], 0, 0), (37, 3, .getfield 143, 0, [], 0, 0), (40, 1, .aload_n 0, 0, [], 0, 0), (41, 3, .getfield 12, 0, [], 0, 0), (44, 3, .getfield 69, 0, [], 0, 0), (47, 1, .iconst 1, 0, [], 1, 0), (48, 1, .isub, 0, [], 0, 0), (49, 1, .aload_n 0, 0, [], 0, 0), (50, 3, .getfield 78, 0, [], 0, 0), (53, 3, .invokestatic 99, 0, [], 0, 0), (56, 1, .aload_n 0, 0, [], 0, 0), (57, 3, .getfield 12, 0, [], 0, 0), (60, 3, .getfield 145, 0, [], 0, 0), (63, 1, .aload_n 0, 0, [], 0, 0), (64, 3, .getfield 12, 0, [], 0, 0), (67, 3, .getfield 69, 0, [], 0, 0), (70, 1, .iconst 1, 0, [], 1, 0), (71, 1, .isub, 0, [], 0, 0), (72, 1, .aload_n 0, 0, [], 0, 0), (73, 3, .getfield 81, 0, [], 0, 0), (76, 3, .invokestatic 99, 0, [], 0, 0), (79, 1, .aload_n 0, 0, [], 0, 0), (80, 1, .iconst 0, 0, [], 0, 0), (81, 3, .putfield 78, 0, [], 0, 0), (84, 1, .aload_n 0, 0, [], 0, 0), (85, 1, .iconst 0, 0, [], 0, 0), (86, 3, .putfield 81, 0, [], 0, 0), (89, 1, .iload_n 1, 0, [], 0, 0), (90, 3, .invokestatic 147, 0, [], 0, 0), (93, 2, .istore 4, 0, [], 0, 0), (95, 2, .iload 4, 0, [], 0, 0), (97, 3, .ifCond .ne 10, 107, [], 0, 0), (100, 1, .aload_n 0, 0, [], 0, 0), (101, 3, .invokevirtual 103, 0, [], 0, 0), (104, 3, .goto 29, 133, [], 0, 0), (107, 1, .aload_n 0, 0, [], 0, 0), (108, 3, .getfield 18, 0, [], 0, 0), (111, 1, .aload_n 0, 0, [], 0, 0), (112, 3, .getfield 62, 0, [], 0, 0), (115, 2, .iload 4, 0, [], 0, 0), (117, 3, .invokestatic 99, 0, [], 0, 0), (120, 1, .aload_n 0, 0, [], 0, 0), (121, 1, .aload_n 0, 0, [], 0, 0), (122, 3, .getfield 12, 0, [], 0, 0), (125, 3, .getfield 69, 0, [], 0, 0), (128, 1, .iconst 1, 0, [], 1, 0), (129, 1, .isub, 0, [], 0, 0), (130, 3, .invokevirtual 55, 0, [], 0, 0), (133, 1, .iconst 1, 0, [], 1, 0), (134, 1, .ireturn, 0, [], 0, 0)]
theorem tk_CR_adds : ∀ e ∈ tab_CR_adds, sTok "GathersAllFaults$CheckReader" prog_2_method_14_code e := tab_of (by decide +kernel)
def tab_CR_canReturn : List sT := [(0, 1, .aload_n 0, 0, [], 0, 0), (1, 1, .dup, 0, [], 0, 0), (2, 3, .getfield 75, 0, [], 0, 0), (5, 1, .iconst 1, 0, [], 1, 0), (6, 1, .iadd, 0, [], 0, 0), (7, 3, .putfield 75, 0, [], 0, 0), (10, 1, .aload_n 0, 0, [], 0, 0), (11, 3, .getfield 75, 0, [], 0, 0), (14, 1, .iconst 3, 0, [], 3, 0), (15, 3, .if_icmp .le 5, 20, [], 0, 0), (18, 1, .iconst 0, 0, [], 0, 0), (19, 1, .ireturn, 0, [], 0, 0), (20, 1, .iconst 0, 0, [], 0, 0), (21, 1, .istore_n 1, 0, [], 0, 0), (22, 1, .iload_n 1, 0, [], 0, 0), (23, 1, .aload_n 0, 0, [], 0, 0), (24, 3, .getfield 62, 0, [], 0, 0), (27, 3, .if_icmp .ge 42, 69, [], 0, 0), (30, 1, .aload_n 0, 0, [], 0, 0), (31, 3, .getfield 12, 0, [], 0, 0), (34, 3, .getfield 150, 0, [], 0, 0), (37, 1, .aload_n 0, 0, [], 0, 0), (38, 3, .getfield 153, 0, [], 0, 0), (41, 1, .iload_n 1, 0, [], 0, 0), (42, 3, .invokestatic 88, 0, [], 0, 0), (45, 3, .invokestatic 88, 0, [], 0, 0), (48, 1, .istore_n 2, 0, [], 0, 0), (49, 1, .iload_n 2, 0, [], 0, 0), (50, 2, .bipush 123, 0, [], 123, 0), (52, 3, .if_icmp .eq 9, 61, [], 0, 0), (55, 1, .iload_n 2, 0, [], 0, 0), (56, 2, .bipush 64, 0, [], 64, 0), (58, 3, .if_icmp .ne 5, 63, [], 0, 0), (61, 1, .iconst 1, 0, [], 1, 0), (62, 1, .ireturn, 0, [], 0, 0), (63, 3, .iinc 1 1, 0, [], 1, 0), (66, 3, .goto (-44), 22, [], 0, 0), (69, 1, .iconst 0, 0, [], 0, 0), (70, 1, .ireturn, 0, [], 0, 0)]
theorem tk_CR_canReturn : ∀ e ∈ tab_CR_canReturn, sTok "GathersAllFaults$CheckReader" prog_2_method_16_code e := tab_of (by decide +kernel)
def tab_PL_add : List sT := [(0, 1, .aload_n 0, 0, [], 0, 0), (1, 3, .getfield 51, 0, [], 0, 0), (4, 2, .bipush 24, 0, [], 24, 0), (6, 3, .if_icmp .lt 5, 11, [], 0, 0), (9, 1, .iconst 0, 0, [], 0, 0), (10, 1, .ireturn, 0, [], 0, 0), (11, 1, .aload_n 0, 0, [], 0, 0), (12, 3, .getfield 9, 0, [], 0, 0), (15, 1, .aload_n 0, 0, [], 0, 0), (16, 3, .getfield 51, 0, [], 0, 0), (19, 1, .iload_n 1, 0, [], 0, 0), (20, 3, .invokestatic 55, 0, [], 0, 0), (23, 1, .aload_n 0, 0, [], 0, 0), (24, 3, .getfield 15, 0, [], 0, 0), (27, 1, .aload_n 0, 0, [], 0, 0), (28, 3, .getfield 51, 0, [], 0, 0), (31, 1, .iload_n 2, 0, [], 0, 0), (32, 3, .invokestatic 55, 0, [], 0, 0), (35, 1, .aload_n 0, 0, [], 0, 0), (36, 3, .getfield 18, 0, [], 0, 0), (39, 1, .aload_n 0, 0, [], 0, 0), (40, 3, .getfield 51, 0, [], 0, 0), (43, 1, .iload_n 3, 0, [], 0, 0), (44, 3, .invokestatic 55, 0, [], 0, 0), (47, 1, .aload_n 0, 0, [], 0, 0), (48, 3, .getfield 21, 0, [], 0, 0), (51, 1, .aload_n 0, 0, [], 0, 0), (52, 3, .getfield 51, 0, [], 0, 0), (55, 1, .iconst 1, 0, [], 1, 0), (56, 3, .invokestatic 55, 0, [], 0, 0), (59, 1, .aload_n 0, 0, [], 0, 0), (60, 3, .getfield 24, 0, [], 0, 0), (63, 1, .aload_n 0, 0, [], 0, 0), (64, 3, .getfield 51, 0, [], 0, 0), (67, 1, .iconst 0, 0, [], 0, 0), (68, 3, .invokestatic 55, 0, [], 0, 0), (71, 1, .aload_n 0, 0, [], 0, 0), (72, 3, .getfield 27, 0, [], 0, 0), (75, 1, .aload_n 0, 0, [], 0, 0), (76, 3, .getfield 51, 0, [], 0, 0), (79, 1, .iconst 0, 0, [], 0, 0), (80, 3, .invokestatic 55, 0, [], 0, 0), (83, 1, .aload_n 0, 0, [], 0, 0), (84, 3, .getfield 30, 0, [], 0, 0), (87, 1, .aload_n 0, 0, [], 0, 0), (88, 3, .getfield 51, 0, [], 0, 0), (91, 1, .iconst 0, 0, [], 0, 0), (92, 3, .invokestatic 55, 0, [], 0, 0), (95, 1, .aload_n 0, 0, [], 0, 0), (96, 3, .getfield 33, 0, [], 0, 0), (99, 1, .aload_n 0, 0, [], 0, 0), (100, 3, .getfield 51, 0, [], 0, 0), (103, 1, .iconst 0, 0, [], 0, 0), (104, 3, .invokestatic 55, 0, [], 0, 0), (107, 1, .aload_n 0, 0, [], 0, 0), (108, 3, .getfield 36, 0, [], 0, 0), (111, 1, .aload_n 0, 0, [], 0, 0), (112, 3, .getfield 51, 0, [], 0, 0), (115, 1, .iconst 0, 0, [], 0, 0), (116, 3, .invokestatic 55, 0, [], 0, 0), (119, 1, .aload_n 0, 0, [], 0, 0), (120, 3, .getfield 39, 0, [], 0, 0), (123, 1, .aload_n 0, 0, [], 0, 0), (124, 3, .getfield 51, 0, [], 0, 0), (127, 1, .iconst 0, 0, [], 0, 0), (128, 3, .invokestatic 55, 0, [], 0, 0), (131, 1, .aload_n 0, 0, [], 0, 0), (132, 1, .dup, 0, [], 0, 0), (133, 3, .getfield 51, 0, [], 0, 0), (136, 1, .iconst 1, 0, [], 1, 0), (137, 1, .iadd, 0, [], 0, 0), (138, 3, .putfield 51, 0, [], 0, 0), (141, 1, .iconst 1, 0, [], 1, 0), (142, 1, .ireturn, 0, [], 0, 0)]
theorem tk_PL_add : ∀ e ∈ tab_PL_add, sTok "GathersAllFaults$Plan" prog_4_method_4_code e := tab_of (by decide +kernel)
def tab_CR_wants : List sT := [(0, 1, .iload_n 0, 0, [], 0, 0), (1, 51, .lookupswitch 58 #[(35, 51), (42, 51), (47, 53), (94, 51), (123, 55)], 59, [(35, 52), (42, 52), (47, 54), (94, 52), (123, 56)], 0, 0), (52, 1, .iconst 0, 0, [], 0, 0), (53, 1, .ireturn, 0, [], 0, 0), (54, 1, .iconst 2, 0, [], 2, 0), (55, 1, .ireturn, 0, [], 0, 0), (56, 2, .bipush 24, 0, [], 24, 0), (58, 1, .ireturn, 0, [], 0, 0), (59, 1, .iconst 1, 0, [], 1, 0), (60, 1, .ireturn, 0, [], 0, 0)]
theorem tk_CR_wants : ∀ e ∈ tab_CR_wants, sTok "GathersAllFaults$CheckReader" prog_2_method_15_code e := tab_of (by decide +kernel)
def tab_CR_tail : List sT := [(0, 1, .iload_n 0, 0, [], 0, 0), (1, 51, .lookupswitch 57 #[(35, 51), (46, 55), (60, 53), (61, 53), (64, 53)], 58, [(35, 52), (46, 56), (60, 54), (61, 54), (64, 54)], 0, 0), (52, 1, .iconst 4, 0, [], 4, 0), (53, 1, .ireturn, 0, [], 0, 0), (54, 1, .iconst 2, 0, [], 2, 0), (55, 1, .ireturn, 0, [], 0, 0), (56, 1, .iconst 1, 0, [], 1, 0), (57, 1, .ireturn, 0, [], 0, 0), (58, 1, .iconst 0, 0, [], 0, 0), (59, 1, .ireturn, 0, [], 0, 0)]
theorem tk_CR_tail : ∀ e ∈ tab_CR_tail, sTok "GathersAllFaults$CheckReader" prog_2_method_9_code e := tab_of (by decide +kernel)
def tab_VR_build : List sT := [(0, 1, .aload_n 0, 0, [], 0, 0), (1, 3, .getfield 12, 0, [], 0, 0), (4, 1, .iconst 0, 0, [], 0, 0), (5, 3, .putfield 57, 0, [], 0, 0), (8, 1, .aload_n 0, 0, [], 0, 0), (9, 1, .iconst 0, 0, [], 0, 0), (10, 3, .putfield 60, 0, [], 0, 0), (13, 1, .iconst 0, 0, [], 0, 0), (14, 1, .istore_n 3, 0, [], 0, 0), (15, 1, .iload_n 3, 0, [], 0, 0), (16, 1, .iload_n 2, 0, [], 0, 0), (17, 3, .if_icmp .ge 109, 126, [], 0, 0), (20, 1, .iload_n 3, 0, [], 0, 0), (21, 2, .istore 4, 0, [], 0, 0), (23, 1, .aload_n 1, 0, [], 0, 0), (24, 1, .iload_n 3, 0, [], 0, 0), (25, 3, .invokestatic 63, 0, [], 0, 0), (28, 2, .istore 5, 0, [], 0, 0), (30, 1, .iconst 1, 0, [], 1, 0), (31, 2, .istore 6, 0, [], 0, 0), (33, 2, .iload 5, 0, [], 0, 0), (35, 3, .invokestatic 22, 0, [], 0, 0), (38, 3, .ifCond .eq 66, 104, [], 0, 0), (41, 2, .iload 5, 0, [], 0, 0), (43, 2, .bipush 48, 0, [], 48, 0), (45, 1, .isub, 0, [], 0, 0), (46, 2, .istore 7, 0, [], 0, 0), (48, 1, .iload_n 3, 0, [], 0, 0), (49, 1, .iconst 1, 0, [], 1, 0), (50, 1, .iadd, 0, [], 0, 0), (51, 1, .iload_n 2, 0, [], 0, 0), (52, 3, .if_icmp .ge 13, 65, [], 0, 0), (55, 1, .aload_n 1, 0, [], 0, 0), (56, 1, .iload_n 3, 0, [], 0, 0), (57, 1, .iconst 1, 0, [], 1, 0), (58, 1, .iadd, 0, [], 0, 0), (59, 3, .invokestatic 63, 0, [], 0, 0), (62, 3, .goto 4, 66, [], 0, 0), (65, 1, .iconst 0, 0, [], 0, 0), (66, 2, .istore 8, 0, [], 0, 0), (68, 2, .iload 8, 0, [], 0, 0), (70, 3, .invokestatic 22, 0, [], 0, 0), (73, 3, .ifCond .eq 19, 92, [], 0, 0), (76, 2, .bipush 10, 0, [], 10, 0), (78, 2, .iload 7, 0, [], 0, 0), (80, 1, .imul, 0, [], 0, 0), (81, 2, .iload 8, 0, [], 0, 0), (83, 1, .iadd, 0, [], 0, 0), (84, 2, .bipush 48, 0, [], 48, 0), (86, 1, .isub, 0, [], 0, 0), (87, 2, .istore 7, 0, [], 0, 0), (89, 3, .iinc 3 1, 0, [], 1, 0), (92, 1, .aload_n 0, 0, [], 0, 0), (93, 1, .iconst 0, 0, [], 0, 0), (94, 2, .iload 7, 0, [], 0, 0), (96, 3, .invokevirtual 67, 0, [], 0, 0), (99, 2, .istore 6, 0, [], 0, 0), (101, 3, .goto 11, 112, [], 0, 0), (104, 1, .aload_n 0, 0, [], 0, 0), (105, 2, .iload 5, 0, [], 0, 0), (107, 3, .invokevirtual 71, 0, [], 0, 0), (110, 2, .istore 6, 0, [], 0, 0), (112, 2, .iload 6, 0, [], 0, 0), (114, 3, .ifCond .ne 6, 120, [], 0, 0), (117, 2, .iload 4, 0, [], 0, 0), (119, 1, .ireturn, 0, [], 0, 0), (120, 3, .iinc 3 1, 0, [], 1, 0), (123, 3, .goto (-108), 15, [], 0, 0), (126, 1, .aload_n 0, 0, [], 0, 0), (127, 3, .getfield 12, 0, [], 0, 0), (130, 3, .invokevirtual 74, 0, [], 0, 0), (133, 1, .iconst (-1), 0, [], (-1), 0), (134, 1, .ireturn, 0, [], 0, 0)]
theorem tk_VR_build : ∀ e ∈ tab_VR_build, sTok "GathersAllFaults$ValueReader" prog_7_method_6_code e := tab_of (by decide +kernel)
def tab_VR_adds : List sT := [(0, 1, .aload_n 0, 0, [], 0, 0), (1, 3, .invokevirtual 53, 0, [], 0, 0), (4, 1, .istore_n 3, 0, [], 0, 0), (5, 1, .iload_n 3, 0, [], 0, 0), (6, 3, .ifCond .lt 63, 69, [], 0, 0), (9, 1, .aload_n 0, 0, [], 0, 0), (10, 3, .getfield 12, 0, [], 0, 0), (13, 3, .getfield 93, 0, [], 0, 0), (16, 1, .iload_n 3, 0, [], 0, 0), (17, 3, .invokestatic 63, 0, [], 0, 0), (20, 2, .istore 4, 0, [], 0, 0), (22, 1, .aload_n 0, 0, [], 0, 0), (23, 3, .getfield 12, 0, [], 0, 0), (26, 3, .getfield 96, 0, [], 0, 0), (29, 1, .iload_n 3, 0, [], 0, 0), (30, 3, .invokestatic 63, 0, [], 0, 0), (33, 1, .iconst 3, 0, [], 3, 0), (34, 3, .if_icmp .ne 20, 54, [], 0, 0), (37, 2, .iload 4, 0, [], 0, 0), (39, 1, .iconst 4, 0, [], 4, 0), (40, 3, .if_icmp .lt 5, 45, [], 0, 0), (43, 1, .iconst 0, 0, [], 0, 0), (44, 1, .ireturn, 0, [], 0, 0), (45, 1, .aload_n 0, 0, [], 0, 0), (46, 2, .bipush 6, 0, [], 6, 0), (48, 2, .iload 4, 0, [], 0, 0), (50, 1, .iadd, 0, [], 0, 0), (51, 3, .putfield 60, 0, [], 0, 0), (54, 1, .aload_n 0, 0, [], 0, 0), (55, 3, .getfield 12, 0, [], 0, 0), (58, 3, .getfield 93, 0, [], 0, 0), (61, 1, .iload_n 3, 0, [], 0, 0), (62, 2, .iload 4, 0, [], 0, 0), (64, 1, .iconst 1, 0, [], 1, 0), (65, 1, .iadd, 0, [], 0, 0), (66, 3, .invokestatic 81, 0, [], 0, 0), (69, 1, .aload_n 0, 0, [], 0, 0), (70, 3, .getfield 50, 0, [], 0, 0), (73, 1, .iconst 4, 0, [], 4, 0), (74, 3, .if_icmp .gt 19, 93, [], 0, 0), (77, 1, .aload_n 0, 0, [], 0, 0), (78, 3, .getfield 12, 0, [], 0, 0), (81, 1, .iload_n 1, 0, [], 0, 0), (82, 1, .iload_n 2, 0, [], 0, 0), (83, 1, .aload_n 0, 0, [], 0, 0), (84, 3, .getfield 60, 0, [], 0, 0), (87, 3, .invokevirtual 99, 0, [], 0, 0), (90, 3, .ifCond .ne 5, 95, [], 0, 0), (93, 1, .iconst 0, 0, [], 0, 0), (94, 1, .ireturn, 0, [], 0, 0), (95, 1, .iload_n 1, 0, [], 0, 0), (96, 1, .iconst 2, 0, [], 2, 0), (97, 3, .if_icmp .eq 8, 105, [], 0, 0), (100, 1, .iload_n 1, 0, [], 0, 0), (101, 1, .iconst 3, 0, [], 3, 0), (102, 3, .if_icmp .ne 16, 118, [], 0, 0), (105, 1, .aload_n 0, 0, [], 0, 0), (106, 1, .aload_n 0, 0, [], 0, 0), (107, 3, .getfield 12, 0, [], 0, 0), (110, 3, .getfield 57, 0, [], 0, 0), (113, 1, .iconst 1, 0, [], 1, 0), (114, 1, .isub, 0, [], 0, 0), (115, 3, .invokevirtual 40, 0, [], 0, 0), (118, 1, .iconst 1, 0, [], 1, 0), (119, 1, .ireturn, 0, [], 0, 0)]
theorem tk_VR_adds : ∀ e ∈ tab_VR_adds, sTok "GathersAllFaults$ValueReader" prog_7_method_8_code e := tab_of (by decide +kernel)
def tab_TR_add : List sT := [(0, 1, .aload_n 0, 0, [], 0, 0), (1, 3, .getfield 30, 0, [], 0, 0), (4, 2, .bipush 20, 0, [], 20, 0), (6, 3, .if_icmp .lt 5, 11, [], 0, 0), (9, 1, .iconst 0, 0, [], 0, 0), (10, 1, .ireturn, 0, [], 0, 0), (11, 1, .aload_n 0, 0, [], 0, 0), (12, 3, .getfield 9, 0, [], 0, 0), (15, 1, .aload_n 0, 0, [], 0, 0), (16, 3, .getfield 30, 0, [], 0, 0), (19, 1, .iload_n 1, 0, [], 0, 0), (20, 3, .invokestatic 34, 0, [], 0, 0), (23, 1, .aload_n 0, 0, [], 0, 0), (24, 3, .getfield 15, 0, [], 0, 0), (27, 1, .aload_n 0, 0, [], 0, 0), (28, 3, .getfield 30, 0, [], 0, 0), (31, 1, .iload_n 2, 0, [], 0, 0), (32, 3, .invokestatic 34, 0, [], 0, 0), (35, 1, .aload_n 0, 0, [], 0, 0), (36, 3, .getfield 18, 0, [], 0, 0), (39, 1, .aload_n 0, 0, [], 0, 0), (40, 3, .getfield 30, 0, [], 0, 0), (43, 1, .iconst 0, 0, [], 0, 0), (44, 3, .invokestatic 34, 0, [], 0, 0), (47, 1, .aload_n 0, 0, [], 0, 0), (48, 3, .getfield 21, 0, [], 0, 0), (51, 1, .aload_n 0, 0, [], 0, 0), (52, 3, .getfield 30, 0, [], 0, 0), (55, 1, .iload_n 3, 0, [], 0, 0), (56, 3, .invokestatic 34, 0, [], 0, 0), (59, 1, .aload_n 0, 0, [], 0, 0), (60, 3, .getfield 24, 0, [], 0, 0), (63, 1, .aload_n 0, 0, [], 0, 0), (64, 3, .getfield 30, 0, [], 0, 0), (67, 1, .iconst 1, 0, [], 1, 0), (68, 3, .invokestatic 34, 0, [], 0, 0), (71, 1, .aload_n 0, 0, [], 0, 0), (72, 1, .dup, 0, [], 0, 0), (73, 3, .getfield 30, 0, [], 0, 0), (76, 1, .iconst 1, 0, [], 1, 0), (77, 1, .iadd, 0, [], 0, 0), (78, 3, .putfield 30, 0, [], 0, 0), (81, 1, .iconst 1, 0, [], 1, 0), (82, 1, .ireturn, 0, [], 0, 0)]
theorem tk_TR_add : ∀ e ∈ tab_TR_add, sTok "GathersAllFaults$Tree" prog_6_method_5_code e := tab_of (by decide +kernel)
def tab_VR_takes : List sT := [(0, 1, .iload_n 1, 0, [], 0, 0), (1, 59, .lookupswitch 114 #[(40, 66), (41, 80), (44, 112), (63, 59), (91, 73), (93, 80)], 115, [(40, 67), (41, 81), (44, 113), (63, 60), (91, 74), (93, 81)], 0, 0), (60, 1, .aload_n 0, 0, [], 0, 0), (61, 1, .iconst 1, 0, [], 1, 0), (62, 1, .iconst 0, 0, [], 0, 0), (63, 3, .invokevirtual 67, 0, [], 0, 0), (66, 1, .ireturn, 0, [], 0, 0), (67, 1, .aload_n 0, 0, [], 0, 0), (68, 1, .iconst 2, 0, [], 2, 0), (69, 1, .iconst 0, 0, [], 0, 0), (70, 3, .invokevirtual 67, 0, [], 0, 0), (73, 1, .ireturn, 0, [], 0, 0), (74, 1, .aload_n 0, 0, [], 0, 0), (75, 1, .iconst 3, 0, [], 3, 0), (76, 1, .iconst 0, 0, [], 0, 0), (77, 3, .invokevirtual 67, 0, [], 0, 0), (80, 1, .ireturn, 0, [], 0, 0), (81, 1, .aload_n 0, 0, [], 0, 0), (82, 3, .getfield 12, 0, [], 0, 0), (85, 3, .getfield 77, 0, [], 0, 0), (88, 1, .aload_n 0, 0, [], 0, 0), (89, 3, .invokevirtual 53, 0, [], 0, 0), (92, 1, .aload_n 0, 0, [], 0, 0), (93, 3, .getfield 12, 0, [], 0, 0), (96, 3, .getfield 57, 0, [], 0, 0), (99, 1, .aload_n 0, 0, [], 0, 0), (100, 3, .invokevirtual 53, 0, [], 0, 0), (103, 1, .isub, 0, [], 0, 0), (104, 3, .invokestatic 81, 0, [], 0, 0), (107, 1, .aload_n 0, 0, [], 0, 0), (108, 3, .invokevirtual 47, 0, [], 0, 0), (111, 1, .iconst 1, 0, [], 1, 0), (112, 1, .ireturn, 0, [], 0, 0), (113, 1, .iconst 1, 0, [], 1, 0), (114, 1, .ireturn, 0, [], 0, 0), (115, 1, .aload_n 0, 0, [], 0, 0), (116, 1, .iload_n 1, 0, [], 0, 0), (117, 3, .invokestatic 85, 0, [], 0, 0), (120, 3, .putfield 60, 0, [], 0, 0), (123, 1, .aload_n 0, 0, [], 0, 0), (124, 3, .getfield 12, 0, [], 0, 0), (127, 1, .aload_n 0, 0, [], 0, 0), (128, 3, .invokevirtual 53, 0, [], 0, 0), (131, 1, .aload_n 0, 0, [], 0, 0), (132, 3, .getfield 60, 0, [], 0, 0), (135, 3, .invokevirtual 89, 0, [], 0, 0), (138, 3, .ifCond .ge 7, 145, [], 0, 0), (141, 1, .iconst 1, 0, [], 1, 0), (142, 3, .goto 4, 146, [], 0, 0), (145, 1, .iconst 0, 0, [], 0, 0), (146, 1, .ireturn, 0, [], 0, 0)]
theorem tk_VR_takes : ∀ e ∈ tab_VR_takes, sTok "GathersAllFaults$ValueReader" prog_7_method_7_code e := tab_of (by decide +kernel)
def tab_TR_link : List sT := [(0, 1, .aload_n 0, 0, [], 0, 0), (1, 3, .getfield 27, 0, [], 0, 0), (4, 1, .iconst 0, 0, [], 0, 0), (5, 1, .iconst 0, 0, [], 0, 0), (6, 3, .invokestatic 34, 0, [], 0, 0), (9, 1, .iconst 0, 0, [], 0, 0), (10, 1, .istore_n 1, 0, [], 0, 0), (11, 1, .iload_n 1, 0, [], 0, 0), (12, 1, .aload_n 0, 0, [], 0, 0), (13, 3, .getfield 30, 0, [], 0, 0), (16, 3, .if_icmp .ge 101, 117, [], 0, 0), (19, 1, .aload_n 0, 0, [], 0, 0), (20, 3, .getfield 18, 0, [], 0, 0), (23, 1, .iload_n 1, 0, [], 0, 0), (24, 3, .invokestatic 42, 0, [], 0, 0), (27, 1, .istore_n 2, 0, [], 0, 0), (28, 1, .iload_n 1, 0, [], 0, 0), (29, 1, .iconst 1, 0, [], 1, 0), (30, 1, .iadd, 0, [], 0, 0), (31, 1, .istore_n 3, 0, [], 0, 0), (32, 1, .iconst 0, 0, [], 0, 0), (33, 2, .istore 4, 0, [], 0, 0), (35, 2, .iload 4, 0, [], 0, 0), (37, 1, .iload_n 2, 0, [], 0, 0), (38, 3, .if_icmp .ge 73, 111, [], 0, 0), (41, 1, .aload_n 0, 0, [], 0, 0), (42, 3, .getfield 9, 0, [], 0, 0), (45, 1, .iload_n 1, 0, [], 0, 0), (46, 3, .invokestatic 42, 0, [], 0, 0), (49, 1, .iconst 3, 0, [], 3, 0), (50, 3, .if_icmp .ne 16, 66, [], 0, 0), (53, 1, .aload_n 0, 0, [], 0, 0), (54, 3, .getfield 21, 0, [], 0, 0), (57, 1, .iload_n 3, 0, [], 0, 0), (58, 2, .bipush 6, 0, [], 6, 0), (60, 2, .iload 4, 0, [], 0, 0), (62, 1, .iadd, 0, [], 0, 0), (63, 3, .invokestatic 34, 0, [], 0, 0), (66, 1, .aload_n 0, 0, [], 0, 0), (67, 3, .getfield 27, 0, [], 0, 0), (70, 1, .iload_n 3, 0, [], 0, 0), (71, 2, .bipush 10, 0, [], 10, 0), (73, 1, .aload_n 0, 0, [], 0, 0), (74, 3, .getfield 27, 0, [], 0, 0), (77, 1, .iload_n 1, 0, [], 0, 0), (78, 3, .invokestatic 42, 0, [], 0, 0), (81, 1, .imul, 0, [], 0, 0), (82, 1, .aload_n 0, 0, [], 0, 0), (83, 3, .getfield 21, 0, [], 0, 0), (86, 1, .iload_n 3, 0, [], 0, 0), (87, 3, .invokestatic 42, 0, [], 0, 0), (90, 1, .iadd, 0, [], 0, 0), (91, 3, .invokestatic 34, 0, [], 0, 0), (94, 1, .iload_n 3, 0, [], 0, 0), (95, 1, .aload_n 0, 0, [], 0, 0), (96, 3, .getfield 24, 0, [], 0, 0), (99, 1, .iload_n 3, 0, [], 0, 0), (100, 3, .invokestatic 42, 0, [], 0, 0), (103, 1, .iadd, 0, [], 0, 0), (104, 1, .istore_n 3, 0, [], 0, 0), (105, 3, .iinc 4 1, 0, [], 1, 0), (108, 3, .goto (-73), 35, [], 0, 0), (111, 3, .iinc 1 1, 0, [], 1, 0), (114, 3, .goto (-103), 11, [], 0, 0), (117, 1, .return_, 0, [], 0, 0)]
theorem tk_TR_link : ∀ e ∈ tab_TR_link, sTok "GathersAllFaults$Tree" prog_6_method_6_code e := tab_of (by decide +kernel)
def tab_GF_value : List sT := [(0, 1, .aload_n 0, 0, [], 0, 0), (1, 3, .getfield 29, 0, [], 0, 0), (4, 1, .aload_n 0, 0, [], 0, 0), (5, 3, .getfield 40, 0, [], 0, 0), (8, 1, .aload_n 0, 0, [], 0, 0), (9, 3, .getfield 64, 0, [], 0, 0), (12, 3, .invokevirtual 72, 0, [], 0, 0), (15, 1, .istore_n 1, 0, [], 0, 0), (16, 1, .aload_n 0, 0, [], 0, 0), (17, 1, .iconst 0, 0, [], 0, 0), (18, 3, .putfield 64, 0, [], 0, 0), (21, 1, .iload_n 1, 0, [], 0, 0), (22, 3, .ifCond .eq 5, 27, [], 0, 0), (25, 1, .iload_n 1, 0, [], 0, 0), (26, 1, .ireturn, 0, [], 0, 0), (27, 1, .aload_n 0, 0, [], 0, 0), (28, 3, .getfield 10, 0, [], 0, 0), (31, 1, .aload_n 0, 0, [], 0, 0), (32, 3, .getfield 29, 0, [], 0, 0), (35, 3, .getfield 76, 0, [], 0, 0), (38, 3, .invokevirtual 79, 0, [], 0, 0), (41, 1, .aload_n 0, 0, [], 0, 0), (42, 3, .getfield 10, 0, [], 0, 0), (45, 3, .getfield 83, 0, [], 0, 0), (48, 1, .ireturn, 0, [], 0, 0)]
theorem tk_GF_value : ∀ e ∈ tab_GF_value, sTok "GathersAllFaults" prog_1_method_3_code e := tab_of (by decide +kernel)
end
section
/-! the fields that each class names -/
def ft_CR : List (Nat × Nat × Nat × sF) := [(150, 2, 0, (1, 1, .inr 24)), (96, 2, 3, (1, 4, .inr 24)), (143, 2, 4, (1, 5, .inr 24)), (145, 2, 5, (1, 6, .inr 24)), (129, 2, 6, (1, 7, .inr 24)), (126, 2, 7, (1, 8, .inr 24)), (69, 2, 13, (0, 0, .inl 0)), (72, 2, 14, (0, 0, .inl 0)), (153, 0, 0, (1, 1, .inr 96)), (62, 0, 1, (0, 0, .inl 0)), (22, 0, 2, (0, 0, .inl 0)), (12, 0, 4, (1, 2, .inl 2)), (18, 0, 5, (1, 16, .inr 96)), (30, 0, 6, (0, 0, .inl 0)), (51, 0, 7, (3, 0, .inl 0)), (75, 0, 8, (0, 0, .inl 0)), (78, 0, 9, (0, 0, .inl 0)), (81, 0, 10, (0, 0, .inl 0))]
theorem ft_CR_0 : fOK "GathersAllFaults$CheckReader" (150, 2, 0, (1, 1, .inr 24)) := ⟨R2_, T2_, 15, "GathersAllFaults$Plan", c2_ok, by decide, ALL_in 82 (by decide +kernel) rfl, Or.inl rfl, rfl, fun h => absurd h (by decide), fun h => absurd h (by decide), fun h => absurd h (by decide)⟩
theorem ft_CR_1 : fOK "GathersAllFaults$CheckReader" (96, 2, 3, (1, 4, .inr 24)) := ⟨R2_, T2_, 15, "GathersAllFaults$Plan", c2_ok, by decide, ALL_in 89 (by decide +kernel) rfl, Or.inl rfl, rfl, fun h => absurd h (by decide), fun h => absurd h (by decide), fun h => absurd h (by decide)⟩
theorem ft_CR_2 : fOK "GathersAllFaults$CheckReader" (143, 2, 4, (1, 5, .inr 24)) := ⟨R2_, T2_, 15, "GathersAllFaults$Plan", c2_ok, by decide, ALL_in 92 (by decide +kernel) rfl, Or.inl rfl, rfl, fun h => absurd h (by decide), fun h => absurd h (by decide), fun h => absurd h (by decide)⟩
theorem ft_CR_3 : fOK "GathersAllFaults$CheckReader" (145, 2, 5, (1, 6, .inr 24)) := ⟨R2_, T2_, 15, "GathersAllFaults$Plan", c2_ok, by decide, ALL_in 94 (by decide +kernel) rfl, Or.inl rfl, rfl, fun h => absurd h (by decide), fun h => absurd h (by decide), fun h => absurd h (by decide)⟩
theorem ft_CR_4 : fOK "GathersAllFaults$CheckReader" (129, 2, 6, (1, 7, .inr 24)) := ⟨R2_, T2_, 15, "GathersAllFaults$Plan", c2_ok, by decide, ALL_in 97 (by decide +kernel) rfl, Or.inl rfl, rfl, fun h => absurd h (by decide), fun h => absurd h (by decide), fun h => absurd h (by decide)⟩
theorem ft_CR_5 : fOK "GathersAllFaults$CheckReader" (126, 2, 7, (1, 8, .inr 24)) := ⟨R2_, T2_, 15, "GathersAllFaults$Plan", c2_ok, by decide, ALL_in 100 (by decide +kernel) rfl, Or.inl rfl, rfl, fun h => absurd h (by decide), fun h => absurd h (by decide), fun h => absurd h (by decide)⟩
theorem ft_CR_6 : fOK "GathersAllFaults$CheckReader" (69, 2, 13, (0, 0, .inl 0)) := ⟨R2_, T2_, 15, "GathersAllFaults$Plan", c2_ok, by decide, ALL_in 113 (by decide +kernel) rfl, Or.inl rfl, rfl, fun _ => ⟨by decide +kernel, rfl⟩, fun h => absurd h (by decide), fun h => absurd h (by decide)⟩
theorem ft_CR_7 : fOK "GathersAllFaults$CheckReader" (72, 2, 14, (0, 0, .inl 0)) := ⟨R2_, T2_, 15, "GathersAllFaults$Plan", c2_ok, by decide, ALL_in 115 (by decide +kernel) rfl, Or.inl rfl, rfl, fun _ => ⟨by decide +kernel, rfl⟩, fun h => absurd h (by decide), fun h => absurd h (by decide)⟩
theorem ft_CR_8 : fOK "GathersAllFaults$CheckReader" (153, 0, 0, (1, 1, .inr 96)) := ⟨R0_, T0_, 11, "GathersAllFaults$CheckReader", c0_ok, by decide, ALL_in 183 (by decide +kernel) rfl, Or.inr (ALL_in 184 (by decide +kernel) rfl), rfl, fun h => absurd h (by decide), fun h => absurd h (by decide), fun h => absurd h (by decide)⟩
theorem ft_CR_9 : fOK "GathersAllFaults$CheckReader" (62, 0, 1, (0, 0, .inl 0)) := ⟨R0_, T0_, 11, "GathersAllFaults$CheckReader", c0_ok, by decide, ALL_in 188 (by decide +kernel) rfl, Or.inr (ALL_in 189 (by decide +kernel) rfl), rfl, fun _ => ⟨by decide +kernel, rfl⟩, fun h => absurd h (by decide), fun h => absurd h (by decide)⟩
theorem ft_CR_10 : fOK "GathersAllFaults$CheckReader" (22, 0, 2, (0, 0, .inl 0)) := ⟨R0_, T0_, 11, "GathersAllFaults$CheckReader", c0_ok, by decide, ALL_in 190 (by decide +kernel) rfl, Or.inr (ALL_in 191 (by decide +kernel) rfl), rfl, fun _ => ⟨by decide +kernel, rfl⟩, fun h => absurd h (by decide), fun h => absurd h (by decide)⟩
theorem ft_CR_11 : fOK "GathersAllFaults$CheckReader" (12, 0, 4, (1, 2, .inl 2)) := ⟨R0_, T0_, 11, "GathersAllFaults$CheckReader", c0_ok, by decide, ALL_in 219 (by decide +kernel) rfl, Or.inl rfl, rfl, fun h => absurd h (by decide), fun h => absurd h (by decide), fun h => absurd h (by decide)⟩
theorem ft_CR_12 : fOK "GathersAllFaults$CheckReader" (18, 0, 5, (1, 16, .inr 96)) := ⟨R0_, T0_, 11, "GathersAllFaults$CheckReader", c0_ok, by decide, ALL_in 221 (by decide +kernel) rfl, Or.inl rfl, rfl, fun h => absurd h (by decide), fun h => absurd h (by decide), fun h => absurd h (by decide)⟩
theorem ft_CR_13 : fOK "GathersAllFaults$CheckReader" (30, 0, 6, (0, 0, .inl 0)) := ⟨R0_, T0_, 11, "GathersAllFaults$CheckReader", c0_ok, by decide, ALL_in 222 (by decide +kernel) rfl, Or.inl rfl, rfl, fun _ => ⟨by decide +kernel, rfl⟩, fun h => absurd h (by decide), fun h => absurd h (by decide)⟩
theorem ft_CR_14 : fOK "GathersAllFaults$CheckReader" (51, 0, 7, (3, 0, .inl 0)) := ⟨R0_, T0_, 11, "GathersAllFaults$CheckReader", c0_ok, by decide, ALL_in 223 (by decide +kernel) rfl, Or.inl rfl, rfl, fun h => absurd h (by decide), fun _ => ⟨by decide +kernel, rfl⟩, fun h => absurd h (by decide)⟩
theorem ft_CR_15 : fOK "GathersAllFaults$CheckReader" (75, 0, 8, (0, 0, .inl 0)) := ⟨R0_, T0_, 11, "GathersAllFaults$CheckReader", c0_ok, by decide, ALL_in 224 (by decide +kernel) rfl, Or.inl rfl, rfl, fun _ => ⟨by decide +kernel, rfl⟩, fun h => absurd h (by decide), fun h => absurd h (by decide)⟩
theorem ft_CR_16 : fOK "GathersAllFaults$CheckReader" (78, 0, 9, (0, 0, .inl 0)) := ⟨R0_, T0_, 11, "GathersAllFaults$CheckReader", c0_ok, by decide, ALL_in 225 (by decide +kernel) rfl, Or.inl rfl, rfl, fun _ => ⟨by decide +kernel, rfl⟩, fun h => absurd h (by decide), fun h => absurd h (by decide)⟩
theorem ft_CR_17 : fOK "GathersAllFaults$CheckReader" (81, 0, 10, (0, 0, .inl 0)) := ⟨R0_, T0_, 11, "GathersAllFaults$CheckReader", c0_ok, by decide, ALL_in 226 (by decide +kernel) rfl, Or.inl rfl, rfl, fun _ => ⟨by decide +kernel, rfl⟩, fun h => absurd h (by decide), fun h => absurd h (by decide)⟩
theorem ft_CR_ok : ∀ q ∈ ft_CR, fOK "GathersAllFaults$CheckReader" q := (List.forall_mem_cons.mpr ⟨ft_CR_0, (List.forall_mem_cons.mpr ⟨ft_CR_1, (List.forall_mem_cons.mpr ⟨ft_CR_2, (List.forall_mem_cons.mpr ⟨ft_CR_3, (List.forall_mem_cons.mpr ⟨ft_CR_4, (List.forall_mem_cons.mpr ⟨ft_CR_5, (List.forall_mem_cons.mpr ⟨ft_CR_6, (List.forall_mem_cons.mpr ⟨ft_CR_7, (List.forall_mem_cons.mpr ⟨ft_CR_8, (List.forall_mem_cons.mpr ⟨ft_CR_9, (List.forall_mem_cons.mpr ⟨ft_CR_10, (List.forall_mem_cons.mpr ⟨ft_CR_11, (List.forall_mem_cons.mpr ⟨ft_CR_12, (List.forall_mem_cons.mpr ⟨ft_CR_13, (List.forall_mem_cons.mpr ⟨ft_CR_14, (List.forall_mem_cons.mpr ⟨ft_CR_15, (List.forall_mem_cons.mpr ⟨ft_CR_16, (List.forall_mem_cons.mpr ⟨ft_CR_17, (fun _ h => absurd h List.not_mem_nil)⟩)⟩)⟩)⟩)⟩)⟩)⟩)⟩)⟩)⟩)⟩)⟩)⟩)⟩)⟩)⟩)⟩)⟩)
def ft_GA : List (Nat × Nat × Nat × sF) := [(83, 3, 0, (1, 1, .inr 20)), (92, 3, 1, (1, 2, .inr 20)), (101, 3, 2, (1, 3, .inr 20)), (132, 3, 3, (1, 4, .inr 20)), (104, 3, 4, (1, 5, .inr 20)), (86, 3, 5, (1, 6, .inr 20)), (60, 2, 0, (1, 1, .inr 24)), (95, 2, 1, (1, 2, .inr 24)), (98, 2, 2, (1, 3, .inr 24)), (76, 2, 3, (1, 4, .inr 24)), (123, 2, 4, (1, 5, .inr 24)), (129, 2, 5, (1, 6, .inr 24)), (120, 2, 6, (1, 7, .inr 24)), (111, 2, 8, (1, 9, .inr 24)), (114, 2, 9, (1, 10, .inr 24)), (145, 2, 10, (1, 11, .inr 32)), (136, 2, 11, (1, 12, .inr 32)), (139, 2, 12, (1, 13, .inr 32)), (12, 1, 0, (1, 1, .inl 2)), (21, 1, 1, (2, 0, .inl 3)), (25, 1, 2, (1, 22, .inr 6144)), (29, 1, 3, (0, 0, .inl 0)), (33, 1, 4, (0, 0, .inl 0))]
theorem ft_GA_0 : fOK "GathersAllFaults$Gatherer" (83, 3, 0, (1, 1, .inr 20)) := ⟨R3_, T3_, 7, "GathersAllFaults$Tree", c3_ok, by decide, ALL_in 32 (by decide +kernel) rfl, Or.inl rfl, rfl, fun h => absurd h (by decide), fun h => absurd h (by decide), fun h => absurd h (by decide)⟩
theorem ft_GA_1 : fOK "GathersAllFaults$Gatherer" (92, 3, 1, (1, 2, .inr 20)) := ⟨R3_, T3_, 7, "GathersAllFaults$Tree", c3_ok, by decide, ALL_in 35 (by decide +kernel) rfl, Or.inl rfl, rfl, fun h => absurd h (by decide), fun h => absurd h (by decide), fun h => absurd h (by decide)⟩
theorem ft_GA_2 : fOK "GathersAllFaults$Gatherer" (101, 3, 2, (1, 3, .inr 20)) := ⟨R3_, T3_, 7, "GathersAllFaults$Tree", c3_ok, by decide, ALL_in 39 (by decide +kernel) rfl, Or.inl rfl, rfl, fun h => absurd h (by decide), fun h => absurd h (by decide), fun h => absurd h (by decide)⟩
theorem ft_GA_3 : fOK "GathersAllFaults$Gatherer" (132, 3, 3, (1, 4, .inr 20)) := ⟨R3_, T3_, 7, "GathersAllFaults$Tree", c3_ok, by decide, ALL_in 41 (by decide +kernel) rfl, Or.inl rfl, rfl, fun h => absurd h (by decide), fun h => absurd h (by decide), fun h => absurd h (by decide)⟩
theorem ft_GA_4 : fOK "GathersAllFaults$Gatherer" (104, 3, 4, (1, 5, .inr 20)) := ⟨R3_, T3_, 7, "GathersAllFaults$Tree", c3_ok, by decide, ALL_in 44 (by decide +kernel) rfl, Or.inl rfl, rfl, fun h => absurd h (by decide), fun h => absurd h (by decide), fun h => absurd h (by decide)⟩
theorem ft_GA_5 : fOK "GathersAllFaults$Gatherer" (86, 3, 5, (1, 6, .inr 20)) := ⟨R3_, T3_, 7, "GathersAllFaults$Tree", c3_ok, by decide, ALL_in 46 (by decide +kernel) rfl, Or.inl rfl, rfl, fun h => absurd h (by decide), fun h => absurd h (by decide), fun h => absurd h (by decide)⟩
theorem ft_GA_6 : fOK "GathersAllFaults$Gatherer" (60, 2, 0, (1, 1, .inr 24)) := ⟨R2_, T2_, 15, "GathersAllFaults$Plan", c2_ok, by decide, ALL_in 81 (by decide +kernel) rfl, Or.inl rfl, rfl, fun h => absurd h (by decide), fun h => absurd h (by decide), fun h => absurd h (by decide)⟩
theorem ft_GA_7 : fOK "GathersAllFaults$Gatherer" (95, 2, 1, (1, 2, .inr 24)) := ⟨R2_, T2_, 15, "GathersAllFaults$Plan", c2_ok, by decide, ALL_in 84 (by decide +kernel) rfl, Or.inl rfl, rfl, fun h => absurd h (by decide), fun h => absurd h (by decide), fun h => absurd h (by decide)⟩
theorem ft_GA_8 : fOK "GathersAllFaults$Gatherer" (98, 2, 2, (1, 3, .inr 24)) := ⟨R2_, T2_, 15, "GathersAllFaults$Plan", c2_ok, by decide, ALL_in 86 (by decide +kernel) rfl, Or.inl rfl, rfl, fun h => absurd h (by decide), fun h => absurd h (by decide), fun h => absurd h (by decide)⟩
theorem ft_GA_9 : fOK "GathersAllFaults$Gatherer" (76, 2, 3, (1, 4, .inr 24)) := ⟨R2_, T2_, 15, "GathersAllFaults$Plan", c2_ok, by decide, ALL_in 88 (by decide +kernel) rfl, Or.inl rfl, rfl, fun h => absurd h (by decide), fun h => absurd h (by decide), fun h => absurd h (by decide)⟩
theorem ft_GA_10 : fOK "GathersAllFaults$Gatherer" (123, 2, 4, (1, 5, .inr 24)) := ⟨R2_, T2_, 15, "GathersAllFaults$Plan", c2_ok, by decide, ALL_in 91 (by decide +kernel) rfl, Or.inl rfl, rfl, fun h => absurd h (by decide), fun h => absurd h (by decide), fun h => absurd h (by decide)⟩
theorem ft_GA_11 : fOK "GathersAllFaults$Gatherer" (129, 2, 5, (1, 6, .inr 24)) := ⟨R2_, T2_, 15, "GathersAllFaults$Plan", c2_ok, by decide, ALL_in 95 (by decide +kernel) rfl, Or.inl rfl, rfl, fun h => absurd h (by decide), fun h => absurd h (by decide), fun h => absurd h (by decide)⟩
theorem ft_GA_12 : fOK "GathersAllFaults$Gatherer" (120, 2, 6, (1, 7, .inr 24)) := ⟨R2_, T2_, 15, "GathersAllFaults$Plan", c2_ok, by decide, ALL_in 98 (by decide +kernel) rfl, Or.inl rfl, rfl, fun h => absurd h (by decide), fun h => absurd h (by decide), fun h => absurd h (by decide)⟩
theorem ft_GA_13 : fOK "GathersAllFaults$Gatherer" (111, 2, 8, (1, 9, .inr 24)) := ⟨R2_, T2_, 15, "GathersAllFaults$Plan", c2_ok, by decide, ALL_in 102 (by decide +kernel) rfl, Or.inl rfl, rfl, fun h => absurd h (by decide), fun h => absurd h (by decide), fun h => absurd h (by decide)⟩
theorem ft_GA_14 : fOK "GathersAllFaults$Gatherer" (114, 2, 9, (1, 10, .inr 24)) := ⟨R2_, T2_, 15, "GathersAllFaults$Plan", c2_ok, by decide, ALL_in 104 (by decide +kernel) rfl, Or.inl rfl, rfl, fun h => absurd h (by decide), fun h => absurd h (by decide), fun h => absurd h (by decide)⟩
theorem ft_GA_15 : fOK "GathersAllFaults$Gatherer" (145, 2, 10, (1, 11, .inr 32)) := ⟨R2_, T2_, 15, "GathersAllFaults$Plan", c2_ok, by decide, ALL_in 106 (by decide +kernel) rfl, Or.inl rfl, rfl, fun h => absurd h (by decide), fun h => absurd h (by decide), fun h => absurd h (by decide)⟩
theorem ft_GA_16 : fOK "GathersAllFaults$Gatherer" (136, 2, 11, (1, 12, .inr 32)) := ⟨R2_, T2_, 15, "GathersAllFaults$Plan", c2_ok, by decide, ALL_in 108 (by decide +kernel) rfl, Or.inl rfl, rfl, fun h => absurd h (by decide), fun h => absurd h (by decide), fun h => absurd h (by decide)⟩
theorem ft_GA_17 : fOK "GathersAllFaults$Gatherer" (139, 2, 12, (1, 13, .inr 32)) := ⟨R2_, T2_, 15, "GathersAllFaults$Plan", c2_ok, by decide, ALL_in 110 (by decide +kernel) rfl, Or.inl rfl, rfl, fun h => absurd h (by decide), fun h => absurd h (by decide), fun h => absurd h (by decide)⟩
theorem ft_GA_18 : fOK "GathersAllFaults$Gatherer" (12, 1, 0, (1, 1, .inl 2)) := ⟨R1_, T1_, 5, "GathersAllFaults$Gatherer", c1_ok, by decide, ALL_in 149 (by decide +kernel) rfl, Or.inl rfl, rfl, fun h => absurd h (by decide), fun h => absurd h (by decide), fun h => absurd h (by decide)⟩
theorem ft_GA_19 : fOK "GathersAllFaults$Gatherer" (21, 1, 1, (2, 0, .inl 3)) := ⟨R1_, T1_, 5, "GathersAllFaults$Gatherer", c1_ok, by decide, ALL_in 151 (by decide +kernel) rfl, Or.inl rfl, rfl, fun h => absurd h (by decide), fun h => absurd h (by decide), fun _ => ⟨"GathersAllFaults$Tree", by decide +kernel, rfl⟩⟩
theorem ft_GA_20 : fOK "GathersAllFaults$Gatherer" (25, 1, 2, (1, 22, .inr 6144)) := ⟨R1_, T1_, 5, "GathersAllFaults$Gatherer", c1_ok, by decide, ALL_in 152 (by decide +kernel) rfl, Or.inl rfl, rfl, fun h => absurd h (by decide), fun h => absurd h (by decide), fun h => absurd h (by decide)⟩
theorem ft_GA_21 : fOK "GathersAllFaults$Gatherer" (29, 1, 3, (0, 0, .inl 0)) := ⟨R1_, T1_, 5, "GathersAllFaults$Gatherer", c1_ok, by decide, ALL_in 154 (by decide +kernel) rfl, Or.inl rfl, rfl, fun _ => ⟨by decide +kernel, rfl⟩, fun h => absurd h (by decide), fun h => absurd h (by decide)⟩
theorem ft_GA_22 : fOK "GathersAllFaults$Gatherer" (33, 1, 4, (0, 0, .inl 0)) := ⟨R1_, T1_, 5, "GathersAllFaults$Gatherer", c1_ok, by decide, ALL_in 155 (by decide +kernel) rfl, Or.inl rfl, rfl, fun _ => ⟨by decide +kernel, rfl⟩, fun h => absurd h (by decide), fun h => absurd h (by decide)⟩
theorem ft_GA_ok : ∀ q ∈ ft_GA, fOK "GathersAllFaults$Gatherer" q := (List.forall_mem_cons.mpr ⟨ft_GA_0, (List.forall_mem_cons.mpr ⟨ft_GA_1, (List.forall_mem_cons.mpr ⟨ft_GA_2, (List.forall_mem_cons.mpr ⟨ft_GA_3, (List.forall_mem_cons.mpr ⟨ft_GA_4, (List.forall_mem_cons.mpr ⟨ft_GA_5, (List.forall_mem_cons.mpr ⟨ft_GA_6, (List.forall_mem_cons.mpr ⟨ft_GA_7, (List.forall_mem_cons.mpr ⟨ft_GA_8, (List.forall_mem_cons.mpr ⟨ft_GA_9, (List.forall_mem_cons.mpr ⟨ft_GA_10, (List.forall_mem_cons.mpr ⟨ft_GA_11, (List.forall_mem_cons.mpr ⟨ft_GA_12, (List.forall_mem_cons.mpr ⟨ft_GA_13, (List.forall_mem_cons.mpr ⟨ft_GA_14, (List.forall_mem_cons.mpr ⟨ft_GA_15, (List.forall_mem_cons.mpr ⟨ft_GA_16, (List.forall_mem_cons.mpr ⟨ft_GA_17, (List.forall_mem_cons.mpr ⟨ft_GA_18, (List.forall_mem_cons.mpr ⟨ft_GA_19, (List.forall_mem_cons.mpr ⟨ft_GA_20, (List.forall_mem_cons.mpr ⟨ft_GA_21, (List.forall_mem_cons.mpr ⟨ft_GA_22, (fun _ h => absurd h List.not_mem_nil)⟩)⟩)⟩)⟩)⟩)⟩)⟩)⟩)⟩)⟩)⟩)⟩)⟩)⟩)⟩)⟩)⟩)⟩)⟩)⟩)⟩)⟩)⟩)
def ft_PL : List (Nat × Nat × Nat × sF) := [(9, 2, 0, (1, 1, .inr 24)), (15, 2, 1, (1, 2, .inr 24)), (18, 2, 2, (1, 3, .inr 24)), (21, 2, 3, (1, 4, .inr 24)), (24, 2, 4, (1, 5, .inr 24)), (27, 2, 5, (1, 6, .inr 24)), (30, 2, 6, (1, 7, .inr 24)), (33, 2, 7, (1, 8, .inr 24)), (36, 2, 8, (1, 9, .inr 24)), (39, 2, 9, (1, 10, .inr 24)), (42, 2, 10, (1, 11, .inr 32)), (45, 2, 11, (1, 12, .inr 32)), (48, 2, 12, (1, 13, .inr 32)), (51, 2, 13, (0, 0, .inl 0)), (63, 2, 14, (0, 0, .inl 0))]
theorem ft_PL_0 : fOK "GathersAllFaults$Plan" (9, 2, 0, (1, 1, .inr 24)) := ⟨R2_, T2_, 15, "GathersAllFaults$Plan", c2_ok, by decide, ALL_in 80 (by decide +kernel) rfl, Or.inl rfl, rfl, fun h => absurd h (by decide), fun h => absurd h (by decide), fun h => absurd h (by decide)⟩
theorem ft_PL_1 : fOK "GathersAllFaults$Plan" (15, 2, 1, (1, 2, .inr 24)) := ⟨R2_, T2_, 15, "GathersAllFaults$Plan", c2_ok, by decide, ALL_in 83 (by decide +kernel) rfl, Or.inl rfl, rfl, fun h => absurd h (by decide), fun h => absurd h (by decide), fun h => absurd h (by decide)⟩
theorem ft_PL_2 : fOK "GathersAllFaults$Plan" (18, 2, 2, (1, 3, .inr 24)) := ⟨R2_, T2_, 15, "GathersAllFaults$Plan", c2_ok, by decide, ALL_in 85 (by decide +kernel) rfl, Or.inl rfl, rfl, fun h => absurd h (by decide), fun h => absurd h (by decide), fun h => absurd h (by decide)⟩
theorem ft_PL_3 : fOK "GathersAllFaults$Plan" (21, 2, 3, (1, 4, .inr 24)) := ⟨R2_, T2_, 15, "GathersAllFaults$Plan", c2_ok, by decide, ALL_in 87 (by decide +kernel) rfl, Or.inl rfl, rfl, fun h => absurd h (by decide), fun h => absurd h (by decide), fun h => absurd h (by decide)⟩
theorem ft_PL_4 : fOK "GathersAllFaults$Plan" (24, 2, 4, (1, 5, .inr 24)) := ⟨R2_, T2_, 15, "GathersAllFaults$Plan", c2_ok, by decide, ALL_in 90 (by decide +kernel) rfl, Or.inl rfl, rfl, fun h => absurd h (by decide), fun h => absurd h (by decide), fun h => absurd h (by decide)⟩
theorem ft_PL_5 : fOK "GathersAllFaults$Plan" (27, 2, 5, (1, 6, .inr 24)) := ⟨R2_, T2_, 15, "GathersAllFaults$Plan", c2_ok, by decide, ALL_in 93 (by decide +kernel) rfl, Or.inl rfl, rfl, fun h => absurd h (by decide), fun h => absurd h (by decide), fun h => absurd h (by decide)⟩
theorem ft_PL_6 : fOK "GathersAllFaults$Plan" (30, 2, 6, (1, 7, .inr 24)) := ⟨R2_, T2_, 15, "GathersAllFaults$Plan", c2_ok, by decide, ALL_in 96 (by decide +kernel) rfl, Or.inl rfl, rfl, fun h => absurd h (by decide), fun h => absurd h (by decide), fun h => absurd h (by decide)⟩
theorem ft_PL_7 : fOK "GathersAllFaults$Plan" (33, 2, 7, (1, 8, .inr 24)) := ⟨R2_, T2_, 15, "GathersAllFaults$Plan", c2_ok, by decide, ALL_in 99 (by decide +kernel) rfl, Or.inl rfl, rfl, fun h => absurd h (by decide), fun h => absurd h (by decide), fun h => absurd h (by decide)⟩
theorem ft_PL_8 : fOK "GathersAllFaults$Plan" (36, 2, 8, (1, 9, .inr 24)) := ⟨R2_, T2_, 15, "GathersAllFaults$Plan", c2_ok, by decide, ALL_in 101 (by decide +kernel) rfl, Or.inl rfl, rfl, fun h => absurd h (by decide), fun h => absurd h (by decide), fun h => absurd h (by decide)⟩
theorem ft_PL_9 : fOK "GathersAllFaults$Plan" (39, 2, 9, (1, 10, .inr 24)) := ⟨R2_, T2_, 15, "GathersAllFaults$Plan", c2_ok, by decide, ALL_in 103 (by decide +kernel) rfl, Or.inl rfl, rfl, fun h => absurd h (by decide), fun h => absurd h (by decide), fun h => absurd h (by decide)⟩
theorem ft_PL_10 : fOK "GathersAllFaults$Plan" (42, 2, 10, (1, 11, .inr 32)) := ⟨R2_, T2_, 15, "GathersAllFaults$Plan", c2_ok, by decide, ALL_in 105 (by decide +kernel) rfl, Or.inl rfl, rfl, fun h => absurd h (by decide), fun h => absurd h (by decide), fun h => absurd h (by decide)⟩
theorem ft_PL_11 : fOK "GathersAllFaults$Plan" (45, 2, 11, (1, 12, .inr 32)) := ⟨R2_, T2_, 15, "GathersAllFaults$Plan", c2_ok, by decide, ALL_in 107 (by decide +kernel) rfl, Or.inl rfl, rfl, fun h => absurd h (by decide), fun h => absurd h (by decide), fun h => absurd h (by decide)⟩
theorem ft_PL_12 : fOK "GathersAllFaults$Plan" (48, 2, 12, (1, 13, .inr 32)) := ⟨R2_, T2_, 15, "GathersAllFaults$Plan", c2_ok, by decide, ALL_in 109 (by decide +kernel) rfl, Or.inl rfl, rfl, fun h => absurd h (by decide), fun h => absurd h (by decide), fun h => absurd h (by decide)⟩
theorem ft_PL_13 : fOK "GathersAllFaults$Plan" (51, 2, 13, (0, 0, .inl 0)) := ⟨R2_, T2_, 15, "GathersAllFaults$Plan", c2_ok, by decide, ALL_in 111 (by decide +kernel) rfl, Or.inl rfl, rfl, fun _ => ⟨by decide +kernel, rfl⟩, fun h => absurd h (by decide), fun h => absurd h (by decide)⟩
theorem ft_PL_14 : fOK "GathersAllFaults$Plan" (63, 2, 14, (0, 0, .inl 0)) := ⟨R2_, T2_, 15, "GathersAllFaults$Plan", c2_ok, by decide, ALL_in 114 (by decide +kernel) rfl, Or.inl rfl, rfl, fun _ => ⟨by decide +kernel, rfl⟩, fun h => absurd h (by decide), fun h => absurd h (by decide)⟩
theorem ft_PL_ok : ∀ q ∈ ft_PL, fOK "GathersAllFaults$Plan" q := (List.forall_mem_cons.mpr ⟨ft_PL_0, (List.forall_mem_cons.mpr ⟨ft_PL_1, (List.forall_mem_cons.mpr ⟨ft_PL_2, (List.forall_mem_cons.mpr ⟨ft_PL_3, (List.forall_mem_cons.mpr ⟨ft_PL_4, (List.forall_mem_cons.mpr ⟨ft_PL_5, (List.forall_mem_cons.mpr ⟨ft_PL_6, (List.forall_mem_cons.mpr ⟨ft_PL_7, (List.forall_mem_cons.mpr ⟨ft_PL_8, (List.forall_mem_cons.mpr ⟨ft_PL_9, (List.forall_mem_cons.mpr ⟨ft_PL_10, (List.forall_mem_cons.mpr ⟨ft_PL_11, (List.forall_mem_cons.mpr ⟨ft_PL_12, (List.forall_mem_cons.mpr ⟨ft_PL_13, (List.forall_mem_cons.mpr ⟨ft_PL_14, (fun _ h => absurd h List.not_mem_nil)⟩)⟩)⟩)⟩)⟩)⟩)⟩)⟩)⟩)⟩)⟩)⟩)⟩)⟩)⟩)
def ft_TR : List (Nat × Nat × Nat × sF) := [(9, 3, 0, (1, 1, .inr 20)), (15, 3, 1, (1, 2, .inr 20)), (18, 3, 2, (1, 3, .inr 20)), (21, 3, 3, (1, 4, .inr 20)), (24, 3, 4, (1, 5, .inr 20)), (27, 3, 5, (1, 6, .inr 20)), (30, 3, 6, (0, 0, .inl 0))]
theorem ft_TR_0 : fOK "GathersAllFaults$Tree" (9, 3, 0, (1, 1, .inr 20)) := ⟨R3_, T3_, 7, "GathersAllFaults$Tree", c3_ok, by decide, ALL_in 30 (by decide +kernel) rfl, Or.inl rfl, rfl, fun h => absurd h (by decide), fun h => absurd h (by decide), fun h => absurd h (by decide)⟩
theorem ft_TR_1 : fOK "GathersAllFaults$Tree" (15, 3, 1, (1, 2, .inr 20)) := ⟨R3_, T3_, 7, "GathersAllFaults$Tree", c3_ok, by decide, ALL_in 34 (by decide +kernel) rfl, Or.inl rfl, rfl, fun h => absurd h (by decide), fun h => absurd h (by decide), fun h => absurd h (by decide)⟩
theorem ft_TR_2 : fOK "GathersAllFaults$Tree" (18, 3, 2, (1, 3, .inr 20)) := ⟨R3_, T3_, 7, "GathersAllFaults$Tree", c3_ok, by decide, ALL_in 37 (by decide +kernel) rfl, Or.inl rfl, rfl, fun h => absurd h (by decide), fun h => absurd h (by decide), fun h => absurd h (by decide)⟩
theorem ft_TR_3 : fOK "GathersAllFaults$Tree" (21, 3, 3, (1, 4, .inr 20)) := ⟨R3_, T3_, 7, "GathersAllFaults$Tree", c3_ok, by decide, ALL_in 40 (by decide +kernel) rfl, Or.inl rfl, rfl, fun h => absurd h (by decide), fun h => absurd h (by decide), fun h => absurd h (by decide)⟩
theorem ft_TR_4 : fOK "GathersAllFaults$Tree" (24, 3, 4, (1, 5, .inr 20)) := ⟨R3_, T3_, 7, "GathersAllFaults$Tree", c3_ok, by decide, ALL_in 42 (by decide +kernel) rfl, Or.inl rfl, rfl, fun h => absurd h (by decide), fun h => absurd h (by decide), fun h => absurd h (by decide)⟩
theorem ft_TR_5 : fOK "GathersAllFaults$Tree" (27, 3, 5, (1, 6, .inr 20)) := ⟨R3_, T3_, 7, "GathersAllFaults$Tree", c3_ok, by decide, ALL_in 45 (by decide +kernel) rfl, Or.inl rfl, rfl, fun h => absurd h (by decide), fun h => absurd h (by decide), fun h => absurd h (by decide)⟩
theorem ft_TR_6 : fOK "GathersAllFaults$Tree" (30, 3, 6, (0, 0, .inl 0)) := ⟨R3_, T3_, 7, "GathersAllFaults$Tree", c3_ok, by decide, ALL_in 48 (by decide +kernel) rfl, Or.inl rfl, rfl, fun _ => ⟨by decide +kernel, rfl⟩, fun h => absurd h (by decide), fun h => absurd h (by decide)⟩
theorem ft_TR_ok : ∀ q ∈ ft_TR, fOK "GathersAllFaults$Tree" q := (List.forall_mem_cons.mpr ⟨ft_TR_0, (List.forall_mem_cons.mpr ⟨ft_TR_1, (List.forall_mem_cons.mpr ⟨ft_TR_2, (List.forall_mem_cons.mpr ⟨ft_TR_3, (List.forall_mem_cons.mpr ⟨ft_TR_4, (List.forall_mem_cons.mpr ⟨ft_TR_5, (List.forall_mem_cons.mpr ⟨ft_TR_6, (fun _ h => absurd h List.not_mem_nil)⟩)⟩)⟩)⟩)⟩)⟩)⟩)
def ft_VR : List (Nat × Nat × Nat × sF) := [(96, 3, 0, (1, 1, .inr 20)), (93, 3, 2, (1, 3, .inr 20)), (77, 3, 4, (1, 5, .inr 20)), (57, 3, 6, (0, 0, .inl 0)), (12, 4, 4, (1, 2, .inl 3)), (60, 4, 5, (0, 0, .inl 0)), (50, 4, 1, (0, 0, .inl 0)), (26, 4, 2, (0, 0, .inl 0)), (18, 4, 3, (3, 0, .inl 0))]
theorem ft_VR_0 : fOK "GathersAllFaults$ValueReader" (96, 3, 0, (1, 1, .inr 20)) := ⟨R3_, T3_, 7, "GathersAllFaults$Tree", c3_ok, by decide, ALL_in 31 (by decide +kernel) rfl, Or.inl rfl, rfl, fun h => absurd h (by decide), fun h => absurd h (by decide), fun h => absurd h (by decide)⟩
theorem ft_VR_1 : fOK "GathersAllFaults$ValueReader" (93, 3, 2, (1, 3, .inr 20)) := ⟨R3_, T3_, 7, "GathersAllFaults$Tree", c3_ok, by decide, ALL_in 38 (by decide +kernel) rfl, Or.inl rfl, rfl, fun h => absurd h (by decide), fun h => absurd h (by decide), fun h => absurd h (by decide)⟩
theorem ft_VR_2 : fOK "GathersAllFaults$ValueReader" (77, 3, 4, (1, 5, .inr 20)) := ⟨R3_, T3_, 7, "GathersAllFaults$Tree", c3_ok, by decide, ALL_in 43 (by decide +kernel) rfl, Or.inl rfl, rfl, fun h => absurd h (by decide), fun h => absurd h (by decide), fun h => absurd h (by decide)⟩
theorem ft_VR_3 : fOK "GathersAllFaults$ValueReader" (57, 3, 6, (0, 0, .inl 0)) := ⟨R3_, T3_, 7, "GathersAllFaults$Tree", c3_ok, by decide, ALL_in 50 (by decide +kernel) rfl, Or.inl rfl, rfl, fun _ => ⟨by decide +kernel, rfl⟩, fun h => absurd h (by decide), fun h => absurd h (by decide)⟩
theorem ft_VR_4 : fOK "GathersAllFaults$ValueReader" (12, 4, 4, (1, 2, .inl 3)) := ⟨R4_, T4_, 6, "GathersAllFaults$ValueReader", c4_ok, by decide, ALL_in 179 (by decide +kernel) rfl, Or.inl rfl, rfl, fun h => absurd h (by decide), fun h => absurd h (by decide), fun h => absurd h (by decide)⟩
theorem ft_VR_5 : fOK "GathersAllFaults$ValueReader" (60, 4, 5, (0, 0, .inl 0)) := ⟨R4_, T4_, 6, "GathersAllFaults$ValueReader", c4_ok, by decide, ALL_in 181 (by decide +kernel) rfl, Or.inl rfl, rfl, fun _ => ⟨by decide +kernel, rfl⟩, fun h => absurd h (by decide), fun h => absurd h (by decide)⟩
theorem ft_VR_6 : fOK "GathersAllFaults$ValueReader" (50, 4, 1, (0, 0, .inl 0)) := ⟨R4_, T4_, 6, "GathersAllFaults$ValueReader", c4_ok, by decide, ALL_in 186 (by decide +kernel) rfl, Or.inr (ALL_in 187 (by decide +kernel) rfl), rfl, fun _ => ⟨by decide +kernel, rfl⟩, fun h => absurd h (by decide), fun h => absurd h (by decide)⟩
theorem ft_VR_7 : fOK "GathersAllFaults$ValueReader" (26, 4, 2, (0, 0, .inl 0)) := ⟨R4_, T4_, 6, "GathersAllFaults$ValueReader", c4_ok, by decide, ALL_in 192 (by decide +kernel) rfl, Or.inr (ALL_in 193 (by decide +kernel) rfl), rfl, fun _ => ⟨by decide +kernel, rfl⟩, fun h => absurd h (by decide), fun h => absurd h (by decide)⟩
theorem ft_VR_8 : fOK "GathersAllFaults$ValueReader" (18, 4, 3, (3, 0, .inl 0)) := ⟨R4_, T4_, 6, "GathersAllFaults$ValueReader", c4_ok, by decide, ALL_in 195 (by decide +kernel) rfl, Or.inr (ALL_in 196 (by decide +kernel) rfl), rfl, fun h => absurd h (by decide), fun _ => ⟨by decide +kernel, rfl⟩, fun h => absurd h (by decide)⟩
theorem ft_VR_ok : ∀ q ∈ ft_VR, fOK "GathersAllFaults$ValueReader" q := (List.forall_mem_cons.mpr ⟨ft_VR_0, (List.forall_mem_cons.mpr ⟨ft_VR_1, (List.forall_mem_cons.mpr ⟨ft_VR_2, (List.forall_mem_cons.mpr ⟨ft_VR_3, (List.forall_mem_cons.mpr ⟨ft_VR_4, (List.forall_mem_cons.mpr ⟨ft_VR_5, (List.forall_mem_cons.mpr ⟨ft_VR_6, (List.forall_mem_cons.mpr ⟨ft_VR_7, (List.forall_mem_cons.mpr ⟨ft_VR_8, (fun _ h => absurd h List.not_mem_nil)⟩)⟩)⟩)⟩)⟩)⟩)⟩)⟩)⟩)
def ft_GF : List (Nat × Nat × Nat × sF) := [(99, 3, 0, (1, 1, .inr 20)), (105, 3, 1, (1, 2, .inr 20)), (114, 3, 5, (1, 6, .inr 20)), (83, 3, 6, (0, 0, .inl 0)), (95, 2, 13, (0, 0, .inl 0)), (87, 1, 0, (1, 1, .inl 2)), (142, 1, 2, (1, 22, .inr 6144)), (139, 1, 4, (0, 0, .inl 0)), (76, 4, 4, (1, 2, .inl 3)), (90, 0, 4, (1, 2, .inl 2)), (10, 5, 0, (1, 1, .inl 3)), (16, 5, 1, (1, 8, .inl 3)), (22, 5, 2, (1, 15, .inl 1)), (29, 5, 3, (1, 38, .inl 4)), (36, 5, 4, (1, 47, .inl 0)), (40, 5, 5, (1, 64, .inr 96)), (64, 5, 6, (0, 0, .inl 0)), (44, 5, 7, (1, 65, .inr 32)), (192, 5, 8, (0, 0, .inl 0)), (47, 5, 9, (1, 66, .inr 7)), (50, 5, 10, (1, 67, .inl 3)), (56, 5, 11, (1, 74, .inl 2)), (201, 5, 12, (3, 0, .inl 0))]
theorem ft_GF_0 : fOK "GathersAllFaults" (99, 3, 0, (1, 1, .inr 20)) := ⟨R3_, T3_, 7, "GathersAllFaults$Tree", c3_ok, by decide, ALL_in 33 (by decide +kernel) rfl, Or.inl rfl, rfl, fun h => absurd h (by decide), fun h => absurd h (by decide), fun h => absurd h (by decide)⟩
theorem ft_GF_1 : fOK "GathersAllFaults" (105, 3, 1, (1, 2, .inr 20)) := ⟨R3_, T3_, 7, "GathersAllFaults$Tree", c3_ok, by decide, ALL_in 36 (by decide +kernel) rfl, Or.inl rfl, rfl, fun h => absurd h (by decide), fun h => absurd h (by decide), fun h => absurd h (by decide)⟩
theorem ft_GF_2 : fOK "GathersAllFaults" (114, 3, 5, (1, 6, .inr 20)) := ⟨R3_, T3_, 7, "GathersAllFaults$Tree", c3_ok, by decide, ALL_in 47 (by decide +kernel) rfl, Or.inl rfl, rfl, fun h => absurd h (by decide), fun h => absurd h (by decide), fun h => absurd h (by decide)⟩
theorem ft_GF_3 : fOK "GathersAllFaults" (83, 3, 6, (0, 0, .inl 0)) := ⟨R3_, T3_, 7, "GathersAllFaults$Tree", c3_ok, by decide, ALL_in 49 (by decide +kernel) rfl, Or.inl rfl, rfl, fun _ => ⟨by decide +kernel, rfl⟩, fun h => absurd h (by decide), fun h => absurd h (by decide)⟩
theorem ft_GF_4 : fOK "GathersAllFaults" (95, 2, 13, (0, 0, .inl 0)) := ⟨R2_, T2_, 15, "GathersAllFaults$Plan", c2_ok, by decide, ALL_in 112 (by decide +kernel) rfl, Or.inl rfl, rfl, fun _ => ⟨by decide +kernel, rfl⟩, fun h => absurd h (by decide), fun h => absurd h (by decide)⟩
theorem ft_GF_5 : fOK "GathersAllFaults" (87, 1, 0, (1, 1, .inl 2)) := ⟨R1_, T1_, 5, "GathersAllFaults$Gatherer", c1_ok, by decide, ALL_in 150 (by decide +kernel) rfl, Or.inl rfl, rfl, fun h => absurd h (by decide), fun h => absurd h (by decide), fun h => absurd h (by decide)⟩
theorem ft_GF_6 : fOK "GathersAllFaults" (142, 1, 2, (1, 22, .inr 6144)) := ⟨R1_, T1_, 5, "GathersAllFaults$Gatherer", c1_ok, by decide, ALL_in 153 (by decide +kernel) rfl, Or.inl rfl, rfl, fun h => absurd h (by decide), fun h => absurd h (by decide), fun h => absurd h (by decide)⟩
theorem ft_GF_7 : fOK "GathersAllFaults" (139, 1, 4, (0, 0, .inl 0)) := ⟨R1_, T1_, 5, "GathersAllFaults$Gatherer", c1_ok, by decide, ALL_in 156 (by decide +kernel) rfl, Or.inl rfl, rfl, fun _ => ⟨by decide +kernel, rfl⟩, fun h => absurd h (by decide), fun h => absurd h (by decide)⟩
theorem ft_GF_8 : fOK "GathersAllFaults" (76, 4, 4, (1, 2, .inl 3)) := ⟨R4_, T4_, 6, "GathersAllFaults$ValueReader", c4_ok, by decide, ALL_in 180 (by decide +kernel) rfl, Or.inl rfl, rfl, fun h => absurd h (by decide), fun h => absurd h (by decide), fun h => absurd h (by decide)⟩
theorem ft_GF_9 : fOK "GathersAllFaults" (90, 0, 4, (1, 2, .inl 2)) := ⟨R0_, T0_, 11, "GathersAllFaults$CheckReader", c0_ok, by decide, ALL_in 220 (by decide +kernel) rfl, Or.inl rfl, rfl, fun h => absurd h (by decide), fun h => absurd h (by decide), fun h => absurd h (by decide)⟩
theorem ft_GF_10 : fOK "GathersAllFaults" (10, 5, 0, (1, 1, .inl 3)) := ⟨R5_, T5_, 14, "GathersAllFaults", c5_ok, by decide, ALL_in 248 (by decide +kernel) rfl, Or.inl rfl, rfl, fun h => absurd h (by decide), fun h => absurd h (by decide), fun h => absurd h (by decide)⟩
theorem ft_GF_11 : fOK "GathersAllFaults" (16, 5, 1, (1, 8, .inl 3)) := ⟨R5_, T5_, 14, "GathersAllFaults", c5_ok, by decide, ALL_in 249 (by decide +kernel) rfl, Or.inl rfl, rfl, fun h => absurd h (by decide), fun h => absurd h (by decide), fun h => absurd h (by decide)⟩
theorem ft_GF_12 : fOK "GathersAllFaults" (22, 5, 2, (1, 15, .inl 1)) := ⟨R5_, T5_, 14, "GathersAllFaults", c5_ok, by decide, ALL_in 250 (by decide +kernel) rfl, Or.inl rfl, rfl, fun h => absurd h (by decide), fun h => absurd h (by decide), fun h => absurd h (by decide)⟩
theorem ft_GF_13 : fOK "GathersAllFaults" (29, 5, 3, (1, 38, .inl 4)) := ⟨R5_, T5_, 14, "GathersAllFaults", c5_ok, by decide, ALL_in 251 (by decide +kernel) rfl, Or.inl rfl, rfl, fun h => absurd h (by decide), fun h => absurd h (by decide), fun h => absurd h (by decide)⟩
theorem ft_GF_14 : fOK "GathersAllFaults" (36, 5, 4, (1, 47, .inl 0)) := ⟨R5_, T5_, 14, "GathersAllFaults", c5_ok, by decide, ALL_in 252 (by decide +kernel) rfl, Or.inl rfl, rfl, fun h => absurd h (by decide), fun h => absurd h (by decide), fun h => absurd h (by decide)⟩
theorem ft_GF_15 : fOK "GathersAllFaults" (40, 5, 5, (1, 64, .inr 96)) := ⟨R5_, T5_, 14, "GathersAllFaults", c5_ok, by decide, ALL_in 253 (by decide +kernel) rfl, Or.inl rfl, rfl, fun h => absurd h (by decide), fun h => absurd h (by decide), fun h => absurd h (by decide)⟩
theorem ft_GF_16 : fOK "GathersAllFaults" (64, 5, 6, (0, 0, .inl 0)) := ⟨R5_, T5_, 14, "GathersAllFaults", c5_ok, by decide, ALL_in 254 (by decide +kernel) rfl, Or.inl rfl, rfl, fun _ => ⟨by decide +kernel, rfl⟩, fun h => absurd h (by decide), fun h => absurd h (by decide)⟩
theorem ft_GF_17 : fOK "GathersAllFaults" (44, 5, 7, (1, 65, .inr 32)) := ⟨R5_, T5_, 14, "GathersAllFaults", c5_ok, by decide, ALL_in 255 (by decide +kernel) rfl, Or.inl rfl, rfl, fun h => absurd h (by decide), fun h => absurd h (by decide), fun h => absurd h (by decide)⟩
theorem ft_GF_18 : fOK "GathersAllFaults" (192, 5, 8, (0, 0, .inl 0)) := ⟨R5_, T5_, 14, "GathersAllFaults", c5_ok, by decide, ALL_in 256 (by decide +kernel) rfl, Or.inl rfl, rfl, fun _ => ⟨by decide +kernel, rfl⟩, fun h => absurd h (by decide), fun h => absurd h (by decide)⟩
theorem ft_GF_19 : fOK "GathersAllFaults" (47, 5, 9, (1, 66, .inr 7)) := ⟨R5_, T5_, 14, "GathersAllFaults", c5_ok, by decide, ALL_in 257 (by decide +kernel) rfl, Or.inl rfl, rfl, fun h => absurd h (by decide), fun h => absurd h (by decide), fun h => absurd h (by decide)⟩
theorem ft_GF_20 : fOK "GathersAllFaults" (50, 5, 10, (1, 67, .inl 3)) := ⟨R5_, T5_, 14, "GathersAllFaults", c5_ok, by decide, ALL_in 258 (by decide +kernel) rfl, Or.inl rfl, rfl, fun h => absurd h (by decide), fun h => absurd h (by decide), fun h => absurd h (by decide)⟩
theorem ft_GF_21 : fOK "GathersAllFaults" (56, 5, 11, (1, 74, .inl 2)) := ⟨R5_, T5_, 14, "GathersAllFaults", c5_ok, by decide, ALL_in 259 (by decide +kernel) rfl, Or.inl rfl, rfl, fun h => absurd h (by decide), fun h => absurd h (by decide), fun h => absurd h (by decide)⟩
theorem ft_GF_22 : fOK "GathersAllFaults" (201, 5, 12, (3, 0, .inl 0)) := ⟨R5_, T5_, 14, "GathersAllFaults", c5_ok, by decide, ALL_in 260 (by decide +kernel) rfl, Or.inl rfl, rfl, fun h => absurd h (by decide), fun _ => ⟨by decide +kernel, rfl⟩, fun h => absurd h (by decide)⟩
theorem ft_GF_ok : ∀ q ∈ ft_GF, fOK "GathersAllFaults" q := (List.forall_mem_cons.mpr ⟨ft_GF_0, (List.forall_mem_cons.mpr ⟨ft_GF_1, (List.forall_mem_cons.mpr ⟨ft_GF_2, (List.forall_mem_cons.mpr ⟨ft_GF_3, (List.forall_mem_cons.mpr ⟨ft_GF_4, (List.forall_mem_cons.mpr ⟨ft_GF_5, (List.forall_mem_cons.mpr ⟨ft_GF_6, (List.forall_mem_cons.mpr ⟨ft_GF_7, (List.forall_mem_cons.mpr ⟨ft_GF_8, (List.forall_mem_cons.mpr ⟨ft_GF_9, (List.forall_mem_cons.mpr ⟨ft_GF_10, (List.forall_mem_cons.mpr ⟨ft_GF_11, (List.forall_mem_cons.mpr ⟨ft_GF_12, (List.forall_mem_cons.mpr ⟨ft_GF_13, (List.forall_mem_cons.mpr ⟨ft_GF_14, (List.forall_mem_cons.mpr ⟨ft_GF_15, (List.forall_mem_cons.mpr ⟨ft_GF_16, (List.forall_mem_cons.mpr ⟨ft_GF_17, (List.forall_mem_cons.mpr ⟨ft_GF_18, (List.forall_mem_cons.mpr ⟨ft_GF_19, (List.forall_mem_cons.mpr ⟨ft_GF_20, (List.forall_mem_cons.mpr ⟨ft_GF_21, (List.forall_mem_cons.mpr ⟨ft_GF_22, (fun _ h => absurd h List.not_mem_nil)⟩)⟩)⟩)⟩)⟩)⟩)⟩)⟩)⟩)⟩)⟩)⟩)⟩)⟩)⟩)⟩)⟩)⟩)⟩)⟩)⟩)⟩)⟩)
def ft_RD : List (Nat × Nat × Nat × sF) := [(9, 0, 0, (1, 1, .inr 96)), (9, 4, 0, (1, 1, .inr 96)), (19, 0, 1, (0, 0, .inl 0)), (19, 4, 1, (0, 0, .inl 0)), (26, 0, 2, (0, 0, .inl 0)), (26, 4, 2, (0, 0, .inl 0)), (29, 0, 3, (3, 0, .inl 0)), (29, 4, 3, (3, 0, .inl 0))]
theorem ft_RD_0 : fOK "GathersAllFaults$Reader" (9, 0, 0, (1, 1, .inr 96)) := ⟨R0_, T0_, 11, "GathersAllFaults$Reader", c0_ok, by decide, ALL_in 182 (by decide +kernel) rfl, Or.inl rfl, rfl, fun h => absurd h (by decide), fun h => absurd h (by decide), fun h => absurd h (by decide)⟩
theorem ft_RD_1 : fOK "GathersAllFaults$Reader" (9, 4, 0, (1, 1, .inr 96)) := ⟨R4_, T4_, 6, "GathersAllFaults$Reader", c4_ok, by decide, ALL_in 182 (by decide +kernel) rfl, Or.inl rfl, rfl, fun h => absurd h (by decide), fun h => absurd h (by decide), fun h => absurd h (by decide)⟩
theorem ft_RD_2 : fOK "GathersAllFaults$Reader" (19, 0, 1, (0, 0, .inl 0)) := ⟨R0_, T0_, 11, "GathersAllFaults$Reader", c0_ok, by decide, ALL_in 185 (by decide +kernel) rfl, Or.inl rfl, rfl, fun _ => ⟨by decide +kernel, rfl⟩, fun h => absurd h (by decide), fun h => absurd h (by decide)⟩
theorem ft_RD_3 : fOK "GathersAllFaults$Reader" (19, 4, 1, (0, 0, .inl 0)) := ⟨R4_, T4_, 6, "GathersAllFaults$Reader", c4_ok, by decide, ALL_in 185 (by decide +kernel) rfl, Or.inl rfl, rfl, fun _ => ⟨by decide +kernel, rfl⟩, fun h => absurd h (by decide), fun h => absurd h (by decide)⟩
theorem ft_RD_4 : fOK "GathersAllFaults$Reader" (26, 0, 2, (0, 0, .inl 0)) := ⟨R0_, T0_, 11, "GathersAllFaults$Reader", c0_ok, by decide, ALL_in 194 (by decide +kernel) rfl, Or.inl rfl, rfl, fun _ => ⟨by decide +kernel, rfl⟩, fun h => absurd h (by decide), fun h => absurd h (by decide)⟩
theorem ft_RD_5 : fOK "GathersAllFaults$Reader" (26, 4, 2, (0, 0, .inl 0)) := ⟨R4_, T4_, 6, "GathersAllFaults$Reader", c4_ok, by decide, ALL_in 194 (by decide +kernel) rfl, Or.inl rfl, rfl, fun _ => ⟨by decide +kernel, rfl⟩, fun h => absurd h (by decide), fun h => absurd h (by decide)⟩
theorem ft_RD_6 : fOK "GathersAllFaults$Reader" (29, 0, 3, (3, 0, .inl 0)) := ⟨R0_, T0_, 11, "GathersAllFaults$Reader", c0_ok, by decide, ALL_in 197 (by decide +kernel) rfl, Or.inl rfl, rfl, fun h => absurd h (by decide), fun _ => ⟨by decide +kernel, rfl⟩, fun h => absurd h (by decide)⟩
theorem ft_RD_7 : fOK "GathersAllFaults$Reader" (29, 4, 3, (3, 0, .inl 0)) := ⟨R4_, T4_, 6, "GathersAllFaults$Reader", c4_ok, by decide, ALL_in 197 (by decide +kernel) rfl, Or.inl rfl, rfl, fun h => absurd h (by decide), fun _ => ⟨by decide +kernel, rfl⟩, fun h => absurd h (by decide)⟩
theorem ft_RD_ok : ∀ q ∈ ft_RD, fOK "GathersAllFaults$Reader" q := (List.forall_mem_cons.mpr ⟨ft_RD_0, (List.forall_mem_cons.mpr ⟨ft_RD_1, (List.forall_mem_cons.mpr ⟨ft_RD_2, (List.forall_mem_cons.mpr ⟨ft_RD_3, (List.forall_mem_cons.mpr ⟨ft_RD_4, (List.forall_mem_cons.mpr ⟨ft_RD_5, (List.forall_mem_cons.mpr ⟨ft_RD_6, (List.forall_mem_cons.mpr ⟨ft_RD_7, (fun _ h => absurd h List.not_mem_nil)⟩)⟩)⟩)⟩)⟩)⟩)⟩)⟩)
end
section
/-! the leaves of the class: stretches -/
def pr0 : sP := fun _ _ => none
def ct_leaf : List sE := [(145, 5, 0, y_GF_at, 0, ⟨"", "", ""⟩, "", pr0), (220, 7, 0, y_GF_at, 0, ⟨"", "", ""⟩, "", pr0)]
theorem ct_leaf_ok (Y : List kd) : ∀ q ∈ ct_leaf, eOK Y "GathersAllFaults" q := (List.forall_mem_cons.mpr ⟨⟨ALL_in 427 (by decide +kernel) rfl, ALL_in 428 (by decide +kernel) rfl, ALL_in 10 (by decide +kernel) rfl, ALL_in 429 (by decide +kernel) rfl⟩, (List.forall_mem_cons.mpr ⟨⟨ALL_in 379 (by decide +kernel) rfl, ALL_in 381 (by decide +kernel) rfl, ALL_in 380 (by decide +kernel) rfl, ALL_in 11 (by decide +kernel) rfl⟩, (fun _ h => absurd h List.not_mem_nil)⟩)⟩)
set_option maxRecDepth 20000 in
theorem s_GF_at_0 (Y : List kd) (d : Nat) (a0 n0 : Nat) (v1 : Int32) (σ : sS) (Q : Option sv → sS → Prop)
    (h : ((v1 < 0 → Q (some (sI 0)) σ) ∧ (¬ v1 < 0 → ((¬ v1 < (nI n0) → Q (some (sI 0)) σ) ∧ (v1 < (nI n0) → (vp_in v1 n0 ∧ Q (some (sI (σ a0 (Int32.toNatClampNeg v1)))) σ)))))) :
    Jd Y d y_GF_at 0 [(0, sR a0 (.inr n0)), (1, sI v1)] [] σ Q :=
  blk_ok (d := d) (y := y_GF_at) (ft := ft_GF) (ct := ct_leaf) (tab := tab_GF_at) ⟨tk_GF_at, ft_GF_ok, ct_leaf_ok Y⟩ [] 16 0 _ _ σ h
set_option maxRecDepth 20000 in
theorem s_GF_set_0 (Y : List kd) (d : Nat) (a0 n0 : Nat) (v1 : Int32) (v2 : Int32) (σ : sS) (Q : Option sv → sS → Prop)
    (h : ((v1 < 0 → Q none σ) ∧ (¬ v1 < 0 → ((¬ v1 < (nI n0) → Q none σ) ∧ (v1 < (nI n0) → (vp_in v1 n0 ∧ Q none (up σ a0 (Int32.toNatClampNeg v1) v2))))))) :
    Jd Y d y_GF_set 0 [(0, sR a0 (.inr n0)), (1, sI v1), (2, sI v2)] [] σ Q :=
  blk_ok (d := d) (y := y_GF_set) (ft := ft_GF) (ct := ct_leaf) (tab := tab_GF_set) ⟨tk_GF_set, ft_GF_ok, ct_leaf_ok Y⟩ [] 15 0 _ _ σ h
set_option maxRecDepth 20000 in
theorem s_GF_isDigit_0 (Y : List kd) (d : Nat) (v0 : Int32) (σ : sS) (Q : Option sv → sS → Prop)
    (h : ((v0 < 48 → (((0 : Int32) = 0 ∨ (0 : Int32) = 1) ∧ Q (some (sI 0)) σ)) ∧ (¬ v0 < 48 → (((57 : Int32) < v0 → (((0 : Int32) = 0 ∨ (0 : Int32) = 1) ∧ Q (some (sI 0)) σ)) ∧ (¬ (57 : Int32) < v0 → (((1 : Int32) = 0 ∨ (1 : Int32) = 1) ∧ Q (some (sI 1)) σ)))))) :
    Jd Y d y_GF_isDigit 0 [(0, sI v0)] [] σ Q :=
  blk_ok (d := d) (y := y_GF_isDigit) (ft := ft_GF) (ct := ct_leaf) (tab := tab_GF_isDigit) ⟨tk_GF_isDigit, ft_GF_ok, ct_leaf_ok Y⟩ [] 12 0 _ _ σ h
set_option maxRecDepth 20000 in
theorem s_GF_isName_0 (Y : List kd) (d : Nat) (v0 : Int32) (σ : sS) (Q : Option sv → sS → Prop)
    (h : ((v0 < 97 → (((0 : Int32) = 0 ∨ (0 : Int32) = 1) ∧ Q (some (sI 0)) σ)) ∧ (¬ v0 < 97 → (((101 : Int32) < v0 → (((0 : Int32) = 0 ∨ (0 : Int32) = 1) ∧ Q (some (sI 0)) σ)) ∧ (¬ (101 : Int32) < v0 → (((1 : Int32) = 0 ∨ (1 : Int32) = 1) ∧ Q (some (sI 1)) σ)))))) :
    Jd Y d y_GF_isName 0 [(0, sI v0)] [] σ Q :=
  blk_ok (d := d) (y := y_GF_isName) (ft := ft_GF) (ct := ct_leaf) (tab := tab_GF_isName) ⟨tk_GF_isName, ft_GF_ok, ct_leaf_ok Y⟩ [] 12 0 _ _ σ h
set_option maxRecDepth 20000 in
theorem s_GF_digitOf_0 (Y : List kd) (d : Nat) (v0 : Int32) (σ : sS) (Q : Option sv → sS → Prop)
    (h : Q (some (sI ((v0 - 97) + 1))) σ) :
    Jd Y d y_GF_digitOf 0 [(0, sI v0)] [] σ Q :=
  blk_ok (d := d) (y := y_GF_digitOf) (ft := ft_GF) (ct := ct_leaf) (tab := tab_GF_digitOf) ⟨tk_GF_digitOf, ft_GF_ok, ct_leaf_ok Y⟩ [] 8 0 _ _ σ h
set_option maxRecDepth 20000 in
theorem s_GF_copy_0 (Y : List kd) (d : Nat) (a0 n0 : Nat) (a1 n1 : Nat) (σ : sS) (Q : Option sv → sS → Prop)
    (h : ((¬ (0 : Int32) < 0 ∧ ¬ (0 : Int32) < 0 ∧ ¬ (if (nI n1) < (nI n0) then (nI n1) else (nI n0)) < 0 ∧ Int32.toNatClampNeg 0 + Int32.toNatClampNeg (if (nI n1) < (nI n0) then (nI n1) else (nI n0)) ≤ n0 ∧ Int32.toNatClampNeg 0 + Int32.toNatClampNeg (if (nI n1) < (nI n0) then (nI n1) else (nI n0)) ≤ n1) ∧ Q none (upA σ a1 (va_cpy (σ a0) (σ a1) (Int32.toNatClampNeg 0) (Int32.toNatClampNeg 0) (Int32.toNatClampNeg (if (nI n1) < (nI n0) then (nI n1) else (nI n0))))))) :
    Jd Y (d + 1) y_GF_copy 0 [(0, sR a0 (.inr n0)), (1, sR a1 (.inr n1))] [] σ Q :=
  blk_ok (d := (d + 1)) (y := y_GF_copy) (ft := ft_GF) (ct := ct_leaf) (tab := tab_GF_copy) ⟨tk_GF_copy, ft_GF_ok, ct_leaf_ok Y⟩ [] 17 0 _ _ σ h
set_option maxRecDepth 20000 in
theorem s_GF_close_0 (Y : List kd) (d : Nat) (a0 n0 : Nat) (v1 : Int32) (v2 : Int32) (v3 : Int32) (σ : sS) (Q : Option sv → sS → Prop)
    (h : ((v3 < 0 → Q none σ) ∧ (¬ v3 < 0 → ((v1 < v3 → Q none σ) ∧ (¬ v1 < v3 → ((v2 < v1 → Q none σ) ∧ (¬ v2 < v1 → (((nI n0) < v2 → Q none σ) ∧ (¬ (nI n0) < v2 → ((¬ v1 < 0 ∧ ¬ (v1 - v3) < 0 ∧ ¬ (v2 - v1) < 0 ∧ Int32.toNatClampNeg v1 + Int32.toNatClampNeg (v2 - v1) ≤ n0 ∧ Int32.toNatClampNeg (v1 - v3) + Int32.toNatClampNeg (v2 - v1) ≤ n0) ∧ Q none (upA σ a0 (va_cpy (σ a0) (σ a0) (Int32.toNatClampNeg v1) (Int32.toNatClampNeg (v1 - v3)) (Int32.toNatClampNeg (v2 - v1)))))))))))))) :
    Jd Y (d + 1) y_GF_close 0 [(0, sR a0 (.inr n0)), (1, sI v1), (2, sI v2), (3, sI v3)] [] σ Q :=
  blk_ok (d := (d + 1)) (y := y_GF_close) (ft := ft_GF) (ct := ct_leaf) (tab := tab_GF_close) ⟨tk_GF_close, ft_GF_ok, ct_leaf_ok Y⟩ [] 27 0 _ _ σ h
end
section
/-! the leaves: what they do -/
theorem i32_clamp (x : Int32) : x.toNatClampNeg = x.toInt.toNat := rfl
theorem i32_ltN {x : Int32} {n : Nat} (hn : n < 2 ^ 31) (h0 : ¬ x < 0) : x < nI n ↔ x.toNatClampNeg < n := by
  rw [Int32.lt_iff_toInt_lt, nI_toInt hn, i32_clamp]
  rw [Int32.lt_iff_toInt_lt, Int32.toInt_zero] at h0
  omega
def rd (σ : sS) (a n : Nat) (i : Int32) : Int32 := if i < 0 then 0 else if n ≤ i.toNatClampNeg then 0 else σ a i.toNatClampNeg
def wr (σ : sS) (a n : Nat) (i v : Int32) : sS := if i < 0 then σ else if n ≤ i.toNatClampNeg then σ else up σ a i.toNatClampNeg v
def iDig (v : Int32) : Int32 := if v < 48 then 0 else if 57 < v then 0 else 1
def iNam (v : Int32) : Int32 := if v < 97 then 0 else if 101 < v then 0 else 1
def iIn (v a b : Int32) : Int32 := if v < a then 0 else if b < v then 0 else 1
def iBd (v a b : Int32) : Int32 := if v < a then -4 else if b < v then -6 else 0
def iHas (s k : Int32) : Int32 := if (s >>> (k &&& 31)) &&& 1 = 1 then 1 else 0
def cp (σ : sS) (a0 a1 n : Nat) : sS := upA σ a1 (va_cpy (σ a0) (σ a1) 0 0 n)
def cl (σ : sS) (a n : Nat) (f e g : Int32) : sS := if g < 0 then σ else if f < g then σ else if e < f then σ else if nI n < e then σ else upA σ a (va_cpy (σ a) (σ a) f.toNatClampNeg (f - g).toNatClampNeg (e - f).toNatClampNeg)
def pr_at : sP := fun as σ => match as with
  | [.inr (.inr (a, .inr n)), .inl i] => cond (Nat.blt n 2147483648) (some (some (.inl (rd σ a n i)), σ)) none
  | _ => none
def pr_set : sP := fun as σ => match as with
  | [.inr (.inr (a, .inr n)), .inl i, .inl v] => cond (Nat.blt n 2147483648) (some (none, wr σ a n i v)) none
  | _ => none
def pr_dig : sP := fun as σ => match as with
  | [.inl v] => some (some (.inl (iDig v)), σ)
  | _ => none
def pr_nam : sP := fun as σ => match as with
  | [.inl v] => some (some (.inl (iNam v)), σ)
  | _ => none
def pr_dof : sP := fun as σ => match as with
  | [.inl v] => some (some (.inl ((v - 97) + 1)), σ)
  | _ => none
theorem prk_at (Y : List kd) (as : List sv) (σ : sS) (r : Option sv) (σ' : sS) (h : pr_at as σ = some (r, σ')) (hw0 : wtS Y as) (d : Nat) (Q : Option sv → sS → Prop) (hq : Q r σ') : CJ Y d y_GF_at as σ Q := by
  unfold pr_at at h
  split at h
  · rename_i a n i
    cases hb : Nat.blt n 2147483648 with
    | false => rw [hb] at h; cases h
    | true =>
      rw [hb] at h
      have hn : n < 2 ^ 31 := Nat.le_of_ble_eq_true hb
      have e : some (Sum.inl (rd σ a n i)) = r ∧ σ = σ' := by simpa using h
      obtain ⟨rfl, rfl⟩ := e
      refine s_GF_at_0 Y d a n i σ Q ⟨fun h0 => ?_, fun h0 => ⟨fun h1 => ?_, fun h1 => ⟨?_, ?_⟩⟩⟩
      · simpa [rd, h0] using hq
      · rw [i32_ltN hn h0] at h1
        have h1 : n ≤ i.toNatClampNeg := by omega
        simpa [rd, h0, h1] using hq
      · rw [i32_ltN hn h0] at h1
        rintro (q | q)
        · exact h0 q
        · omega
      · rw [i32_ltN hn h0] at h1
        have h2 : ¬ n ≤ i.toNatClampNeg := by omega
        simpa [rd, h0, h2] using hq
  · cases h
theorem prk_set (Y : List kd) (as : List sv) (σ : sS) (r : Option sv) (σ' : sS) (h : pr_set as σ = some (r, σ')) (hw0 : wtS Y as) (d : Nat) (Q : Option sv → sS → Prop) (hq : Q r σ') : CJ Y d y_GF_set as σ Q := by
  unfold pr_set at h
  split at h
  · rename_i a n i v
    cases hb : Nat.blt n 2147483648 with
    | false => rw [hb] at h; cases h
    | true =>
      rw [hb] at h
      have hn : n < 2 ^ 31 := Nat.le_of_ble_eq_true hb
      have e : none = r ∧ wr σ a n i v = σ' := by simpa using h
      obtain ⟨rfl, rfl⟩ := e
      refine s_GF_set_0 Y d a n i v σ Q ⟨fun h0 => ?_, fun h0 => ⟨fun h1 => ?_, fun h1 => ⟨?_, ?_⟩⟩⟩
      · simpa [wr, h0] using hq
      · rw [i32_ltN hn h0] at h1
        have h1 : n ≤ i.toNatClampNeg := by omega
        simpa [wr, h0, h1] using hq
      · rw [i32_ltN hn h0] at h1
        rintro (q | q)
        · exact h0 q
        · omega
      · rw [i32_ltN hn h0] at h1
        have h2 : ¬ n ≤ i.toNatClampNeg := by omega
        simpa [wr, h0, h2] using hq
  · cases h
theorem prk_dig (Y : List kd) (as : List sv) (σ : sS) (r : Option sv) (σ' : sS) (h : pr_dig as σ = some (r, σ')) (hw0 : wtS Y as) (d : Nat) (Q : Option sv → sS → Prop) (hq : Q r σ') : CJ Y d y_GF_isDigit as σ Q := by
  unfold pr_dig at h
  split at h
  · rename_i v
    have e : some (Sum.inl (iDig v)) = r ∧ σ = σ' := by simpa using h
    obtain ⟨rfl, rfl⟩ := e
    refine s_GF_isDigit_0 Y d v σ Q ⟨fun h0 => ⟨Or.inl rfl, ?_⟩, fun h0 => ⟨fun h1 => ⟨Or.inl rfl, ?_⟩, fun h1 => ⟨Or.inr rfl, ?_⟩⟩⟩
    · simpa [iDig, h0] using hq
    · simpa [iDig, h0, h1] using hq
    · simpa [iDig, h0, h1] using hq
  · cases h
theorem prk_nam (Y : List kd) (as : List sv) (σ : sS) (r : Option sv) (σ' : sS) (h : pr_nam as σ = some (r, σ')) (hw0 : wtS Y as) (d : Nat) (Q : Option sv → sS → Prop) (hq : Q r σ') : CJ Y d y_GF_isName as σ Q := by
  unfold pr_nam at h
  split at h
  · rename_i v
    have e : some (Sum.inl (iNam v)) = r ∧ σ = σ' := by simpa using h
    obtain ⟨rfl, rfl⟩ := e
    refine s_GF_isName_0 Y d v σ Q ⟨fun h0 => ⟨Or.inl rfl, ?_⟩, fun h0 => ⟨fun h1 => ⟨Or.inl rfl, ?_⟩, fun h1 => ⟨Or.inr rfl, ?_⟩⟩⟩
    · simpa [iNam, h0] using hq
    · simpa [iNam, h0, h1] using hq
    · simpa [iNam, h0, h1] using hq
  · cases h
theorem prk_dof (Y : List kd) (as : List sv) (σ : sS) (r : Option sv) (σ' : sS) (h : pr_dof as σ = some (r, σ')) (hw0 : wtS Y as) (d : Nat) (Q : Option sv → sS → Prop) (hq : Q r σ') : CJ Y d y_GF_digitOf as σ Q := by
  unfold pr_dof at h
  split at h
  · rename_i v
    have e : some (Sum.inl ((v - 97) + 1)) = r ∧ σ = σ' := by simpa using h
    obtain ⟨rfl, rfl⟩ := e
    exact s_GF_digitOf_0 Y d v σ Q hq
  · cases h
theorem c_GF_copy (Y : List kd) (d a0 a1 n : Nat) (hn : n < 2 ^ 31) (σ : sS) (k : sS → Prop) (hk : k (cp σ a0 a1 n)) : CJ Y (d + 1) y_GF_copy [sR a0 (.inr n), sR a1 (.inr n)] σ (rN k) := by
  refine s_GF_copy_0 Y d a0 n a1 n σ (rN k) ?_
  have e : (if nI n < nI n then nI n else nI n) = nI n := by split <;> rfl
  have z : Int32.toNatClampNeg 0 = 0 := rfl
  rw [e, nI_clamp hn, z]
  exact ⟨⟨by decide, by decide, nI_pos hn, by omega, by omega⟩, hk⟩
theorem c_GF_close (Y : List kd) (d a n : Nat) (hn : n < 2 ^ 31) (f e g : Int32) (σ : sS) (k : sS → Prop) (hk : k (cl σ a n f e g)) : CJ Y (d + 1) y_GF_close [sR a (.inr n), sI f, sI e, sI g] σ (rN k) := by
  unfold cl at hk
  refine s_GF_close_0 Y d a n f e g σ (rN k) ⟨fun h0 => ?_, fun h0 => ⟨fun h1 => ?_, fun h1 => ⟨fun h2 => ?_, fun h2 => ⟨fun h3 => ?_, fun h3 => ⟨?_, ?_⟩⟩⟩⟩⟩
  · rw [if_pos h0] at hk; exact hk
  · rw [if_neg h0, if_pos h1] at hk; exact hk
  · rw [if_neg h0, if_neg h1, if_pos h2] at hk; exact hk
  · rw [if_neg h0, if_neg h1, if_neg h2, if_pos h3] at hk; exact hk
  · rw [Int32.lt_iff_toInt_lt, Int32.toInt_zero] at h0
    rw [Int32.lt_iff_toInt_lt] at h1 h2 h3
    rw [nI_toInt hn] at h3
    have a1 : (f - g).toInt = f.toInt - g.toInt := by
      rw [Int32.toInt_sub]
      have := f.toInt_lt; have := g.toInt_lt; have := f.le_toInt; have := g.le_toInt
      exact Int.bmod_eq_of_le (by omega) (by omega)
    have a2 : (e - f).toInt = e.toInt - f.toInt := by
      rw [Int32.toInt_sub]
      have := f.toInt_lt; have := e.toInt_lt; have := f.le_toInt; have := e.le_toInt
      exact Int.bmod_eq_of_le (by omega) (by omega)
    simp only [Int32.lt_iff_toInt_lt, Int32.toInt_zero, i32_clamp, a1, a2]
    omega
  · rw [if_neg h0, if_neg h1, if_neg h2, if_neg h3] at hk; exact hk
end
section
/-! the calls of every class: what each rests on -/
theorem yk0_CR_begins : plainName y_CR_begins.1.cls = true ∧ Cond.code y_CR_begins.1 y_CR_begins.2.1 y_CR_begins.2.2.1 y_CR_begins.2.2.2 ∈ ALL ∧ y_CR_begins.2.2.1 ≤ 21 ∧ notMH y_CR_begins.1.cls ∧ (parseMethodDescriptor y_CR_begins.1.desc).map (fun d => d.parameters.length) = some 1 := ⟨by decide +kernel, ALL_in 576 (by decide +kernel) rfl, by decide, ⟨by decide +kernel, by decide +kernel⟩, by decide +kernel⟩
theorem yk_CR_begins (Y : List kd) (idx kind ci : Nat) (x : MethodName) (h : String) : yOK Y (idx, kind, ci, y_CR_begins, 1, x, h, pr0) := ⟨yk0_CR_begins.1, yk0_CR_begins.2.1, yk0_CR_begins.2.2.1, yk0_CR_begins.2.2.2.1, yk0_CR_begins.2.2.2.2, fun _ _ _ _ h => by cases h⟩
theorem yk0_CR_ends : plainName y_CR_ends.1.cls = true ∧ Cond.code y_CR_ends.1 y_CR_ends.2.1 y_CR_ends.2.2.1 y_CR_ends.2.2.2 ∈ ALL ∧ y_CR_ends.2.2.1 ≤ 21 ∧ notMH y_CR_ends.1.cls ∧ (parseMethodDescriptor y_CR_ends.1.desc).map (fun d => d.parameters.length) = some 0 := ⟨by decide +kernel, ALL_in 580 (by decide +kernel) rfl, by decide, ⟨by decide +kernel, by decide +kernel⟩, by decide +kernel⟩
theorem yk_CR_ends (Y : List kd) (idx kind ci : Nat) (x : MethodName) (h : String) : yOK Y (idx, kind, ci, y_CR_ends, 0, x, h, pr0) := ⟨yk0_CR_ends.1, yk0_CR_ends.2.1, yk0_CR_ends.2.2.1, yk0_CR_ends.2.2.2.1, yk0_CR_ends.2.2.2.2, fun _ _ _ _ h => by cases h⟩
theorem yk0_RD_top : plainName y_RD_top.1.cls = true ∧ Cond.code y_RD_top.1 y_RD_top.2.1 y_RD_top.2.2.1 y_RD_top.2.2.2 ∈ ALL ∧ y_RD_top.2.2.1 ≤ 21 ∧ notMH y_RD_top.1.cls ∧ (parseMethodDescriptor y_RD_top.1.desc).map (fun d => d.parameters.length) = some 0 := ⟨by decide +kernel, ALL_in 586 (by decide +kernel) rfl, by decide, ⟨by decide +kernel, by decide +kernel⟩, by decide +kernel⟩
theorem yk_RD_top (Y : List kd) (idx kind ci : Nat) (x : MethodName) (h : String) : yOK Y (idx, kind, ci, y_RD_top, 0, x, h, pr0) := ⟨yk0_RD_top.1, yk0_RD_top.2.1, yk0_RD_top.2.2.1, yk0_RD_top.2.2.2.1, yk0_RD_top.2.2.2.2, fun _ _ _ _ h => by cases h⟩
theorem yk0_RD_pop : plainName y_RD_pop.1.cls = true ∧ Cond.code y_RD_pop.1 y_RD_pop.2.1 y_RD_pop.2.2.1 y_RD_pop.2.2.2 ∈ ALL ∧ y_RD_pop.2.2.1 ≤ 21 ∧ notMH y_RD_pop.1.cls ∧ (parseMethodDescriptor y_RD_pop.1.desc).map (fun d => d.parameters.length) = some 0 := ⟨by decide +kernel, ALL_in 592 (by decide +kernel) rfl, by decide, ⟨by decide +kernel, by decide +kernel⟩, by decide +kernel⟩
theorem yk_RD_pop (Y : List kd) (idx kind ci : Nat) (x : MethodName) (h : String) : yOK Y (idx, kind, ci, y_RD_pop, 0, x, h, pr0) := ⟨yk0_RD_pop.1, yk0_RD_pop.2.1, yk0_RD_pop.2.2.1, yk0_RD_pop.2.2.2.1, yk0_RD_pop.2.2.2.2, fun _ _ _ _ h => by cases h⟩
theorem yk0_RD_push : plainName y_RD_push.1.cls = true ∧ Cond.code y_RD_push.1 y_RD_push.2.1 y_RD_push.2.2.1 y_RD_push.2.2.2 ∈ ALL ∧ y_RD_push.2.2.1 ≤ 21 ∧ notMH y_RD_push.1.cls ∧ (parseMethodDescriptor y_RD_push.1.desc).map (fun d => d.parameters.length) = some 1 := ⟨by decide +kernel, ALL_in 598 (by decide +kernel) rfl, by decide, ⟨by decide +kernel, by decide +kernel⟩, by decide +kernel⟩
theorem yk_RD_push (Y : List kd) (idx kind ci : Nat) (x : MethodName) (h : String) : yOK Y (idx, kind, ci, y_RD_push, 1, x, h, pr0) := ⟨yk0_RD_push.1, yk0_RD_push.2.1, yk0_RD_push.2.2.1, yk0_RD_push.2.2.2.1, yk0_RD_push.2.2.2.2, fun _ _ _ _ h => by cases h⟩
theorem yk0_CR_goBehindDigits : plainName y_CR_goBehindDigits.1.cls = true ∧ Cond.code y_CR_goBehindDigits.1 y_CR_goBehindDigits.2.1 y_CR_goBehindDigits.2.2.1 y_CR_goBehindDigits.2.2.2 ∈ ALL ∧ y_CR_goBehindDigits.2.2.1 ≤ 21 ∧ notMH y_CR_goBehindDigits.1.cls ∧ (parseMethodDescriptor y_CR_goBehindDigits.1.desc).map (fun d => d.parameters.length) = some 0 := ⟨by decide +kernel, ALL_in 603 (by decide +kernel) rfl, by decide, ⟨by decide +kernel, by decide +kernel⟩, by decide +kernel⟩
theorem yk_CR_goBehindDigits (Y : List kd) (idx kind ci : Nat) (x : MethodName) (h : String) : yOK Y (idx, kind, ci, y_CR_goBehindDigits, 0, x, h, pr0) := ⟨yk0_CR_goBehindDigits.1, yk0_CR_goBehindDigits.2.1, yk0_CR_goBehindDigits.2.2.1, yk0_CR_goBehindDigits.2.2.2.1, yk0_CR_goBehindDigits.2.2.2.2, fun _ _ _ _ h => by cases h⟩
theorem yk0_CR_field : plainName y_CR_field.1.cls = true ∧ Cond.code y_CR_field.1 y_CR_field.2.1 y_CR_field.2.2.1 y_CR_field.2.2.2 ∈ ALL ∧ y_CR_field.2.2.1 ≤ 21 ∧ notMH y_CR_field.1.cls ∧ (parseMethodDescriptor y_CR_field.1.desc).map (fun d => d.parameters.length) = some 1 := ⟨by decide +kernel, ALL_in 610 (by decide +kernel) rfl, by decide, ⟨by decide +kernel, by decide +kernel⟩, by decide +kernel⟩
theorem yk_CR_field (Y : List kd) (idx kind ci : Nat) (x : MethodName) (h : String) : yOK Y (idx, kind, ci, y_CR_field, 1, x, h, pr0) := ⟨yk0_CR_field.1, yk0_CR_field.2.1, yk0_CR_field.2.2.1, yk0_CR_field.2.2.2.1, yk0_CR_field.2.2.2.2, fun _ _ _ _ h => by cases h⟩
theorem yk0_CR_last : plainName y_CR_last.1.cls = true ∧ Cond.code y_CR_last.1 y_CR_last.2.1 y_CR_last.2.2.1 y_CR_last.2.2.2 ∈ ALL ∧ y_CR_last.2.2.1 ≤ 21 ∧ notMH y_CR_last.1.cls ∧ (parseMethodDescriptor y_CR_last.1.desc).map (fun d => d.parameters.length) = some 1 := ⟨by decide +kernel, ALL_in 617 (by decide +kernel) rfl, by decide, ⟨by decide +kernel, by decide +kernel⟩, by decide +kernel⟩
theorem yk_CR_last (Y : List kd) (idx kind ci : Nat) (x : MethodName) (h : String) : yOK Y (idx, kind, ci, y_CR_last, 1, x, h, pr0) := ⟨yk0_CR_last.1, yk0_CR_last.2.1, yk0_CR_last.2.2.1, yk0_CR_last.2.2.2.1, yk0_CR_last.2.2.2.2, fun _ _ _ _ h => by cases h⟩
theorem yk0_CR_takes : plainName y_CR_takes.1.cls = true ∧ Cond.code y_CR_takes.1 y_CR_takes.2.1 y_CR_takes.2.2.1 y_CR_takes.2.2.2 ∈ ALL ∧ y_CR_takes.2.2.1 ≤ 21 ∧ notMH y_CR_takes.1.cls ∧ (parseMethodDescriptor y_CR_takes.1.desc).map (fun d => d.parameters.length) = some 2 := ⟨by decide +kernel, ALL_in 653 (by decide +kernel) rfl, by decide, ⟨by decide +kernel, by decide +kernel⟩, by decide +kernel⟩
theorem yk_CR_takes (Y : List kd) (idx kind ci : Nat) (x : MethodName) (h : String) : yOK Y (idx, kind, ci, y_CR_takes, 2, x, h, pr0) := ⟨yk0_CR_takes.1, yk0_CR_takes.2.1, yk0_CR_takes.2.2.1, yk0_CR_takes.2.2.2.1, yk0_CR_takes.2.2.2.2, fun _ _ _ _ h => by cases h⟩
theorem yk0_CR_settle : plainName y_CR_settle.1.cls = true ∧ Cond.code y_CR_settle.1 y_CR_settle.2.1 y_CR_settle.2.2.1 y_CR_settle.2.2.2 ∈ ALL ∧ y_CR_settle.2.2.1 ≤ 21 ∧ notMH y_CR_settle.1.cls ∧ (parseMethodDescriptor y_CR_settle.1.desc).map (fun d => d.parameters.length) = some 0 := ⟨by decide +kernel, ALL_in 659 (by decide +kernel) rfl, by decide, ⟨by decide +kernel, by decide +kernel⟩, by decide +kernel⟩
theorem yk_CR_settle (Y : List kd) (idx kind ci : Nat) (x : MethodName) (h : String) : yOK Y (idx, kind, ci, y_CR_settle, 0, x, h, pr0) := ⟨yk0_CR_settle.1, yk0_CR_settle.2.1, yk0_CR_settle.2.2.1, yk0_CR_settle.2.2.2.1, yk0_CR_settle.2.2.2.2, fun _ _ _ _ h => by cases h⟩
theorem yk0_CR_addsField : plainName y_CR_addsField.1.cls = true ∧ Cond.code y_CR_addsField.1 y_CR_addsField.2.1 y_CR_addsField.2.2.1 y_CR_addsField.2.2.2 ∈ ALL ∧ y_CR_addsField.2.2.1 ≤ 21 ∧ notMH y_CR_addsField.1.cls ∧ (parseMethodDescriptor y_CR_addsField.1.desc).map (fun d => d.parameters.length) = some 2 := ⟨by decide +kernel, ALL_in 666 (by decide +kernel) rfl, by decide, ⟨by decide +kernel, by decide +kernel⟩, by decide +kernel⟩
theorem yk_CR_addsField (Y : List kd) (idx kind ci : Nat) (x : MethodName) (h : String) : yOK Y (idx, kind, ci, y_CR_addsField, 2, x, h, pr0) := ⟨yk0_CR_addsField.1, yk0_CR_addsField.2.1, yk0_CR_addsField.2.2.1, yk0_CR_addsField.2.2.2.1, yk0_CR_addsField.2.2.2.2, fun _ _ _ _ h => by cases h⟩
theorem yk0_PL_knows : plainName y_PL_knows.1.cls = true ∧ Cond.code y_PL_knows.1 y_PL_knows.2.1 y_PL_knows.2.2.1 y_PL_knows.2.2.2 ∈ ALL ∧ y_PL_knows.2.2.1 ≤ 21 ∧ notMH y_PL_knows.1.cls ∧ (parseMethodDescriptor y_PL_knows.1.desc).map (fun d => d.parameters.length) = some 2 := ⟨by decide +kernel, ALL_in 338 (by decide +kernel) rfl, by decide, ⟨by decide +kernel, by decide +kernel⟩, by decide +kernel⟩
theorem yk_PL_knows (Y : List kd) (idx kind ci : Nat) (x : MethodName) (h : String) : yOK Y (idx, kind, ci, y_PL_knows, 2, x, h, pr0) := ⟨yk0_PL_knows.1, yk0_PL_knows.2.1, yk0_PL_knows.2.2.1, yk0_PL_knows.2.2.2.1, yk0_PL_knows.2.2.2.2, fun _ _ _ _ h => by cases h⟩
theorem yk0_CR_addsDependent : plainName y_CR_addsDependent.1.cls = true ∧ Cond.code y_CR_addsDependent.1 y_CR_addsDependent.2.1 y_CR_addsDependent.2.2.1 y_CR_addsDependent.2.2.2 ∈ ALL ∧ y_CR_addsDependent.2.2.1 ≤ 21 ∧ notMH y_CR_addsDependent.1.cls ∧ (parseMethodDescriptor y_CR_addsDependent.1.desc).map (fun d => d.parameters.length) = some 3 := ⟨by decide +kernel, ALL_in 671 (by decide +kernel) rfl, by decide, ⟨by decide +kernel, by decide +kernel⟩, by decide +kernel⟩
theorem yk_CR_addsDependent (Y : List kd) (idx kind ci : Nat) (x : MethodName) (h : String) : yOK Y (idx, kind, ci, y_CR_addsDependent, 3, x, h, pr0) := ⟨yk0_CR_addsDependent.1, yk0_CR_addsDependent.2.1, yk0_CR_addsDependent.2.2.1, yk0_CR_addsDependent.2.2.2.1, yk0_CR_addsDependent.2.2.2.2, fun _ _ _ _ h => by cases h⟩
theorem yk0_PL_depend : plainName y_PL_depend.1.cls = true ∧ Cond.code y_PL_depend.1 y_PL_depend.2.1 y_PL_depend.2.2.1 y_PL_depend.2.2.2 ∈ ALL ∧ y_PL_depend.2.2.1 ≤ 21 ∧ notMH y_PL_depend.1.cls ∧ (parseMethodDescriptor y_PL_depend.1.desc).map (fun d => d.parameters.length) = some 4 := ⟨by decide +kernel, ALL_in 675 (by decide +kernel) rfl, by decide, ⟨by decide +kernel, by decide +kernel⟩, by decide +kernel⟩
theorem yk_PL_depend (Y : List kd) (idx kind ci : Nat) (x : MethodName) (h : String) : yOK Y (idx, kind, ci, y_PL_depend, 4, x, h, pr0) := ⟨yk0_PL_depend.1, yk0_PL_depend.2.1, yk0_PL_depend.2.2.1, yk0_PL_depend.2.2.2.1, yk0_PL_depend.2.2.2.2, fun _ _ _ _ h => by cases h⟩
theorem yk0_CR_two : plainName y_CR_two.1.cls = true ∧ Cond.code y_CR_two.1 y_CR_two.2.1 y_CR_two.2.2.1 y_CR_two.2.2.2 ∈ ALL ∧ y_CR_two.2.2.1 ≤ 21 ∧ notMH y_CR_two.1.cls ∧ (parseMethodDescriptor y_CR_two.1.desc).map (fun d => d.parameters.length) = some 2 := ⟨by decide +kernel, ALL_in 678 (by decide +kernel) rfl, by decide, ⟨by decide +kernel, by decide +kernel⟩, by decide +kernel⟩
theorem yk_CR_two (Y : List kd) (idx kind ci : Nat) (x : MethodName) (h : String) : yOK Y (idx, kind, ci, y_CR_two, 2, x, h, pr0) := ⟨yk0_CR_two.1, yk0_CR_two.2.1, yk0_CR_two.2.2.1, yk0_CR_two.2.2.2.1, yk0_CR_two.2.2.2.2, fun _ _ _ _ h => by cases h⟩
theorem yk0_CR_adds : plainName y_CR_adds.1.cls = true ∧ Cond.code y_CR_adds.1 y_CR_adds.2.1 y_CR_adds.2.2.1 y_CR_adds.2.2.2 ∈ ALL ∧ y_CR_adds.2.2.1 ≤ 21 ∧ notMH y_CR_adds.1.cls ∧ (parseMethodDescriptor y_CR_adds.1.desc).map (fun d => d.parameters.length) = some 3 := ⟨by decide +kernel, ALL_in 682 (by decide +kernel) rfl, by decide, ⟨by decide +kernel, by decide +kernel⟩, by decide +kernel⟩
theorem yk_CR_adds (Y : List kd) (idx kind ci : Nat) (x : MethodName) (h : String) : yOK Y (idx, kind, ci, y_CR_adds, 3, x, h, pr0) := ⟨yk0_CR_adds.1, yk0_CR_adds.2.1, yk0_CR_adds.2.2.1, yk0_CR_adds.2.2.2.1, yk0_CR_adds.2.2.2.2, fun _ _ _ _ h => by cases h⟩
theorem yk0_CR_canReturn : plainName y_CR_canReturn.1.cls = true ∧ Cond.code y_CR_canReturn.1 y_CR_canReturn.2.1 y_CR_canReturn.2.2.1 y_CR_canReturn.2.2.2 ∈ ALL ∧ y_CR_canReturn.2.2.1 ≤ 21 ∧ notMH y_CR_canReturn.1.cls ∧ (parseMethodDescriptor y_CR_canReturn.1.desc).map (fun d => d.parameters.length) = some 0 := ⟨by decide +kernel, ALL_in 686 (by decide +kernel) rfl, by decide, ⟨by decide +kernel, by decide +kernel⟩, by decide +kernel⟩
theorem yk_CR_canReturn (Y : List kd) (idx kind ci : Nat) (x : MethodName) (h : String) : yOK Y (idx, kind, ci, y_CR_canReturn, 0, x, h, pr0) := ⟨yk0_CR_canReturn.1, yk0_CR_canReturn.2.1, yk0_CR_canReturn.2.2.1, yk0_CR_canReturn.2.2.2.1, yk0_CR_canReturn.2.2.2.2, fun _ _ _ _ h => by cases h⟩
theorem yk0_PL_add : plainName y_PL_add.1.cls = true ∧ Cond.code y_PL_add.1 y_PL_add.2.1 y_PL_add.2.2.1 y_PL_add.2.2.2 ∈ ALL ∧ y_PL_add.2.2.1 ≤ 21 ∧ notMH y_PL_add.1.cls ∧ (parseMethodDescriptor y_PL_add.1.desc).map (fun d => d.parameters.length) = some 3 := ⟨by decide +kernel, ALL_in 690 (by decide +kernel) rfl, by decide, ⟨by decide +kernel, by decide +kernel⟩, by decide +kernel⟩
theorem yk_PL_add (Y : List kd) (idx kind ci : Nat) (x : MethodName) (h : String) : yOK Y (idx, kind, ci, y_PL_add, 3, x, h, pr0) := ⟨yk0_PL_add.1, yk0_PL_add.2.1, yk0_PL_add.2.2.1, yk0_PL_add.2.2.2.1, yk0_PL_add.2.2.2.2, fun _ _ _ _ h => by cases h⟩
theorem yk0_CR_wants : plainName y_CR_wants.1.cls = true ∧ Cond.code y_CR_wants.1 y_CR_wants.2.1 y_CR_wants.2.2.1 y_CR_wants.2.2.2 ∈ ALL ∧ y_CR_wants.2.2.1 ≤ 21 ∧ notMH y_CR_wants.1.cls ∧ (parseMethodDescriptor y_CR_wants.1.desc).map (fun d => d.parameters.length) = some 1 := ⟨by decide +kernel, ALL_in 693 (by decide +kernel) rfl, by decide, ⟨by decide +kernel, by decide +kernel⟩, by decide +kernel⟩
theorem yk_CR_wants (Y : List kd) (idx kind ci : Nat) (x : MethodName) (h : String) : yOK Y (idx, kind, ci, y_CR_wants, 1, x, h, pr0) := ⟨yk0_CR_wants.1, yk0_CR_wants.2.1, yk0_CR_wants.2.2.1, yk0_CR_wants.2.2.2.1, yk0_CR_wants.2.2.2.2, fun _ _ _ _ h => by cases h⟩
theorem yk0_CR_tail : plainName y_CR_tail.1.cls = true ∧ Cond.code y_CR_tail.1 y_CR_tail.2.1 y_CR_tail.2.2.1 y_CR_tail.2.2.2 ∈ ALL ∧ y_CR_tail.2.2.1 ≤ 21 ∧ notMH y_CR_tail.1.cls ∧ (parseMethodDescriptor y_CR_tail.1.desc).map (fun d => d.parameters.length) = some 1 := ⟨by decide +kernel, ALL_in 696 (by decide +kernel) rfl, by decide, ⟨by decide +kernel, by decide +kernel⟩, by decide +kernel⟩
theorem yk_CR_tail (Y : List kd) (idx kind ci : Nat) (x : MethodName) (h : String) : yOK Y (idx, kind, ci, y_CR_tail, 1, x, h, pr0) := ⟨yk0_CR_tail.1, yk0_CR_tail.2.1, yk0_CR_tail.2.2.1, yk0_CR_tail.2.2.2.1, yk0_CR_tail.2.2.2.2, fun _ _ _ _ h => by cases h⟩
theorem yk0_GF_isDigit : plainName y_GF_isDigit.1.cls = true ∧ Cond.code y_GF_isDigit.1 y_GF_isDigit.2.1 y_GF_isDigit.2.2.1 y_GF_isDigit.2.2.2 ∈ ALL ∧ y_GF_isDigit.2.2.1 ≤ 21 ∧ notMH y_GF_isDigit.1.cls ∧ (parseMethodDescriptor y_GF_isDigit.1.desc).map (fun d => d.parameters.length) = some 1 := ⟨by decide +kernel, ALL_in 606 (by decide +kernel) rfl, by decide, ⟨by decide +kernel, by decide +kernel⟩, by decide +kernel⟩
theorem yk_GF_isDigit (Y : List kd) (idx kind ci : Nat) (x : MethodName) (h : String) : yOK Y (idx, kind, ci, y_GF_isDigit, 1, x, h, pr_dig) := ⟨yk0_GF_isDigit.1, yk0_GF_isDigit.2.1, yk0_GF_isDigit.2.2.1, yk0_GF_isDigit.2.2.2.1, yk0_GF_isDigit.2.2.2.2, prk_dig Y⟩
theorem yk0_GF_isName : plainName y_GF_isName.1.cls = true ∧ Cond.code y_GF_isName.1 y_GF_isName.2.1 y_GF_isName.2.2.1 y_GF_isName.2.2.2 ∈ ALL ∧ y_GF_isName.2.2.1 ≤ 21 ∧ notMH y_GF_isName.1.cls ∧ (parseMethodDescriptor y_GF_isName.1.desc).map (fun d => d.parameters.length) = some 1 := ⟨by decide +kernel, ALL_in 613 (by decide +kernel) rfl, by decide, ⟨by decide +kernel, by decide +kernel⟩, by decide +kernel⟩
theorem yk_GF_isName (Y : List kd) (idx kind ci : Nat) (x : MethodName) (h : String) : yOK Y (idx, kind, ci, y_GF_isName, 1, x, h, pr_nam) := ⟨yk0_GF_isName.1, yk0_GF_isName.2.1, yk0_GF_isName.2.2.1, yk0_GF_isName.2.2.2.1, yk0_GF_isName.2.2.2.2, prk_nam Y⟩
theorem yk0_GF_at : plainName y_GF_at.1.cls = true ∧ Cond.code y_GF_at.1 y_GF_at.2.1 y_GF_at.2.2.1 y_GF_at.2.2.2 ∈ ALL ∧ y_GF_at.2.2.1 ≤ 21 ∧ notMH y_GF_at.1.cls ∧ (parseMethodDescriptor y_GF_at.1.desc).map (fun d => d.parameters.length) = some 2 := ⟨by decide +kernel, ALL_in 308 (by decide +kernel) rfl, by decide, ⟨by decide +kernel, by decide +kernel⟩, by decide +kernel⟩
theorem yk_GF_at (Y : List kd) (idx kind ci : Nat) (x : MethodName) (h : String) : yOK Y (idx, kind, ci, y_GF_at, 2, x, h, pr_at) := ⟨yk0_GF_at.1, yk0_GF_at.2.1, yk0_GF_at.2.2.1, yk0_GF_at.2.2.2.1, yk0_GF_at.2.2.2.2, prk_at Y⟩
theorem yk0_GF_set : plainName y_GF_set.1.cls = true ∧ Cond.code y_GF_set.1 y_GF_set.2.1 y_GF_set.2.2.1 y_GF_set.2.2.2 ∈ ALL ∧ y_GF_set.2.2.1 ≤ 21 ∧ notMH y_GF_set.1.cls ∧ (parseMethodDescriptor y_GF_set.1.desc).map (fun d => d.parameters.length) = some 3 := ⟨by decide +kernel, ALL_in 29 (by decide +kernel) rfl, by decide, ⟨by decide +kernel, by decide +kernel⟩, by decide +kernel⟩
theorem yk_GF_set (Y : List kd) (idx kind ci : Nat) (x : MethodName) (h : String) : yOK Y (idx, kind, ci, y_GF_set, 3, x, h, pr_set) := ⟨yk0_GF_set.1, yk0_GF_set.2.1, yk0_GF_set.2.2.1, yk0_GF_set.2.2.2.1, yk0_GF_set.2.2.2.2, prk_set Y⟩
theorem yk0_GF_digitOf : plainName y_GF_digitOf.1.cls = true ∧ Cond.code y_GF_digitOf.1 y_GF_digitOf.2.1 y_GF_digitOf.2.2.1 y_GF_digitOf.2.2.2 ∈ ALL ∧ y_GF_digitOf.2.2.1 ≤ 21 ∧ notMH y_GF_digitOf.1.cls ∧ (parseMethodDescriptor y_GF_digitOf.1.desc).map (fun d => d.parameters.length) = some 1 := ⟨by decide +kernel, ALL_in 662 (by decide +kernel) rfl, by decide, ⟨by decide +kernel, by decide +kernel⟩, by decide +kernel⟩
theorem yk_GF_digitOf (Y : List kd) (idx kind ci : Nat) (x : MethodName) (h : String) : yOK Y (idx, kind, ci, y_GF_digitOf, 1, x, h, pr_dof) := ⟨yk0_GF_digitOf.1, yk0_GF_digitOf.2.1, yk0_GF_digitOf.2.2.1, yk0_GF_digitOf.2.2.2.1, yk0_GF_digitOf.2.2.2.2, prk_dof Y⟩
theorem yk0_GA_look : plainName y_GA_look.1.cls = true ∧ Cond.code y_GA_look.1 y_GA_look.2.1 y_GA_look.2.2.1 y_GA_look.2.2.2 ∈ ALL ∧ y_GA_look.2.2.1 ≤ 21 ∧ notMH y_GA_look.1.cls ∧ (parseMethodDescriptor y_GA_look.1.desc).map (fun d => d.parameters.length) = some 3 := ⟨by decide +kernel, ALL_in 301 (by decide +kernel) rfl, by decide, ⟨by decide +kernel, by decide +kernel⟩, by decide +kernel⟩
theorem yk_GA_look (Y : List kd) (idx kind ci : Nat) (x : MethodName) (h : String) : yOK Y (idx, kind, ci, y_GA_look, 3, x, h, pr0) := ⟨yk0_GA_look.1, yk0_GA_look.2.1, yk0_GA_look.2.2.1, yk0_GA_look.2.2.2.1, yk0_GA_look.2.2.2.2, fun _ _ _ _ h => by cases h⟩
theorem yk0_GA_deciderOf : plainName y_GA_deciderOf.1.cls = true ∧ Cond.code y_GA_deciderOf.1 y_GA_deciderOf.2.1 y_GA_deciderOf.2.2.1 y_GA_deciderOf.2.2.2 ∈ ALL ∧ y_GA_deciderOf.2.2.1 ≤ 21 ∧ notMH y_GA_deciderOf.1.cls ∧ (parseMethodDescriptor y_GA_deciderOf.1.desc).map (fun d => d.parameters.length) = some 2 := ⟨by decide +kernel, ALL_in 305 (by decide +kernel) rfl, by decide, ⟨by decide +kernel, by decide +kernel⟩, by decide +kernel⟩
theorem yk_GA_deciderOf (Y : List kd) (idx kind ci : Nat) (x : MethodName) (h : String) : yOK Y (idx, kind, ci, y_GA_deciderOf, 2, x, h, pr0) := ⟨yk0_GA_deciderOf.1, yk0_GA_deciderOf.2.1, yk0_GA_deciderOf.2.2.1, yk0_GA_deciderOf.2.2.2.1, yk0_GA_deciderOf.2.2.2.2, fun _ _ _ _ h => by cases h⟩
theorem yk0_GA_add : plainName y_GA_add.1.cls = true ∧ Cond.code y_GA_add.1 y_GA_add.2.1 y_GA_add.2.2.1 y_GA_add.2.2.2 ∈ ALL ∧ y_GA_add.2.2.1 ≤ 21 ∧ notMH y_GA_add.1.cls ∧ (parseMethodDescriptor y_GA_add.1.desc).map (fun d => d.parameters.length) = some 2 := ⟨by decide +kernel, ALL_in 312 (by decide +kernel) rfl, by decide, ⟨by decide +kernel, by decide +kernel⟩, by decide +kernel⟩
theorem yk_GA_add (Y : List kd) (idx kind ci : Nat) (x : MethodName) (h : String) : yOK Y (idx, kind, ci, y_GA_add, 2, x, h, pr0) := ⟨yk0_GA_add.1, yk0_GA_add.2.1, yk0_GA_add.2.2.1, yk0_GA_add.2.2.2.1, yk0_GA_add.2.2.2.2, fun _ _ _ _ h => by cases h⟩
theorem yk0_GA_lookAtNumber : plainName y_GA_lookAtNumber.1.cls = true ∧ Cond.code y_GA_lookAtNumber.1 y_GA_lookAtNumber.2.1 y_GA_lookAtNumber.2.2.1 y_GA_lookAtNumber.2.2.2 ∈ ALL ∧ y_GA_lookAtNumber.2.2.1 ≤ 21 ∧ notMH y_GA_lookAtNumber.1.cls ∧ (parseMethodDescriptor y_GA_lookAtNumber.1.desc).map (fun d => d.parameters.length) = some 2 := ⟨by decide +kernel, ALL_in 317 (by decide +kernel) rfl, by decide, ⟨by decide +kernel, by decide +kernel⟩, by decide +kernel⟩
theorem yk_GA_lookAtNumber (Y : List kd) (idx kind ci : Nat) (x : MethodName) (h : String) : yOK Y (idx, kind, ci, y_GA_lookAtNumber, 2, x, h, pr0) := ⟨yk0_GA_lookAtNumber.1, yk0_GA_lookAtNumber.2.1, yk0_GA_lookAtNumber.2.2.1, yk0_GA_lookAtNumber.2.2.2.1, yk0_GA_lookAtNumber.2.2.2.2, fun _ _ _ _ h => by cases h⟩
theorem yk0_GA_lookAtRecord : plainName y_GA_lookAtRecord.1.cls = true ∧ Cond.code y_GA_lookAtRecord.1 y_GA_lookAtRecord.2.1 y_GA_lookAtRecord.2.2.1 y_GA_lookAtRecord.2.2.2 ∈ ALL ∧ y_GA_lookAtRecord.2.2.1 ≤ 21 ∧ notMH y_GA_lookAtRecord.1.cls ∧ (parseMethodDescriptor y_GA_lookAtRecord.1.desc).map (fun d => d.parameters.length) = some 3 := ⟨by decide +kernel, ALL_in 321 (by decide +kernel) rfl, by decide, ⟨by decide +kernel, by decide +kernel⟩, by decide +kernel⟩
theorem yk_GA_lookAtRecord (Y : List kd) (idx kind ci : Nat) (x : MethodName) (h : String) : yOK Y (idx, kind, ci, y_GA_lookAtRecord, 3, x, h, pr0) := ⟨yk0_GA_lookAtRecord.1, yk0_GA_lookAtRecord.2.1, yk0_GA_lookAtRecord.2.2.1, yk0_GA_lookAtRecord.2.2.2.1, yk0_GA_lookAtRecord.2.2.2.2, fun _ _ _ _ h => by cases h⟩
theorem yk0_GA_lookAtFields : plainName y_GA_lookAtFields.1.cls = true ∧ Cond.code y_GA_lookAtFields.1 y_GA_lookAtFields.2.1 y_GA_lookAtFields.2.2.1 y_GA_lookAtFields.2.2.2 ∈ ALL ∧ y_GA_lookAtFields.2.2.1 ≤ 21 ∧ notMH y_GA_lookAtFields.1.cls ∧ (parseMethodDescriptor y_GA_lookAtFields.1.desc).map (fun d => d.parameters.length) = some 3 := ⟨by decide +kernel, ALL_in 325 (by decide +kernel) rfl, by decide, ⟨by decide +kernel, by decide +kernel⟩, by decide +kernel⟩
theorem yk_GA_lookAtFields (Y : List kd) (idx kind ci : Nat) (x : MethodName) (h : String) : yOK Y (idx, kind, ci, y_GA_lookAtFields, 3, x, h, pr0) := ⟨yk0_GA_lookAtFields.1, yk0_GA_lookAtFields.2.1, yk0_GA_lookAtFields.2.2.1, yk0_GA_lookAtFields.2.2.2.1, yk0_GA_lookAtFields.2.2.2.2, fun _ _ _ _ h => by cases h⟩
theorem yk0_TR_child : plainName y_TR_child.1.cls = true ∧ Cond.code y_TR_child.1 y_TR_child.2.1 y_TR_child.2.2.1 y_TR_child.2.2.2 ∈ ALL ∧ y_TR_child.2.2.1 ≤ 21 ∧ notMH y_TR_child.1.cls ∧ (parseMethodDescriptor y_TR_child.1.desc).map (fun d => d.parameters.length) = some 2 := ⟨by decide +kernel, ALL_in 329 (by decide +kernel) rfl, by decide, ⟨by decide +kernel, by decide +kernel⟩, by decide +kernel⟩
theorem yk_TR_child (Y : List kd) (idx kind ci : Nat) (x : MethodName) (h : String) : yOK Y (idx, kind, ci, y_TR_child, 2, x, h, pr0) := ⟨yk0_TR_child.1, yk0_TR_child.2.1, yk0_TR_child.2.2.1, yk0_TR_child.2.2.2.1, yk0_TR_child.2.2.2.2, fun _ _ _ _ h => by cases h⟩
theorem yk0_GA_lookForStrangers : plainName y_GA_lookForStrangers.1.cls = true ∧ Cond.code y_GA_lookForStrangers.1 y_GA_lookForStrangers.2.1 y_GA_lookForStrangers.2.2.1 y_GA_lookForStrangers.2.2.2 ∈ ALL ∧ y_GA_lookForStrangers.2.2.1 ≤ 21 ∧ notMH y_GA_lookForStrangers.1.cls ∧ (parseMethodDescriptor y_GA_lookForStrangers.1.desc).map (fun d => d.parameters.length) = some 2 := ⟨by decide +kernel, ALL_in 334 (by decide +kernel) rfl, by decide, ⟨by decide +kernel, by decide +kernel⟩, by decide +kernel⟩
theorem yk_GA_lookForStrangers (Y : List kd) (idx kind ci : Nat) (x : MethodName) (h : String) : yOK Y (idx, kind, ci, y_GA_lookForStrangers, 2, x, h, pr0) := ⟨yk0_GA_lookForStrangers.1, yk0_GA_lookForStrangers.2.1, yk0_GA_lookForStrangers.2.2.1, yk0_GA_lookForStrangers.2.2.2.1, yk0_GA_lookForStrangers.2.2.2.2, fun _ _ _ _ h => by cases h⟩
theorem yk0_GA_lookAtDependent : plainName y_GA_lookAtDependent.1.cls = true ∧ Cond.code y_GA_lookAtDependent.1 y_GA_lookAtDependent.2.1 y_GA_lookAtDependent.2.2.1 y_GA_lookAtDependent.2.2.2 ∈ ALL ∧ y_GA_lookAtDependent.2.2.1 ≤ 21 ∧ notMH y_GA_lookAtDependent.1.cls ∧ (parseMethodDescriptor y_GA_lookAtDependent.1.desc).map (fun d => d.parameters.length) = some 3 := ⟨by decide +kernel, ALL_in 343 (by decide +kernel) rfl, by decide, ⟨by decide +kernel, by decide +kernel⟩, by decide +kernel⟩
theorem yk_GA_lookAtDependent (Y : List kd) (idx kind ci : Nat) (x : MethodName) (h : String) : yOK Y (idx, kind, ci, y_GA_lookAtDependent, 3, x, h, pr0) := ⟨yk0_GA_lookAtDependent.1, yk0_GA_lookAtDependent.2.1, yk0_GA_lookAtDependent.2.2.1, yk0_GA_lookAtDependent.2.2.2.1, yk0_GA_lookAtDependent.2.2.2.2, fun _ _ _ _ h => by cases h⟩
theorem yk0_GA_countBelow : plainName y_GA_countBelow.1.cls = true ∧ Cond.code y_GA_countBelow.1 y_GA_countBelow.2.1 y_GA_countBelow.2.2.1 y_GA_countBelow.2.2.2 ∈ ALL ∧ y_GA_countBelow.2.2.1 ≤ 21 ∧ notMH y_GA_countBelow.1.cls ∧ (parseMethodDescriptor y_GA_countBelow.1.desc).map (fun d => d.parameters.length) = some 2 := ⟨by decide +kernel, ALL_in 347 (by decide +kernel) rfl, by decide, ⟨by decide +kernel, by decide +kernel⟩, by decide +kernel⟩
theorem yk_GA_countBelow (Y : List kd) (idx kind ci : Nat) (x : MethodName) (h : String) : yOK Y (idx, kind, ci, y_GA_countBelow, 2, x, h, pr0) := ⟨yk0_GA_countBelow.1, yk0_GA_countBelow.2.1, yk0_GA_countBelow.2.2.1, yk0_GA_countBelow.2.2.2.1, yk0_GA_countBelow.2.2.2.2, fun _ _ _ _ h => by cases h⟩
theorem yk0_GA_goesOnFrom : plainName y_GA_goesOnFrom.1.cls = true ∧ Cond.code y_GA_goesOnFrom.1 y_GA_goesOnFrom.2.1 y_GA_goesOnFrom.2.2.1 y_GA_goesOnFrom.2.2.2 ∈ ALL ∧ y_GA_goesOnFrom.2.2.1 ≤ 21 ∧ notMH y_GA_goesOnFrom.1.cls ∧ (parseMethodDescriptor y_GA_goesOnFrom.1.desc).map (fun d => d.parameters.length) = some 2 := ⟨by decide +kernel, ALL_in 350 (by decide +kernel) rfl, by decide, ⟨by decide +kernel, by decide +kernel⟩, by decide +kernel⟩
theorem yk_GA_goesOnFrom (Y : List kd) (idx kind ci : Nat) (x : MethodName) (h : String) : yOK Y (idx, kind, ci, y_GA_goesOnFrom, 2, x, h, pr0) := ⟨yk0_GA_goesOnFrom.1, yk0_GA_goesOnFrom.2.1, yk0_GA_goesOnFrom.2.2.1, yk0_GA_goesOnFrom.2.2.2.1, yk0_GA_goesOnFrom.2.2.2.2, fun _ _ _ _ h => by cases h⟩
theorem yk0_TR_less : plainName y_TR_less.1.cls = true ∧ Cond.code y_TR_less.1 y_TR_less.2.1 y_TR_less.2.2.1 y_TR_less.2.2.2 ∈ ALL ∧ y_TR_less.2.2.1 ≤ 21 ∧ notMH y_TR_less.1.cls ∧ (parseMethodDescriptor y_TR_less.1.desc).map (fun d => d.parameters.length) = some 2 := ⟨by decide +kernel, ALL_in 354 (by decide +kernel) rfl, by decide, ⟨by decide +kernel, by decide +kernel⟩, by decide +kernel⟩
theorem yk_TR_less (Y : List kd) (idx kind ci : Nat) (x : MethodName) (h : String) : yOK Y (idx, kind, ci, y_TR_less, 2, x, h, pr0) := ⟨yk0_TR_less.1, yk0_TR_less.2.1, yk0_TR_less.2.2.1, yk0_TR_less.2.2.2.1, yk0_TR_less.2.2.2.2, fun _ _ _ _ h => by cases h⟩
theorem yk0_TR_alike : plainName y_TR_alike.1.cls = true ∧ Cond.code y_TR_alike.1 y_TR_alike.2.1 y_TR_alike.2.2.1 y_TR_alike.2.2.2 ∈ ALL ∧ y_TR_alike.2.2.1 ≤ 21 ∧ notMH y_TR_alike.1.cls ∧ (parseMethodDescriptor y_TR_alike.1.desc).map (fun d => d.parameters.length) = some 2 := ⟨by decide +kernel, ALL_in 358 (by decide +kernel) rfl, by decide, ⟨by decide +kernel, by decide +kernel⟩, by decide +kernel⟩
theorem yk_TR_alike (Y : List kd) (idx kind ci : Nat) (x : MethodName) (h : String) : yOK Y (idx, kind, ci, y_TR_alike, 2, x, h, pr0) := ⟨yk0_TR_alike.1, yk0_TR_alike.2.1, yk0_TR_alike.2.2.1, yk0_TR_alike.2.2.2.1, yk0_TR_alike.2.2.2.2, fun _ _ _ _ h => by cases h⟩
theorem yk0_GA_lookAtList : plainName y_GA_lookAtList.1.cls = true ∧ Cond.code y_GA_lookAtList.1 y_GA_lookAtList.2.1 y_GA_lookAtList.2.2.1 y_GA_lookAtList.2.2.2 ∈ ALL ∧ y_GA_lookAtList.2.2.1 ≤ 21 ∧ notMH y_GA_lookAtList.1.cls ∧ (parseMethodDescriptor y_GA_lookAtList.1.desc).map (fun d => d.parameters.length) = some 3 := ⟨by decide +kernel, ALL_in 367 (by decide +kernel) rfl, by decide, ⟨by decide +kernel, by decide +kernel⟩, by decide +kernel⟩
theorem yk_GA_lookAtList (Y : List kd) (idx kind ci : Nat) (x : MethodName) (h : String) : yOK Y (idx, kind, ci, y_GA_lookAtList, 3, x, h, pr0) := ⟨yk0_GA_lookAtList.1, yk0_GA_lookAtList.2.1, yk0_GA_lookAtList.2.2.1, yk0_GA_lookAtList.2.2.2.1, yk0_GA_lookAtList.2.2.2.2, fun _ _ _ _ h => by cases h⟩
theorem yk0_GA_lookForTwins : plainName y_GA_lookForTwins.1.cls = true ∧ Cond.code y_GA_lookForTwins.1 y_GA_lookForTwins.2.1 y_GA_lookForTwins.2.2.1 y_GA_lookForTwins.2.2.2 ∈ ALL ∧ y_GA_lookForTwins.2.2.1 ≤ 21 ∧ notMH y_GA_lookForTwins.1.cls ∧ (parseMethodDescriptor y_GA_lookForTwins.1.desc).map (fun d => d.parameters.length) = some 2 := ⟨by decide +kernel, ALL_in 371 (by decide +kernel) rfl, by decide, ⟨by decide +kernel, by decide +kernel⟩, by decide +kernel⟩
theorem yk_GA_lookForTwins (Y : List kd) (idx kind ci : Nat) (x : MethodName) (h : String) : yOK Y (idx, kind, ci, y_GA_lookForTwins, 2, x, h, pr0) := ⟨yk0_GA_lookForTwins.1, yk0_GA_lookForTwins.2.1, yk0_GA_lookForTwins.2.2.1, yk0_GA_lookForTwins.2.2.2.1, yk0_GA_lookForTwins.2.2.2.2, fun _ _ _ _ h => by cases h⟩
theorem yk0_GA_keepFewer : plainName y_GA_keepFewer.1.cls = true ∧ Cond.code y_GA_keepFewer.1 y_GA_keepFewer.2.1 y_GA_keepFewer.2.2.1 y_GA_keepFewer.2.2.2 ∈ ALL ∧ y_GA_keepFewer.2.2.1 ≤ 21 ∧ notMH y_GA_keepFewer.1.cls ∧ (parseMethodDescriptor y_GA_keepFewer.1.desc).map (fun d => d.parameters.length) = some 4 := ⟨by decide +kernel, ALL_in 375 (by decide +kernel) rfl, by decide, ⟨by decide +kernel, by decide +kernel⟩, by decide +kernel⟩
theorem yk_GA_keepFewer (Y : List kd) (idx kind ci : Nat) (x : MethodName) (h : String) : yOK Y (idx, kind, ci, y_GA_keepFewer, 4, x, h, pr0) := ⟨yk0_GA_keepFewer.1, yk0_GA_keepFewer.2.1, yk0_GA_keepFewer.2.2.1, yk0_GA_keepFewer.2.2.2.1, yk0_GA_keepFewer.2.2.2.2, fun _ _ _ _ h => by cases h⟩
theorem yk0_GA_codeAt : plainName y_GA_codeAt.1.cls = true ∧ Cond.code y_GA_codeAt.1 y_GA_codeAt.2.1 y_GA_codeAt.2.2.1 y_GA_codeAt.2.2.2 ∈ ALL ∧ y_GA_codeAt.2.2.1 ≤ 21 ∧ notMH y_GA_codeAt.1.cls ∧ (parseMethodDescriptor y_GA_codeAt.1.desc).map (fun d => d.parameters.length) = some 1 := ⟨by decide +kernel, ALL_in 399 (by decide +kernel) rfl, by decide, ⟨by decide +kernel, by decide +kernel⟩, by decide +kernel⟩
theorem yk_GA_codeAt (Y : List kd) (idx kind ci : Nat) (x : MethodName) (h : String) : yOK Y (idx, kind, ci, y_GA_codeAt, 1, x, h, pr0) := ⟨yk0_GA_codeAt.1, yk0_GA_codeAt.2.1, yk0_GA_codeAt.2.2.1, yk0_GA_codeAt.2.2.2.1, yk0_GA_codeAt.2.2.2.2, fun _ _ _ _ h => by cases h⟩
theorem yk0_GF_close : plainName y_GF_close.1.cls = true ∧ Cond.code y_GF_close.1 y_GF_close.2.1 y_GF_close.2.2.1 y_GF_close.2.2.2 ∈ ALL ∧ y_GF_close.2.2.1 ≤ 21 ∧ notMH y_GF_close.1.cls ∧ (parseMethodDescriptor y_GF_close.1.desc).map (fun d => d.parameters.length) = some 4 := ⟨by decide +kernel, ALL_in 378 (by decide +kernel) rfl, by decide, ⟨by decide +kernel, by decide +kernel⟩, by decide +kernel⟩
theorem yk_GF_close (Y : List kd) (idx kind ci : Nat) (x : MethodName) (h : String) : yOK Y (idx, kind, ci, y_GF_close, 4, x, h, pr0) := ⟨yk0_GF_close.1, yk0_GF_close.2.1, yk0_GF_close.2.2.1, yk0_GF_close.2.2.2.1, yk0_GF_close.2.2.2.2, fun _ _ _ _ h => by cases h⟩
theorem yk0_GF_copy : plainName y_GF_copy.1.cls = true ∧ Cond.code y_GF_copy.1 y_GF_copy.2.1 y_GF_copy.2.2.1 y_GF_copy.2.2.2 ∈ ALL ∧ y_GF_copy.2.2.1 ≤ 21 ∧ notMH y_GF_copy.1.cls ∧ (parseMethodDescriptor y_GF_copy.1.desc).map (fun d => d.parameters.length) = some 2 := ⟨by decide +kernel, ALL_in 453 (by decide +kernel) rfl, by decide, ⟨by decide +kernel, by decide +kernel⟩, by decide +kernel⟩
theorem yk_GF_copy (Y : List kd) (idx kind ci : Nat) (x : MethodName) (h : String) : yOK Y (idx, kind, ci, y_GF_copy, 2, x, h, pr0) := ⟨yk0_GF_copy.1, yk0_GF_copy.2.1, yk0_GF_copy.2.2.1, yk0_GF_copy.2.2.2.1, yk0_GF_copy.2.2.2.2, fun _ _ _ _ h => by cases h⟩
theorem yk0_TR_alikeBelow : plainName y_TR_alikeBelow.1.cls = true ∧ Cond.code y_TR_alikeBelow.1 y_TR_alikeBelow.2.1 y_TR_alikeBelow.2.2.1 y_TR_alikeBelow.2.2.2 ∈ ALL ∧ y_TR_alikeBelow.2.2.1 ≤ 21 ∧ notMH y_TR_alikeBelow.1.cls ∧ (parseMethodDescriptor y_TR_alikeBelow.1.desc).map (fun d => d.parameters.length) = some 3 := ⟨by decide +kernel, ALL_in 362 (by decide +kernel) rfl, by decide, ⟨by decide +kernel, by decide +kernel⟩, by decide +kernel⟩
theorem yk_TR_alikeBelow (Y : List kd) (idx kind ci : Nat) (x : MethodName) (h : String) : yOK Y (idx, kind, ci, y_TR_alikeBelow, 3, x, h, pr0) := ⟨yk0_TR_alikeBelow.1, yk0_TR_alikeBelow.2.1, yk0_TR_alikeBelow.2.2.1, yk0_TR_alikeBelow.2.2.2.1, yk0_TR_alikeBelow.2.2.2.2, fun _ _ _ _ h => by cases h⟩
theorem yk0_VR_begins : plainName y_VR_begins.1.cls = true ∧ Cond.code y_VR_begins.1 y_VR_begins.2.1 y_VR_begins.2.2.1 y_VR_begins.2.2.2 ∈ ALL ∧ y_VR_begins.2.2.1 ≤ 21 ∧ notMH y_VR_begins.1.cls ∧ (parseMethodDescriptor y_VR_begins.1.desc).map (fun d => d.parameters.length) = some 1 := ⟨by decide +kernel, ALL_in 625 (by decide +kernel) rfl, by decide, ⟨by decide +kernel, by decide +kernel⟩, by decide +kernel⟩
theorem yk_VR_begins (Y : List kd) (idx kind ci : Nat) (x : MethodName) (h : String) : yOK Y (idx, kind, ci, y_VR_begins, 1, x, h, pr0) := ⟨yk0_VR_begins.1, yk0_VR_begins.2.1, yk0_VR_begins.2.2.1, yk0_VR_begins.2.2.2.1, yk0_VR_begins.2.2.2.2, fun _ _ _ _ h => by cases h⟩
theorem yk0_VR_ends : plainName y_VR_ends.1.cls = true ∧ Cond.code y_VR_ends.1 y_VR_ends.2.1 y_VR_ends.2.2.1 y_VR_ends.2.2.2 ∈ ALL ∧ y_VR_ends.2.2.1 ≤ 21 ∧ notMH y_VR_ends.1.cls ∧ (parseMethodDescriptor y_VR_ends.1.desc).map (fun d => d.parameters.length) = some 0 := ⟨by decide +kernel, ALL_in 632 (by decide +kernel) rfl, by decide, ⟨by decide +kernel, by decide +kernel⟩, by decide +kernel⟩
theorem yk_VR_ends (Y : List kd) (idx kind ci : Nat) (x : MethodName) (h : String) : yOK Y (idx, kind, ci, y_VR_ends, 0, x, h, pr0) := ⟨yk0_VR_ends.1, yk0_VR_ends.2.1, yk0_VR_ends.2.2.1, yk0_VR_ends.2.2.2.1, yk0_VR_ends.2.2.2.2, fun _ _ _ _ h => by cases h⟩
theorem yk0_VR_closes : plainName y_VR_closes.1.cls = true ∧ Cond.code y_VR_closes.1 y_VR_closes.2.1 y_VR_closes.2.2.1 y_VR_closes.2.2.2 ∈ ALL ∧ y_VR_closes.2.2.1 ≤ 21 ∧ notMH y_VR_closes.1.cls ∧ (parseMethodDescriptor y_VR_closes.1.desc).map (fun d => d.parameters.length) = some 0 := ⟨by decide +kernel, ALL_in 639 (by decide +kernel) rfl, by decide, ⟨by decide +kernel, by decide +kernel⟩, by decide +kernel⟩
theorem yk_VR_closes (Y : List kd) (idx kind ci : Nat) (x : MethodName) (h : String) : yOK Y (idx, kind, ci, y_VR_closes, 0, x, h, pr0) := ⟨yk0_VR_closes.1, yk0_VR_closes.2.1, yk0_VR_closes.2.2.1, yk0_VR_closes.2.2.2.1, yk0_VR_closes.2.2.2.2, fun _ _ _ _ h => by cases h⟩
theorem yk0_VR_adds : plainName y_VR_adds.1.cls = true ∧ Cond.code y_VR_adds.1 y_VR_adds.2.1 y_VR_adds.2.2.1 y_VR_adds.2.2.2 ∈ ALL ∧ y_VR_adds.2.2.1 ≤ 21 ∧ notMH y_VR_adds.1.cls ∧ (parseMethodDescriptor y_VR_adds.1.desc).map (fun d => d.parameters.length) = some 2 := ⟨by decide +kernel, ALL_in 704 (by decide +kernel) rfl, by decide, ⟨by decide +kernel, by decide +kernel⟩, by decide +kernel⟩
theorem yk_VR_adds (Y : List kd) (idx kind ci : Nat) (x : MethodName) (h : String) : yOK Y (idx, kind, ci, y_VR_adds, 2, x, h, pr0) := ⟨yk0_VR_adds.1, yk0_VR_adds.2.1, yk0_VR_adds.2.2.1, yk0_VR_adds.2.2.2.1, yk0_VR_adds.2.2.2.2, fun _ _ _ _ h => by cases h⟩
theorem yk0_TR_add : plainName y_TR_add.1.cls = true ∧ Cond.code y_TR_add.1 y_TR_add.2.1 y_TR_add.2.2.1 y_TR_add.2.2.2 ∈ ALL ∧ y_TR_add.2.2.1 ≤ 21 ∧ notMH y_TR_add.1.cls ∧ (parseMethodDescriptor y_TR_add.1.desc).map (fun d => d.parameters.length) = some 3 := ⟨by decide +kernel, ALL_in 709 (by decide +kernel) rfl, by decide, ⟨by decide +kernel, by decide +kernel⟩, by decide +kernel⟩
theorem yk_TR_add (Y : List kd) (idx kind ci : Nat) (x : MethodName) (h : String) : yOK Y (idx, kind, ci, y_TR_add, 3, x, h, pr0) := ⟨yk0_TR_add.1, yk0_TR_add.2.1, yk0_TR_add.2.2.1, yk0_TR_add.2.2.2.1, yk0_TR_add.2.2.2.2, fun _ _ _ _ h => by cases h⟩
theorem yk0_VR_takes : plainName y_VR_takes.1.cls = true ∧ Cond.code y_VR_takes.1 y_VR_takes.2.1 y_VR_takes.2.2.1 y_VR_takes.2.2.2 ∈ ALL ∧ y_VR_takes.2.2.1 ≤ 21 ∧ notMH y_VR_takes.1.cls ∧ (parseMethodDescriptor y_VR_takes.1.desc).map (fun d => d.parameters.length) = some 1 := ⟨by decide +kernel, ALL_in 713 (by decide +kernel) rfl, by decide, ⟨by decide +kernel, by decide +kernel⟩, by decide +kernel⟩
theorem yk_VR_takes (Y : List kd) (idx kind ci : Nat) (x : MethodName) (h : String) : yOK Y (idx, kind, ci, y_VR_takes, 1, x, h, pr0) := ⟨yk0_VR_takes.1, yk0_VR_takes.2.1, yk0_VR_takes.2.2.1, yk0_VR_takes.2.2.2.1, yk0_VR_takes.2.2.2.2, fun _ _ _ _ h => by cases h⟩
theorem yk0_TR_link : plainName y_TR_link.1.cls = true ∧ Cond.code y_TR_link.1 y_TR_link.2.1 y_TR_link.2.2.1 y_TR_link.2.2.2 ∈ ALL ∧ y_TR_link.2.2.1 ≤ 21 ∧ notMH y_TR_link.1.cls ∧ (parseMethodDescriptor y_TR_link.1.desc).map (fun d => d.parameters.length) = some 0 := ⟨by decide +kernel, ALL_in 719 (by decide +kernel) rfl, by decide, ⟨by decide +kernel, by decide +kernel⟩, by decide +kernel⟩
theorem yk_TR_link (Y : List kd) (idx kind ci : Nat) (x : MethodName) (h : String) : yOK Y (idx, kind, ci, y_TR_link, 0, x, h, pr0) := ⟨yk0_TR_link.1, yk0_TR_link.2.1, yk0_TR_link.2.2.1, yk0_TR_link.2.2.2.1, yk0_TR_link.2.2.2.2, fun _ _ _ _ h => by cases h⟩
theorem yk0_GA_gather : plainName y_GA_gather.1.cls = true ∧ Cond.code y_GA_gather.1 y_GA_gather.2.1 y_GA_gather.2.2.1 y_GA_gather.2.2.2 ∈ ALL ∧ y_GA_gather.2.2.1 ≤ 21 ∧ notMH y_GA_gather.1.cls ∧ (parseMethodDescriptor y_GA_gather.1.desc).map (fun d => d.parameters.length) = some 1 := ⟨by decide +kernel, ALL_in 297 (by decide +kernel) rfl, by decide, ⟨by decide +kernel, by decide +kernel⟩, by decide +kernel⟩
theorem yk_GA_gather (Y : List kd) (idx kind ci : Nat) (x : MethodName) (h : String) : yOK Y (idx, kind, ci, y_GA_gather, 1, x, h, pr0) := ⟨yk0_GA_gather.1, yk0_GA_gather.2.1, yk0_GA_gather.2.2.1, yk0_GA_gather.2.2.2.1, yk0_GA_gather.2.2.2.2, fun _ _ _ _ h => by cases h⟩
theorem yk0_GF_refuse : plainName y_GF_refuse.1.cls = true ∧ Cond.code y_GF_refuse.1 y_GF_refuse.2.1 y_GF_refuse.2.2.1 y_GF_refuse.2.2.2 ∈ ALL ∧ y_GF_refuse.2.2.1 ≤ 21 ∧ notMH y_GF_refuse.1.cls ∧ (parseMethodDescriptor y_GF_refuse.1.desc).map (fun d => d.parameters.length) = some 1 := ⟨by decide +kernel, ALL_in 389 (by decide +kernel) rfl, by decide, ⟨by decide +kernel, by decide +kernel⟩, by decide +kernel⟩
theorem yk_GF_refuse (Y : List kd) (idx kind ci : Nat) (x : MethodName) (h : String) : yOK Y (idx, kind, ci, y_GF_refuse, 1, x, h, pr0) := ⟨yk0_GF_refuse.1, yk0_GF_refuse.2.1, yk0_GF_refuse.2.2.1, yk0_GF_refuse.2.2.2.1, yk0_GF_refuse.2.2.2.2, fun _ _ _ _ h => by cases h⟩
theorem yk0_GA_pathAt : plainName y_GA_pathAt.1.cls = true ∧ Cond.code y_GA_pathAt.1 y_GA_pathAt.2.1 y_GA_pathAt.2.2.1 y_GA_pathAt.2.2.2 ∈ ALL ∧ y_GA_pathAt.2.2.1 ≤ 21 ∧ notMH y_GA_pathAt.1.cls ∧ (parseMethodDescriptor y_GA_pathAt.1.desc).map (fun d => d.parameters.length) = some 1 := ⟨by decide +kernel, ALL_in 395 (by decide +kernel) rfl, by decide, ⟨by decide +kernel, by decide +kernel⟩, by decide +kernel⟩
theorem yk_GA_pathAt (Y : List kd) (idx kind ci : Nat) (x : MethodName) (h : String) : yOK Y (idx, kind, ci, y_GA_pathAt, 1, x, h, pr0) := ⟨yk0_GA_pathAt.1, yk0_GA_pathAt.2.1, yk0_GA_pathAt.2.2.1, yk0_GA_pathAt.2.2.2.1, yk0_GA_pathAt.2.2.2.2, fun _ _ _ _ h => by cases h⟩
theorem yk0_GA_countCode : plainName y_GA_countCode.1.cls = true ∧ Cond.code y_GA_countCode.1 y_GA_countCode.2.1 y_GA_countCode.2.2.1 y_GA_countCode.2.2.2 ∈ ALL ∧ y_GA_countCode.2.2.1 ≤ 21 ∧ notMH y_GA_countCode.1.cls ∧ (parseMethodDescriptor y_GA_countCode.1.desc).map (fun d => d.parameters.length) = some 1 := ⟨by decide +kernel, ALL_in 407 (by decide +kernel) rfl, by decide, ⟨by decide +kernel, by decide +kernel⟩, by decide +kernel⟩
theorem yk_GA_countCode (Y : List kd) (idx kind ci : Nat) (x : MethodName) (h : String) : yOK Y (idx, kind, ci, y_GA_countCode, 1, x, h, pr0) := ⟨yk0_GA_countCode.1, yk0_GA_countCode.2.1, yk0_GA_countCode.2.2.1, yk0_GA_countCode.2.2.2.1, yk0_GA_countCode.2.2.2.2, fun _ _ _ _ h => by cases h⟩
theorem yk0_TR_find : plainName y_TR_find.1.cls = true ∧ Cond.code y_TR_find.1 y_TR_find.2.1 y_TR_find.2.2.1 y_TR_find.2.2.2 ∈ ALL ∧ y_TR_find.2.2.1 ≤ 21 ∧ notMH y_TR_find.1.cls ∧ (parseMethodDescriptor y_TR_find.1.desc).map (fun d => d.parameters.length) = some 1 := ⟨by decide +kernel, ALL_in 441 (by decide +kernel) rfl, by decide, ⟨by decide +kernel, by decide +kernel⟩, by decide +kernel⟩
theorem yk_TR_find (Y : List kd) (idx kind ci : Nat) (x : MethodName) (h : String) : yOK Y (idx, kind, ci, y_TR_find, 1, x, h, pr0) := ⟨yk0_TR_find.1, yk0_TR_find.2.1, yk0_TR_find.2.2.1, yk0_TR_find.2.2.2.1, yk0_TR_find.2.2.2.2, fun _ _ _ _ h => by cases h⟩
theorem yk0_TR_take : plainName y_TR_take.1.cls = true ∧ Cond.code y_TR_take.1 y_TR_take.2.1 y_TR_take.2.2.1 y_TR_take.2.2.2 ∈ ALL ∧ y_TR_take.2.2.1 ≤ 21 ∧ notMH y_TR_take.1.cls ∧ (parseMethodDescriptor y_TR_take.1.desc).map (fun d => d.parameters.length) = some 1 := ⟨by decide +kernel, ALL_in 450 (by decide +kernel) rfl, by decide, ⟨by decide +kernel, by decide +kernel⟩, by decide +kernel⟩
theorem yk_TR_take (Y : List kd) (idx kind ci : Nat) (x : MethodName) (h : String) : yOK Y (idx, kind, ci, y_TR_take, 1, x, h, pr0) := ⟨yk0_TR_take.1, yk0_TR_take.2.1, yk0_TR_take.2.2.1, yk0_TR_take.2.2.2.1, yk0_TR_take.2.2.2.2, fun _ _ _ _ h => by cases h⟩
theorem yk0_PL_take : plainName y_PL_take.1.cls = true ∧ Cond.code y_PL_take.1 y_PL_take.2.1 y_PL_take.2.2.1 y_PL_take.2.2.2 ∈ ALL ∧ y_PL_take.2.2.1 ≤ 21 ∧ notMH y_PL_take.1.cls ∧ (parseMethodDescriptor y_PL_take.1.desc).map (fun d => d.parameters.length) = some 1 := ⟨by decide +kernel, ALL_in 457 (by decide +kernel) rfl, by decide, ⟨by decide +kernel, by decide +kernel⟩, by decide +kernel⟩
theorem yk_PL_take (Y : List kd) (idx kind ci : Nat) (x : MethodName) (h : String) : yOK Y (idx, kind, ci, y_PL_take, 1, x, h, pr0) := ⟨yk0_PL_take.1, yk0_PL_take.2.1, yk0_PL_take.2.2.1, yk0_PL_take.2.2.2.1, yk0_PL_take.2.2.2.2, fun _ _ _ _ h => by cases h⟩
theorem yk0_GF_numbers : plainName y_GF_numbers.1.cls = true ∧ Cond.code y_GF_numbers.1 y_GF_numbers.2.1 y_GF_numbers.2.2.1 y_GF_numbers.2.2.2 ∈ ALL ∧ y_GF_numbers.2.2.1 ≤ 21 ∧ notMH y_GF_numbers.1.cls ∧ (parseMethodDescriptor y_GF_numbers.1.desc).map (fun d => d.parameters.length) = some 0 := ⟨by decide +kernel, ALL_in 470 (by decide +kernel) rfl, by decide, ⟨by decide +kernel, by decide +kernel⟩, by decide +kernel⟩
theorem yk_GF_numbers (Y : List kd) (idx kind ci : Nat) (x : MethodName) (h : String) : yOK Y (idx, kind, ci, y_GF_numbers, 0, x, h, pr0) := ⟨yk0_GF_numbers.1, yk0_GF_numbers.2.1, yk0_GF_numbers.2.2.1, yk0_GF_numbers.2.2.2.1, yk0_GF_numbers.2.2.2.2, fun _ _ _ _ h => by cases h⟩
theorem yk0_GF_greatestPath : plainName y_GF_greatestPath.1.cls = true ∧ Cond.code y_GF_greatestPath.1 y_GF_greatestPath.2.1 y_GF_greatestPath.2.2.1 y_GF_greatestPath.2.2.2 ∈ ALL ∧ y_GF_greatestPath.2.2.1 ≤ 21 ∧ notMH y_GF_greatestPath.1.cls ∧ (parseMethodDescriptor y_GF_greatestPath.1.desc).map (fun d => d.parameters.length) = some 0 := ⟨by decide +kernel, ALL_in 474 (by decide +kernel) rfl, by decide, ⟨by decide +kernel, by decide +kernel⟩, by decide +kernel⟩
theorem yk_GF_greatestPath (Y : List kd) (idx kind ci : Nat) (x : MethodName) (h : String) : yOK Y (idx, kind, ci, y_GF_greatestPath, 0, x, h, pr0) := ⟨yk0_GF_greatestPath.1, yk0_GF_greatestPath.2.1, yk0_GF_greatestPath.2.2.1, yk0_GF_greatestPath.2.2.2.1, yk0_GF_greatestPath.2.2.2.2, fun _ _ _ _ h => by cases h⟩
theorem yk0_RD_read : plainName y_RD_read.1.cls = true ∧ Cond.code y_RD_read.1 y_RD_read.2.1 y_RD_read.2.2.1 y_RD_read.2.2.2 ∈ ALL ∧ y_RD_read.2.2.1 ≤ 21 ∧ notMH y_RD_read.1.cls ∧ (parseMethodDescriptor y_RD_read.1.desc).map (fun d => d.parameters.length) = some 2 := ⟨by decide +kernel, ALL_in 561 (by decide +kernel) rfl, by decide, ⟨by decide +kernel, by decide +kernel⟩, by decide +kernel⟩
theorem yk_RD_read (Y : List kd) (idx kind ci : Nat) (x : MethodName) (h : String) : yOK Y (idx, kind, ci, y_RD_read, 2, x, h, pr0) := ⟨yk0_RD_read.1, yk0_RD_read.2.1, yk0_RD_read.2.2.1, yk0_RD_read.2.2.2.1, yk0_RD_read.2.2.2.2, fun _ _ _ _ h => by cases h⟩
theorem yk0_RD_stumble : plainName y_RD_stumble.1.cls = true ∧ Cond.code y_RD_stumble.1 y_RD_stumble.2.1 y_RD_stumble.2.2.1 y_RD_stumble.2.2.2 ∈ ALL ∧ y_RD_stumble.2.2.1 ≤ 21 ∧ notMH y_RD_stumble.1.cls ∧ (parseMethodDescriptor y_RD_stumble.1.desc).map (fun d => d.parameters.length) = some 2 := ⟨by decide +kernel, ALL_in 565 (by decide +kernel) rfl, by decide, ⟨by decide +kernel, by decide +kernel⟩, by decide +kernel⟩
theorem yk_RD_stumble (Y : List kd) (idx kind ci : Nat) (x : MethodName) (h : String) : yOK Y (idx, kind, ci, y_RD_stumble, 2, x, h, pr0) := ⟨yk0_RD_stumble.1, yk0_RD_stumble.2.1, yk0_RD_stumble.2.2.1, yk0_RD_stumble.2.2.2.1, yk0_RD_stumble.2.2.2.2, fun _ _ _ _ h => by cases h⟩
theorem yk0_CR_goesOn : plainName y_CR_goesOn.1.cls = true ∧ Cond.code y_CR_goesOn.1 y_CR_goesOn.2.1 y_CR_goesOn.2.2.1 y_CR_goesOn.2.2.2 ∈ ALL ∧ y_CR_goesOn.2.2.1 ≤ 21 ∧ notMH y_CR_goesOn.1.cls ∧ (parseMethodDescriptor y_CR_goesOn.1.desc).map (fun d => d.parameters.length) = some 1 := ⟨by decide +kernel, ALL_in 572 (by decide +kernel) rfl, by decide, ⟨by decide +kernel, by decide +kernel⟩, by decide +kernel⟩
theorem yk_CR_goesOn (Y : List kd) (idx kind ci : Nat) (x : MethodName) (h : String) : yOK Y (idx, kind, ci, y_CR_goesOn, 1, x, h, pr0) := ⟨yk0_CR_goesOn.1, yk0_CR_goesOn.2.1, yk0_CR_goesOn.2.2.1, yk0_CR_goesOn.2.2.2.1, yk0_CR_goesOn.2.2.2.2, fun _ _ _ _ h => by cases h⟩
theorem yk0_VR_goesOn : plainName y_VR_goesOn.1.cls = true ∧ Cond.code y_VR_goesOn.1 y_VR_goesOn.2.1 y_VR_goesOn.2.2.1 y_VR_goesOn.2.2.2 ∈ ALL ∧ y_VR_goesOn.2.2.1 ≤ 21 ∧ notMH y_VR_goesOn.1.cls ∧ (parseMethodDescriptor y_VR_goesOn.1.desc).map (fun d => d.parameters.length) = some 1 := ⟨by decide +kernel, ALL_in 620 (by decide +kernel) rfl, by decide, ⟨by decide +kernel, by decide +kernel⟩, by decide +kernel⟩
theorem yk_VR_goesOn (Y : List kd) (idx kind ci : Nat) (x : MethodName) (h : String) : yOK Y (idx, kind, ci, y_VR_goesOn, 1, x, h, pr0) := ⟨yk0_VR_goesOn.1, yk0_VR_goesOn.2.1, yk0_VR_goesOn.2.2.1, yk0_VR_goesOn.2.2.2.1, yk0_VR_goesOn.2.2.2.2, fun _ _ _ _ h => by cases h⟩
theorem yk0_CR_build : plainName y_CR_build.1.cls = true ∧ Cond.code y_CR_build.1 y_CR_build.2.1 y_CR_build.2.2.1 y_CR_build.2.2.2 ∈ ALL ∧ y_CR_build.2.2.1 ≤ 21 ∧ notMH y_CR_build.1.cls ∧ (parseMethodDescriptor y_CR_build.1.desc).map (fun d => d.parameters.length) = some 2 := ⟨by decide +kernel, ALL_in 649 (by decide +kernel) rfl, by decide, ⟨by decide +kernel, by decide +kernel⟩, by decide +kernel⟩
theorem yk_CR_build (Y : List kd) (idx kind ci : Nat) (x : MethodName) (h : String) : yOK Y (idx, kind, ci, y_CR_build, 2, x, h, pr0) := ⟨yk0_CR_build.1, yk0_CR_build.2.1, yk0_CR_build.2.2.1, yk0_CR_build.2.2.2.1, yk0_CR_build.2.2.2.2, fun _ _ _ _ h => by cases h⟩
theorem yk0_VR_build : plainName y_VR_build.1.cls = true ∧ Cond.code y_VR_build.1 y_VR_build.2.1 y_VR_build.2.2.1 y_VR_build.2.2.2 ∈ ALL ∧ y_VR_build.2.2.1 ≤ 21 ∧ notMH y_VR_build.1.cls ∧ (parseMethodDescriptor y_VR_build.1.desc).map (fun d => d.parameters.length) = some 2 := ⟨by decide +kernel, ALL_in 699 (by decide +kernel) rfl, by decide, ⟨by decide +kernel, by decide +kernel⟩, by decide +kernel⟩
theorem yk_VR_build (Y : List kd) (idx kind ci : Nat) (x : MethodName) (h : String) : yOK Y (idx, kind, ci, y_VR_build, 2, x, h, pr0) := ⟨yk0_VR_build.1, yk0_VR_build.2.1, yk0_VR_build.2.2.1, yk0_VR_build.2.2.2.1, yk0_VR_build.2.2.2.2, fun _ _ _ _ h => by cases h⟩
def ct_CR : List sE := [(26, 0, 0, y_CR_begins, 1, ⟨"GathersAllFaults$CheckReader", "begins", "(I)Z"⟩, "", pr0), (48, 0, 0, y_CR_ends, 0, ⟨"GathersAllFaults$CheckReader", "ends", "()V"⟩, "", pr0), (65, 3, 0, y_RD_top, 0, ⟨"GathersAllFaults$CheckReader", "top", "()I"⟩, "GathersAllFaults$Reader", pr0), (59, 3, 0, y_RD_pop, 0, ⟨"GathersAllFaults$CheckReader", "pop", "()V"⟩, "GathersAllFaults$Reader", pr0), (55, 3, 0, y_RD_push, 1, ⟨"GathersAllFaults$CheckReader", "push", "(I)V"⟩, "GathersAllFaults$Reader", pr0), (33, 0, 0, y_CR_goBehindDigits, 0, ⟨"GathersAllFaults$CheckReader", "goBehindDigits", "()V"⟩, "", pr0), (39, 0, 0, y_CR_field, 1, ⟨"GathersAllFaults$CheckReader", "field", "(I)Z"⟩, "", pr0), (42, 0, 0, y_CR_last, 1, ⟨"GathersAllFaults$CheckReader", "last", "(I)Z"⟩, "", pr0), (84, 0, 0, y_CR_takes, 2, ⟨"GathersAllFaults$CheckReader", "takes", "([II)Z"⟩, "", pr0), (103, 0, 0, y_CR_settle, 0, ⟨"GathersAllFaults$CheckReader", "settle", "()V"⟩, "", pr0), (109, 0, 0, y_CR_addsField, 2, ⟨"GathersAllFaults$CheckReader", "addsField", "(II)Z"⟩, "", pr0), (123, 0, 2, y_PL_knows, 2, ⟨"GathersAllFaults$Plan", "knows", "(II)Z"⟩, "", pr0), (113, 0, 0, y_CR_addsDependent, 3, ⟨"GathersAllFaults$CheckReader", "addsDependent", "(III)Z"⟩, "", pr0), (132, 0, 2, y_PL_depend, 4, ⟨"GathersAllFaults$Plan", "depend", "(IIII)V"⟩, "", pr0), (117, 2, 0, y_CR_two, 2, ⟨"GathersAllFaults$CheckReader", "two", "([II)I"⟩, "", pr0), (120, 0, 0, y_CR_adds, 3, ⟨"GathersAllFaults$CheckReader", "adds", "(III)Z"⟩, "", pr0), (136, 0, 0, y_CR_canReturn, 0, ⟨"GathersAllFaults$CheckReader", "canReturn", "()Z"⟩, "", pr0), (140, 0, 2, y_PL_add, 3, ⟨"GathersAllFaults$Plan", "add", "(III)Z"⟩, "", pr0), (147, 2, 0, y_CR_wants, 1, ⟨"GathersAllFaults$CheckReader", "wants", "(I)I"⟩, "", pr0), (92, 2, 0, y_CR_tail, 1, ⟨"GathersAllFaults$CheckReader", "tail", "(I)I"⟩, "", pr0), (36, 1, 0, y_GF_isDigit, 1, ⟨"GathersAllFaults", "isDigit", "(I)Z"⟩, "GathersAllFaults", pr_dig), (45, 1, 0, y_GF_isName, 1, ⟨"GathersAllFaults", "isName", "(I)Z"⟩, "GathersAllFaults", pr_nam), (88, 1, 0, y_GF_at, 2, ⟨"GathersAllFaults", "at", "([II)I"⟩, "GathersAllFaults", pr_at), (99, 1, 0, y_GF_set, 3, ⟨"GathersAllFaults", "set", "([III)V"⟩, "GathersAllFaults", pr_set), (106, 1, 0, y_GF_digitOf, 1, ⟨"GathersAllFaults", "digitOf", "(I)I"⟩, "GathersAllFaults", pr_dof)]
theorem ct_CR_0 (Y : List kd) : eOK Y "GathersAllFaults$CheckReader" (26, 0, 0, y_CR_begins, 1, ⟨"GathersAllFaults$CheckReader", "begins", "(I)Z"⟩, "", pr0) := ⟨yk_CR_begins Y _ _ _ _ _, R0_, T0_, 11, rfl, rfl, ALL_in 573 (by decide +kernel) rfl, ALL_in 575 (by decide +kernel) rfl, ALL_inP 15 (by decide +kernel) rfl, ALL_in 7 (by decide +kernel) rfl⟩
theorem ct_CR_1 (Y : List kd) : eOK Y "GathersAllFaults$CheckReader" (48, 0, 0, y_CR_ends, 0, ⟨"GathersAllFaults$CheckReader", "ends", "()V"⟩, "", pr0) := ⟨yk_CR_ends Y _ _ _ _ _, R0_, T0_, 11, rfl, rfl, ALL_in 577 (by decide +kernel) rfl, ALL_in 579 (by decide +kernel) rfl, ALL_inP 16 (by decide +kernel) rfl, ALL_in 7 (by decide +kernel) rfl⟩
theorem ct_CR_2 (Y : List kd) : eOK Y "GathersAllFaults$CheckReader" (65, 3, 0, y_RD_top, 0, ⟨"GathersAllFaults$CheckReader", "top", "()I"⟩, "GathersAllFaults$Reader", pr0) := ⟨yk_RD_top Y _ _ _ _ _, R0_, T0_, 11, rfl, rfl, ALL_in 581 (by decide +kernel) rfl, ALL_in 582 (by decide +kernel) rfl, ALL_in 584 (by decide +kernel) rfl, ALL_in 585 (by decide +kernel) rfl, ALL_in 5 (by decide +kernel) rfl, by decide +kernel, by decide +kernel⟩
theorem ct_CR_3 (Y : List kd) : eOK Y "GathersAllFaults$CheckReader" (59, 3, 0, y_RD_pop, 0, ⟨"GathersAllFaults$CheckReader", "pop", "()V"⟩, "GathersAllFaults$Reader", pr0) := ⟨yk_RD_pop Y _ _ _ _ _, R0_, T0_, 11, rfl, rfl, ALL_in 587 (by decide +kernel) rfl, ALL_in 588 (by decide +kernel) rfl, ALL_in 590 (by decide +kernel) rfl, ALL_in 591 (by decide +kernel) rfl, ALL_in 5 (by decide +kernel) rfl, by decide +kernel, by decide +kernel⟩
theorem ct_CR_4 (Y : List kd) : eOK Y "GathersAllFaults$CheckReader" (55, 3, 0, y_RD_push, 1, ⟨"GathersAllFaults$CheckReader", "push", "(I)V"⟩, "GathersAllFaults$Reader", pr0) := ⟨yk_RD_push Y _ _ _ _ _, R0_, T0_, 11, rfl, rfl, ALL_in 593 (by decide +kernel) rfl, ALL_in 594 (by decide +kernel) rfl, ALL_in 596 (by decide +kernel) rfl, ALL_in 597 (by decide +kernel) rfl, ALL_in 5 (by decide +kernel) rfl, by decide +kernel, by decide +kernel⟩
theorem ct_CR_5 (Y : List kd) : eOK Y "GathersAllFaults$CheckReader" (33, 0, 0, y_CR_goBehindDigits, 0, ⟨"GathersAllFaults$CheckReader", "goBehindDigits", "()V"⟩, "", pr0) := ⟨yk_CR_goBehindDigits Y _ _ _ _ _, R0_, T0_, 11, rfl, rfl, ALL_in 600 (by decide +kernel) rfl, ALL_in 602 (by decide +kernel) rfl, ALL_inP 17 (by decide +kernel) rfl, ALL_in 7 (by decide +kernel) rfl⟩
theorem ct_CR_6 (Y : List kd) : eOK Y "GathersAllFaults$CheckReader" (39, 0, 0, y_CR_field, 1, ⟨"GathersAllFaults$CheckReader", "field", "(I)Z"⟩, "", pr0) := ⟨yk_CR_field Y _ _ _ _ _, R0_, T0_, 11, rfl, rfl, ALL_in 607 (by decide +kernel) rfl, ALL_in 609 (by decide +kernel) rfl, ALL_inP 18 (by decide +kernel) rfl, ALL_in 7 (by decide +kernel) rfl⟩
theorem ct_CR_7 (Y : List kd) : eOK Y "GathersAllFaults$CheckReader" (42, 0, 0, y_CR_last, 1, ⟨"GathersAllFaults$CheckReader", "last", "(I)Z"⟩, "", pr0) := ⟨yk_CR_last Y _ _ _ _ _, R0_, T0_, 11, rfl, rfl, ALL_in 614 (by decide +kernel) rfl, ALL_in 616 (by decide +kernel) rfl, ALL_inP 19 (by decide +kernel) rfl, ALL_in 7 (by decide +kernel) rfl⟩
theorem ct_CR_8 (Y : List kd) : eOK Y "GathersAllFaults$CheckReader" (84, 0, 0, y_CR_takes, 2, ⟨"GathersAllFaults$CheckReader", "takes", "([II)Z"⟩, "", pr0) := ⟨yk_CR_takes Y _ _ _ _ _, R0_, T0_, 11, rfl, rfl, ALL_in 650 (by decide +kernel) rfl, ALL_in 652 (by decide +kernel) rfl, ALL_inP 23 (by decide +kernel) rfl, ALL_in 7 (by decide +kernel) rfl⟩
theorem ct_CR_9 (Y : List kd) : eOK Y "GathersAllFaults$CheckReader" (103, 0, 0, y_CR_settle, 0, ⟨"GathersAllFaults$CheckReader", "settle", "()V"⟩, "", pr0) := ⟨yk_CR_settle Y _ _ _ _ _, R0_, T0_, 11, rfl, rfl, ALL_in 656 (by decide +kernel) rfl, ALL_in 658 (by decide +kernel) rfl, ALL_inP 24 (by decide +kernel) rfl, ALL_in 7 (by decide +kernel) rfl⟩
theorem ct_CR_10 (Y : List kd) : eOK Y "GathersAllFaults$CheckReader" (109, 0, 0, y_CR_addsField, 2, ⟨"GathersAllFaults$CheckReader", "addsField", "(II)Z"⟩, "", pr0) := ⟨yk_CR_addsField Y _ _ _ _ _, R0_, T0_, 11, rfl, rfl, ALL_in 663 (by decide +kernel) rfl, ALL_in 665 (by decide +kernel) rfl, ALL_inP 25 (by decide +kernel) rfl, ALL_in 7 (by decide +kernel) rfl⟩
theorem ct_CR_11 (Y : List kd) : eOK Y "GathersAllFaults$CheckReader" (123, 0, 2, y_PL_knows, 2, ⟨"GathersAllFaults$Plan", "knows", "(II)Z"⟩, "", pr0) := ⟨yk_PL_knows Y _ _ _ _ _, R2_, T2_, 15, rfl, rfl, ALL_in 667 (by decide +kernel) rfl, ALL_in 336 (by decide +kernel) rfl, ALL_in 337 (by decide +kernel) rfl, ALL_in 4 (by decide +kernel) rfl⟩
theorem ct_CR_12 (Y : List kd) : eOK Y "GathersAllFaults$CheckReader" (113, 0, 0, y_CR_addsDependent, 3, ⟨"GathersAllFaults$CheckReader", "addsDependent", "(III)Z"⟩, "", pr0) := ⟨yk_CR_addsDependent Y _ _ _ _ _, R0_, T0_, 11, rfl, rfl, ALL_in 668 (by decide +kernel) rfl, ALL_in 670 (by decide +kernel) rfl, ALL_inP 26 (by decide +kernel) rfl, ALL_in 7 (by decide +kernel) rfl⟩
theorem ct_CR_13 (Y : List kd) : eOK Y "GathersAllFaults$CheckReader" (132, 0, 2, y_PL_depend, 4, ⟨"GathersAllFaults$Plan", "depend", "(IIII)V"⟩, "", pr0) := ⟨yk_PL_depend Y _ _ _ _ _, R2_, T2_, 15, rfl, rfl, ALL_in 672 (by decide +kernel) rfl, ALL_in 673 (by decide +kernel) rfl, ALL_in 674 (by decide +kernel) rfl, ALL_in 4 (by decide +kernel) rfl⟩
theorem ct_CR_14 (Y : List kd) : eOK Y "GathersAllFaults$CheckReader" (117, 2, 0, y_CR_two, 2, ⟨"GathersAllFaults$CheckReader", "two", "([II)I"⟩, "", pr0) := ⟨yk_CR_two Y _ _ _ _ _, ALL_in 676 (by decide +kernel) rfl, ALL_in 677 (by decide +kernel) rfl, ALL_in 7 (by decide +kernel) rfl⟩
theorem ct_CR_15 (Y : List kd) : eOK Y "GathersAllFaults$CheckReader" (120, 0, 0, y_CR_adds, 3, ⟨"GathersAllFaults$CheckReader", "adds", "(III)Z"⟩, "", pr0) := ⟨yk_CR_adds Y _ _ _ _ _, R0_, T0_, 11, rfl, rfl, ALL_in 679 (by decide +kernel) rfl, ALL_in 681 (by decide +kernel) rfl, ALL_inP 27 (by decide +kernel) rfl, ALL_in 7 (by decide +kernel) rfl⟩
theorem ct_CR_16 (Y : List kd) : eOK Y "GathersAllFaults$CheckReader" (136, 0, 0, y_CR_canReturn, 0, ⟨"GathersAllFaults$CheckReader", "canReturn", "()Z"⟩, "", pr0) := ⟨yk_CR_canReturn Y _ _ _ _ _, R0_, T0_, 11, rfl, rfl, ALL_in 683 (by decide +kernel) rfl, ALL_in 685 (by decide +kernel) rfl, ALL_inP 28 (by decide +kernel) rfl, ALL_in 7 (by decide +kernel) rfl⟩
theorem ct_CR_17 (Y : List kd) : eOK Y "GathersAllFaults$CheckReader" (140, 0, 2, y_PL_add, 3, ⟨"GathersAllFaults$Plan", "add", "(III)Z"⟩, "", pr0) := ⟨yk_PL_add Y _ _ _ _ _, R2_, T2_, 15, rfl, rfl, ALL_in 687 (by decide +kernel) rfl, ALL_in 688 (by decide +kernel) rfl, ALL_in 689 (by decide +kernel) rfl, ALL_in 4 (by decide +kernel) rfl⟩
theorem ct_CR_18 (Y : List kd) : eOK Y "GathersAllFaults$CheckReader" (147, 2, 0, y_CR_wants, 1, ⟨"GathersAllFaults$CheckReader", "wants", "(I)I"⟩, "", pr0) := ⟨yk_CR_wants Y _ _ _ _ _, ALL_in 691 (by decide +kernel) rfl, ALL_in 692 (by decide +kernel) rfl, ALL_in 7 (by decide +kernel) rfl⟩
theorem ct_CR_19 (Y : List kd) : eOK Y "GathersAllFaults$CheckReader" (92, 2, 0, y_CR_tail, 1, ⟨"GathersAllFaults$CheckReader", "tail", "(I)I"⟩, "", pr0) := ⟨yk_CR_tail Y _ _ _ _ _, ALL_in 694 (by decide +kernel) rfl, ALL_in 695 (by decide +kernel) rfl, ALL_in 7 (by decide +kernel) rfl⟩
theorem ct_CR_20 (Y : List kd) : eOK Y "GathersAllFaults$CheckReader" (36, 1, 0, y_GF_isDigit, 1, ⟨"GathersAllFaults", "isDigit", "(I)Z"⟩, "GathersAllFaults", pr_dig) := ⟨yk_GF_isDigit Y _ _ _ _ _, List.mem_of_getElem? (i := 11) (by decide +kernel), ALL_in 605 (by decide +kernel) rfl, ALL_in 1 (by decide +kernel) rfl⟩
theorem ct_CR_21 (Y : List kd) : eOK Y "GathersAllFaults$CheckReader" (45, 1, 0, y_GF_isName, 1, ⟨"GathersAllFaults", "isName", "(I)Z"⟩, "GathersAllFaults", pr_nam) := ⟨yk_GF_isName Y _ _ _ _ _, List.mem_of_getElem? (i := 12) (by decide +kernel), ALL_in 612 (by decide +kernel) rfl, ALL_in 1 (by decide +kernel) rfl⟩
theorem ct_CR_22 (Y : List kd) : eOK Y "GathersAllFaults$CheckReader" (88, 1, 0, y_GF_at, 2, ⟨"GathersAllFaults", "at", "([II)I"⟩, "GathersAllFaults", pr_at) := ⟨yk_GF_at Y _ _ _ _ _, List.mem_of_getElem? (i := 15) (by decide +kernel), ALL_in 307 (by decide +kernel) rfl, ALL_in 1 (by decide +kernel) rfl⟩
theorem ct_CR_23 (Y : List kd) : eOK Y "GathersAllFaults$CheckReader" (99, 1, 0, y_GF_set, 3, ⟨"GathersAllFaults", "set", "([III)V"⟩, "GathersAllFaults", pr_set) := ⟨yk_GF_set Y _ _ _ _ _, List.mem_of_getElem? (i := 16) (by decide +kernel), ALL_in 28 (by decide +kernel) rfl, ALL_in 1 (by decide +kernel) rfl⟩
theorem ct_CR_24 (Y : List kd) : eOK Y "GathersAllFaults$CheckReader" (106, 1, 0, y_GF_digitOf, 1, ⟨"GathersAllFaults", "digitOf", "(I)I"⟩, "GathersAllFaults", pr_dof) := ⟨yk_GF_digitOf Y _ _ _ _ _, List.mem_of_getElem? (i := 17) (by decide +kernel), ALL_in 661 (by decide +kernel) rfl, ALL_in 1 (by decide +kernel) rfl⟩
theorem ct_CR_ok (Y : List kd) : ∀ q ∈ ct_CR, eOK Y "GathersAllFaults$CheckReader" q := (List.forall_mem_cons.mpr ⟨ct_CR_0 Y, (List.forall_mem_cons.mpr ⟨ct_CR_1 Y, (List.forall_mem_cons.mpr ⟨ct_CR_2 Y, (List.forall_mem_cons.mpr ⟨ct_CR_3 Y, (List.forall_mem_cons.mpr ⟨ct_CR_4 Y, (List.forall_mem_cons.mpr ⟨ct_CR_5 Y, (List.forall_mem_cons.mpr ⟨ct_CR_6 Y, (List.forall_mem_cons.mpr ⟨ct_CR_7 Y, (List.forall_mem_cons.mpr ⟨ct_CR_8 Y, (List.forall_mem_cons.mpr ⟨ct_CR_9 Y, (List.forall_mem_cons.mpr ⟨ct_CR_10 Y, (List.forall_mem_cons.mpr ⟨ct_CR_11 Y, (List.forall_mem_cons.mpr ⟨ct_CR_12 Y, (List.forall_mem_cons.mpr ⟨ct_CR_13 Y, (List.forall_mem_cons.mpr ⟨ct_CR_14 Y, (List.forall_mem_cons.mpr ⟨ct_CR_15 Y, (List.forall_mem_cons.mpr ⟨ct_CR_16 Y, (List.forall_mem_cons.mpr ⟨ct_CR_17 Y, (List.forall_mem_cons.mpr ⟨ct_CR_18 Y, (List.forall_mem_cons.mpr ⟨ct_CR_19 Y, (List.forall_mem_cons.mpr ⟨ct_CR_20 Y, (List.forall_mem_cons.mpr ⟨ct_CR_21 Y, (List.forall_mem_cons.mpr ⟨ct_CR_22 Y, (List.forall_mem_cons.mpr ⟨ct_CR_23 Y, (List.forall_mem_cons.mpr ⟨ct_CR_24 Y, (fun _ h => absurd h List.not_mem_nil)⟩)⟩)⟩)⟩)⟩)⟩)⟩)⟩)⟩)⟩)⟩)⟩)⟩)⟩)⟩)⟩)⟩)⟩)⟩)⟩)⟩)⟩)⟩)⟩)⟩)
def ct_GA : List sE := [(36, 0, 1, y_GA_look, 3, ⟨"GathersAllFaults$Gatherer", "look", "(III)V"⟩, "", pr0), (56, 0, 1, y_GA_deciderOf, 2, ⟨"GathersAllFaults$Gatherer", "deciderOf", "(II)I"⟩, "", pr0), (89, 0, 1, y_GA_add, 2, ⟨"GathersAllFaults$Gatherer", "add", "(II)V"⟩, "", pr0), (63, 0, 1, y_GA_lookAtNumber, 2, ⟨"GathersAllFaults$Gatherer", "lookAtNumber", "(II)V"⟩, "", pr0), (67, 0, 1, y_GA_lookAtRecord, 3, ⟨"GathersAllFaults$Gatherer", "lookAtRecord", "(III)V"⟩, "", pr0), (105, 0, 1, y_GA_lookAtFields, 3, ⟨"GathersAllFaults$Gatherer", "lookAtFields", "(III)V"⟩, "", pr0), (126, 0, 3, y_TR_child, 2, ⟨"GathersAllFaults$Tree", "child", "(II)I"⟩, "", pr0), (108, 0, 1, y_GA_lookForStrangers, 2, ⟨"GathersAllFaults$Gatherer", "lookForStrangers", "(II)V"⟩, "", pr0), (133, 0, 2, y_PL_knows, 2, ⟨"GathersAllFaults$Plan", "knows", "(II)Z"⟩, "", pr0), (117, 0, 1, y_GA_lookAtDependent, 3, ⟨"GathersAllFaults$Gatherer", "lookAtDependent", "(III)V"⟩, "", pr0), (142, 0, 1, y_GA_countBelow, 2, ⟨"GathersAllFaults$Gatherer", "countBelow", "(II)I"⟩, "", pr0), (48, 2, 0, y_GA_goesOnFrom, 2, ⟨"GathersAllFaults$Gatherer", "goesOnFrom", "(II)Z"⟩, "", pr0), (148, 0, 3, y_TR_less, 2, ⟨"GathersAllFaults$Tree", "less", "(II)Z"⟩, "", pr0), (151, 0, 3, y_TR_alike, 2, ⟨"GathersAllFaults$Tree", "alike", "(II)Z"⟩, "", pr0), (70, 0, 1, y_GA_lookAtList, 3, ⟨"GathersAllFaults$Gatherer", "lookAtList", "(III)V"⟩, "", pr0), (73, 0, 1, y_GA_lookForTwins, 2, ⟨"GathersAllFaults$Gatherer", "lookForTwins", "(II)V"⟩, "", pr0), (79, 0, 1, y_GA_keepFewer, 4, ⟨"GathersAllFaults$Gatherer", "keepFewer", "(IIII)V"⟩, "", pr0), (44, 0, 1, y_GA_codeAt, 1, ⟨"GathersAllFaults$Gatherer", "codeAt", "(I)I"⟩, "", pr0), (40, 1, 0, y_GF_at, 2, ⟨"GathersAllFaults", "at", "([II)I"⟩, "GathersAllFaults", pr_at), (52, 1, 0, y_GF_set, 3, ⟨"GathersAllFaults", "set", "([III)V"⟩, "GathersAllFaults", pr_set), (154, 1, 0, y_GF_close, 4, ⟨"GathersAllFaults", "close", "([IIII)V"⟩, "GathersAllFaults", pr0)]
theorem ct_GA_0 (Y : List kd) : eOK Y "GathersAllFaults$Gatherer" (36, 0, 1, y_GA_look, 3, ⟨"GathersAllFaults$Gatherer", "look", "(III)V"⟩, "", pr0) := ⟨yk_GA_look Y _ _ _ _ _, R1_, T1_, 5, rfl, rfl, ALL_in 298 (by decide +kernel) rfl, ALL_in 300 (by decide +kernel) rfl, ALL_inP 0 (by decide +kernel) rfl, ALL_in 3 (by decide +kernel) rfl⟩
theorem ct_GA_1 (Y : List kd) : eOK Y "GathersAllFaults$Gatherer" (56, 0, 1, y_GA_deciderOf, 2, ⟨"GathersAllFaults$Gatherer", "deciderOf", "(II)I"⟩, "", pr0) := ⟨yk_GA_deciderOf Y _ _ _ _ _, R1_, T1_, 5, rfl, rfl, ALL_in 302 (by decide +kernel) rfl, ALL_in 304 (by decide +kernel) rfl, ALL_inP 1 (by decide +kernel) rfl, ALL_in 3 (by decide +kernel) rfl⟩
theorem ct_GA_2 (Y : List kd) : eOK Y "GathersAllFaults$Gatherer" (89, 0, 1, y_GA_add, 2, ⟨"GathersAllFaults$Gatherer", "add", "(II)V"⟩, "", pr0) := ⟨yk_GA_add Y _ _ _ _ _, R1_, T1_, 5, rfl, rfl, ALL_in 309 (by decide +kernel) rfl, ALL_in 311 (by decide +kernel) rfl, ALL_inP 2 (by decide +kernel) rfl, ALL_in 3 (by decide +kernel) rfl⟩
theorem ct_GA_3 (Y : List kd) : eOK Y "GathersAllFaults$Gatherer" (63, 0, 1, y_GA_lookAtNumber, 2, ⟨"GathersAllFaults$Gatherer", "lookAtNumber", "(II)V"⟩, "", pr0) := ⟨yk_GA_lookAtNumber Y _ _ _ _ _, R1_, T1_, 5, rfl, rfl, ALL_in 314 (by decide +kernel) rfl, ALL_in 316 (by decide +kernel) rfl, ALL_inP 3 (by decide +kernel) rfl, ALL_in 3 (by decide +kernel) rfl⟩
theorem ct_GA_4 (Y : List kd) : eOK Y "GathersAllFaults$Gatherer" (67, 0, 1, y_GA_lookAtRecord, 3, ⟨"GathersAllFaults$Gatherer", "lookAtRecord", "(III)V"⟩, "", pr0) := ⟨yk_GA_lookAtRecord Y _ _ _ _ _, R1_, T1_, 5, rfl, rfl, ALL_in 318 (by decide +kernel) rfl, ALL_in 320 (by decide +kernel) rfl, ALL_inP 4 (by decide +kernel) rfl, ALL_in 3 (by decide +kernel) rfl⟩
theorem ct_GA_5 (Y : List kd) : eOK Y "GathersAllFaults$Gatherer" (105, 0, 1, y_GA_lookAtFields, 3, ⟨"GathersAllFaults$Gatherer", "lookAtFields", "(III)V"⟩, "", pr0) := ⟨yk_GA_lookAtFields Y _ _ _ _ _, R1_, T1_, 5, rfl, rfl, ALL_in 322 (by decide +kernel) rfl, ALL_in 324 (by decide +kernel) rfl, ALL_inP 5 (by decide +kernel) rfl, ALL_in 3 (by decide +kernel) rfl⟩
theorem ct_GA_6 (Y : List kd) : eOK Y "GathersAllFaults$Gatherer" (126, 0, 3, y_TR_child, 2, ⟨"GathersAllFaults$Tree", "child", "(II)I"⟩, "", pr0) := ⟨yk_TR_child Y _ _ _ _ _, R3_, T3_, 7, rfl, rfl, ALL_in 326 (by decide +kernel) rfl, ALL_in 327 (by decide +kernel) rfl, ALL_in 328 (by decide +kernel) rfl, ALL_in 2 (by decide +kernel) rfl⟩
theorem ct_GA_7 (Y : List kd) : eOK Y "GathersAllFaults$Gatherer" (108, 0, 1, y_GA_lookForStrangers, 2, ⟨"GathersAllFaults$Gatherer", "lookForStrangers", "(II)V"⟩, "", pr0) := ⟨yk_GA_lookForStrangers Y _ _ _ _ _, R1_, T1_, 5, rfl, rfl, ALL_in 331 (by decide +kernel) rfl, ALL_in 333 (by decide +kernel) rfl, ALL_inP 6 (by decide +kernel) rfl, ALL_in 3 (by decide +kernel) rfl⟩
theorem ct_GA_8 (Y : List kd) : eOK Y "GathersAllFaults$Gatherer" (133, 0, 2, y_PL_knows, 2, ⟨"GathersAllFaults$Plan", "knows", "(II)Z"⟩, "", pr0) := ⟨yk_PL_knows Y _ _ _ _ _, R2_, T2_, 15, rfl, rfl, ALL_in 335 (by decide +kernel) rfl, ALL_in 336 (by decide +kernel) rfl, ALL_in 337 (by decide +kernel) rfl, ALL_in 4 (by decide +kernel) rfl⟩
theorem ct_GA_9 (Y : List kd) : eOK Y "GathersAllFaults$Gatherer" (117, 0, 1, y_GA_lookAtDependent, 3, ⟨"GathersAllFaults$Gatherer", "lookAtDependent", "(III)V"⟩, "", pr0) := ⟨yk_GA_lookAtDependent Y _ _ _ _ _, R1_, T1_, 5, rfl, rfl, ALL_in 340 (by decide +kernel) rfl, ALL_in 342 (by decide +kernel) rfl, ALL_inP 7 (by decide +kernel) rfl, ALL_in 3 (by decide +kernel) rfl⟩
theorem ct_GA_10 (Y : List kd) : eOK Y "GathersAllFaults$Gatherer" (142, 0, 1, y_GA_countBelow, 2, ⟨"GathersAllFaults$Gatherer", "countBelow", "(II)I"⟩, "", pr0) := ⟨yk_GA_countBelow Y _ _ _ _ _, R1_, T1_, 5, rfl, rfl, ALL_in 344 (by decide +kernel) rfl, ALL_in 345 (by decide +kernel) rfl, ALL_in 346 (by decide +kernel) rfl, ALL_in 3 (by decide +kernel) rfl⟩
theorem ct_GA_11 (Y : List kd) : eOK Y "GathersAllFaults$Gatherer" (48, 2, 0, y_GA_goesOnFrom, 2, ⟨"GathersAllFaults$Gatherer", "goesOnFrom", "(II)Z"⟩, "", pr0) := ⟨yk_GA_goesOnFrom Y _ _ _ _ _, ALL_in 348 (by decide +kernel) rfl, ALL_in 349 (by decide +kernel) rfl, ALL_in 3 (by decide +kernel) rfl⟩
theorem ct_GA_12 (Y : List kd) : eOK Y "GathersAllFaults$Gatherer" (148, 0, 3, y_TR_less, 2, ⟨"GathersAllFaults$Tree", "less", "(II)Z"⟩, "", pr0) := ⟨yk_TR_less Y _ _ _ _ _, R3_, T3_, 7, rfl, rfl, ALL_in 351 (by decide +kernel) rfl, ALL_in 352 (by decide +kernel) rfl, ALL_in 353 (by decide +kernel) rfl, ALL_in 2 (by decide +kernel) rfl⟩
theorem ct_GA_13 (Y : List kd) : eOK Y "GathersAllFaults$Gatherer" (151, 0, 3, y_TR_alike, 2, ⟨"GathersAllFaults$Tree", "alike", "(II)Z"⟩, "", pr0) := ⟨yk_TR_alike Y _ _ _ _ _, R3_, T3_, 7, rfl, rfl, ALL_in 355 (by decide +kernel) rfl, ALL_in 356 (by decide +kernel) rfl, ALL_in 357 (by decide +kernel) rfl, ALL_in 2 (by decide +kernel) rfl⟩
theorem ct_GA_14 (Y : List kd) : eOK Y "GathersAllFaults$Gatherer" (70, 0, 1, y_GA_lookAtList, 3, ⟨"GathersAllFaults$Gatherer", "lookAtList", "(III)V"⟩, "", pr0) := ⟨yk_GA_lookAtList Y _ _ _ _ _, R1_, T1_, 5, rfl, rfl, ALL_in 364 (by decide +kernel) rfl, ALL_in 366 (by decide +kernel) rfl, ALL_inP 9 (by decide +kernel) rfl, ALL_in 3 (by decide +kernel) rfl⟩
theorem ct_GA_15 (Y : List kd) : eOK Y "GathersAllFaults$Gatherer" (73, 0, 1, y_GA_lookForTwins, 2, ⟨"GathersAllFaults$Gatherer", "lookForTwins", "(II)V"⟩, "", pr0) := ⟨yk_GA_lookForTwins Y _ _ _ _ _, R1_, T1_, 5, rfl, rfl, ALL_in 368 (by decide +kernel) rfl, ALL_in 370 (by decide +kernel) rfl, ALL_inP 10 (by decide +kernel) rfl, ALL_in 3 (by decide +kernel) rfl⟩
theorem ct_GA_16 (Y : List kd) : eOK Y "GathersAllFaults$Gatherer" (79, 0, 1, y_GA_keepFewer, 4, ⟨"GathersAllFaults$Gatherer", "keepFewer", "(IIII)V"⟩, "", pr0) := ⟨yk_GA_keepFewer Y _ _ _ _ _, R1_, T1_, 5, rfl, rfl, ALL_in 372 (by decide +kernel) rfl, ALL_in 374 (by decide +kernel) rfl, ALL_inP 11 (by decide +kernel) rfl, ALL_in 3 (by decide +kernel) rfl⟩
theorem ct_GA_17 (Y : List kd) : eOK Y "GathersAllFaults$Gatherer" (44, 0, 1, y_GA_codeAt, 1, ⟨"GathersAllFaults$Gatherer", "codeAt", "(I)I"⟩, "", pr0) := ⟨yk_GA_codeAt Y _ _ _ _ _, R1_, T1_, 5, rfl, rfl, ALL_in 408 (by decide +kernel) rfl, ALL_in 397 (by decide +kernel) rfl, ALL_in 398 (by decide +kernel) rfl, ALL_in 3 (by decide +kernel) rfl⟩
theorem ct_GA_18 (Y : List kd) : eOK Y "GathersAllFaults$Gatherer" (40, 1, 0, y_GF_at, 2, ⟨"GathersAllFaults", "at", "([II)I"⟩, "GathersAllFaults", pr_at) := ⟨yk_GF_at Y _ _ _ _ _, List.mem_of_getElem? (i := 2) (by decide +kernel), ALL_in 307 (by decide +kernel) rfl, ALL_in 1 (by decide +kernel) rfl⟩
theorem ct_GA_19 (Y : List kd) : eOK Y "GathersAllFaults$Gatherer" (52, 1, 0, y_GF_set, 3, ⟨"GathersAllFaults", "set", "([III)V"⟩, "GathersAllFaults", pr_set) := ⟨yk_GF_set Y _ _ _ _ _, List.mem_of_getElem? (i := 3) (by decide +kernel), ALL_in 28 (by decide +kernel) rfl, ALL_in 1 (by decide +kernel) rfl⟩
theorem ct_GA_20 (Y : List kd) : eOK Y "GathersAllFaults$Gatherer" (154, 1, 0, y_GF_close, 4, ⟨"GathersAllFaults", "close", "([IIII)V"⟩, "GathersAllFaults", pr0) := ⟨yk_GF_close Y _ _ _ _ _, List.mem_of_getElem? (i := 6) (by decide +kernel), ALL_in 377 (by decide +kernel) rfl, ALL_in 1 (by decide +kernel) rfl⟩
theorem ct_GA_ok (Y : List kd) : ∀ q ∈ ct_GA, eOK Y "GathersAllFaults$Gatherer" q := (List.forall_mem_cons.mpr ⟨ct_GA_0 Y, (List.forall_mem_cons.mpr ⟨ct_GA_1 Y, (List.forall_mem_cons.mpr ⟨ct_GA_2 Y, (List.forall_mem_cons.mpr ⟨ct_GA_3 Y, (List.forall_mem_cons.mpr ⟨ct_GA_4 Y, (List.forall_mem_cons.mpr ⟨ct_GA_5 Y, (List.forall_mem_cons.mpr ⟨ct_GA_6 Y, (List.forall_mem_cons.mpr ⟨ct_GA_7 Y, (List.forall_mem_cons.mpr ⟨ct_GA_8 Y, (List.forall_mem_cons.mpr ⟨ct_GA_9 Y, (List.forall_mem_cons.mpr ⟨ct_GA_10 Y, (List.forall_mem_cons.mpr ⟨ct_GA_11 Y, (List.forall_mem_cons.mpr ⟨ct_GA_12 Y, (List.forall_mem_cons.mpr ⟨ct_GA_13 Y, (List.forall_mem_cons.mpr ⟨ct_GA_14 Y, (List.forall_mem_cons.mpr ⟨ct_GA_15 Y, (List.forall_mem_cons.mpr ⟨ct_GA_16 Y, (List.forall_mem_cons.mpr ⟨ct_GA_17 Y, (List.forall_mem_cons.mpr ⟨ct_GA_18 Y, (List.forall_mem_cons.mpr ⟨ct_GA_19 Y, (List.forall_mem_cons.mpr ⟨ct_GA_20 Y, (fun _ h => absurd h List.not_mem_nil)⟩)⟩)⟩)⟩)⟩)⟩)⟩)⟩)⟩)⟩)⟩)⟩)⟩)⟩)⟩)⟩)⟩)⟩)⟩)⟩)⟩)
def ct_PL : List sE := [(55, 1, 0, y_GF_set, 3, ⟨"GathersAllFaults", "set", "([III)V"⟩, "GathersAllFaults", pr_set), (66, 1, 0, y_GF_at, 2, ⟨"GathersAllFaults", "at", "([II)I"⟩, "GathersAllFaults", pr_at), (59, 1, 0, y_GF_copy, 2, ⟨"GathersAllFaults", "copy", "([I[I)V"⟩, "GathersAllFaults", pr0)]
theorem ct_PL_0 (Y : List kd) : eOK Y "GathersAllFaults$Plan" (55, 1, 0, y_GF_set, 3, ⟨"GathersAllFaults", "set", "([III)V"⟩, "GathersAllFaults", pr_set) := ⟨yk_GF_set Y _ _ _ _ _, List.mem_of_getElem? (i := 1) (by decide +kernel), ALL_in 28 (by decide +kernel) rfl, ALL_in 1 (by decide +kernel) rfl⟩
theorem ct_PL_1 (Y : List kd) : eOK Y "GathersAllFaults$Plan" (66, 1, 0, y_GF_at, 2, ⟨"GathersAllFaults", "at", "([II)I"⟩, "GathersAllFaults", pr_at) := ⟨yk_GF_at Y _ _ _ _ _, List.mem_of_getElem? (i := 5) (by decide +kernel), ALL_in 307 (by decide +kernel) rfl, ALL_in 1 (by decide +kernel) rfl⟩
theorem ct_PL_2 (Y : List kd) : eOK Y "GathersAllFaults$Plan" (59, 1, 0, y_GF_copy, 2, ⟨"GathersAllFaults", "copy", "([I[I)V"⟩, "GathersAllFaults", pr0) := ⟨yk_GF_copy Y _ _ _ _ _, List.mem_of_getElem? (i := 8) (by decide +kernel), ALL_in 452 (by decide +kernel) rfl, ALL_in 1 (by decide +kernel) rfl⟩
theorem ct_PL_ok (Y : List kd) : ∀ q ∈ ct_PL, eOK Y "GathersAllFaults$Plan" q := (List.forall_mem_cons.mpr ⟨ct_PL_0 Y, (List.forall_mem_cons.mpr ⟨ct_PL_1 Y, (List.forall_mem_cons.mpr ⟨ct_PL_2 Y, (fun _ h => absurd h List.not_mem_nil)⟩)⟩)⟩)
def ct_TR : List sE := [(61, 0, 3, y_TR_alikeBelow, 3, ⟨"GathersAllFaults$Tree", "alikeBelow", "(III)Z"⟩, "", pr0), (65, 0, 3, y_TR_child, 2, ⟨"GathersAllFaults$Tree", "child", "(II)I"⟩, "", pr0), (34, 1, 0, y_GF_set, 3, ⟨"GathersAllFaults", "set", "([III)V"⟩, "GathersAllFaults", pr_set), (42, 1, 0, y_GF_at, 2, ⟨"GathersAllFaults", "at", "([II)I"⟩, "GathersAllFaults", pr_at), (38, 1, 0, y_GF_copy, 2, ⟨"GathersAllFaults", "copy", "([I[I)V"⟩, "GathersAllFaults", pr0)]
theorem ct_TR_0 (Y : List kd) : eOK Y "GathersAllFaults$Tree" (61, 0, 3, y_TR_alikeBelow, 3, ⟨"GathersAllFaults$Tree", "alikeBelow", "(III)Z"⟩, "", pr0) := ⟨yk_TR_alikeBelow Y _ _ _ _ _, R3_, T3_, 7, rfl, rfl, ALL_in 359 (by decide +kernel) rfl, ALL_in 361 (by decide +kernel) rfl, ALL_inP 8 (by decide +kernel) rfl, ALL_in 2 (by decide +kernel) rfl⟩
theorem ct_TR_1 (Y : List kd) : eOK Y "GathersAllFaults$Tree" (65, 0, 3, y_TR_child, 2, ⟨"GathersAllFaults$Tree", "child", "(II)I"⟩, "", pr0) := ⟨yk_TR_child Y _ _ _ _ _, R3_, T3_, 7, rfl, rfl, ALL_in 363 (by decide +kernel) rfl, ALL_in 327 (by decide +kernel) rfl, ALL_in 328 (by decide +kernel) rfl, ALL_in 2 (by decide +kernel) rfl⟩
theorem ct_TR_2 (Y : List kd) : eOK Y "GathersAllFaults$Tree" (34, 1, 0, y_GF_set, 3, ⟨"GathersAllFaults", "set", "([III)V"⟩, "GathersAllFaults", pr_set) := ⟨yk_GF_set Y _ _ _ _ _, List.mem_of_getElem? (i := 0) (by decide +kernel), ALL_in 28 (by decide +kernel) rfl, ALL_in 1 (by decide +kernel) rfl⟩
theorem ct_TR_3 (Y : List kd) : eOK Y "GathersAllFaults$Tree" (42, 1, 0, y_GF_at, 2, ⟨"GathersAllFaults", "at", "([II)I"⟩, "GathersAllFaults", pr_at) := ⟨yk_GF_at Y _ _ _ _ _, List.mem_of_getElem? (i := 4) (by decide +kernel), ALL_in 307 (by decide +kernel) rfl, ALL_in 1 (by decide +kernel) rfl⟩
theorem ct_TR_4 (Y : List kd) : eOK Y "GathersAllFaults$Tree" (38, 1, 0, y_GF_copy, 2, ⟨"GathersAllFaults", "copy", "([I[I)V"⟩, "GathersAllFaults", pr0) := ⟨yk_GF_copy Y _ _ _ _ _, List.mem_of_getElem? (i := 7) (by decide +kernel), ALL_in 452 (by decide +kernel) rfl, ALL_in 1 (by decide +kernel) rfl⟩
theorem ct_TR_ok (Y : List kd) : ∀ q ∈ ct_TR, eOK Y "GathersAllFaults$Tree" q := (List.forall_mem_cons.mpr ⟨ct_TR_0 Y, (List.forall_mem_cons.mpr ⟨ct_TR_1 Y, (List.forall_mem_cons.mpr ⟨ct_TR_2 Y, (List.forall_mem_cons.mpr ⟨ct_TR_3 Y, (List.forall_mem_cons.mpr ⟨ct_TR_4 Y, (fun _ h => absurd h List.not_mem_nil)⟩)⟩)⟩)⟩)⟩)
def ct_VR : List sE := [(30, 0, 4, y_VR_begins, 1, ⟨"GathersAllFaults$ValueReader", "begins", "(I)Z"⟩, "", pr0), (40, 3, 4, y_RD_push, 1, ⟨"GathersAllFaults$ValueReader", "push", "(I)V"⟩, "GathersAllFaults$Reader", pr0), (44, 0, 4, y_VR_ends, 0, ⟨"GathersAllFaults$ValueReader", "ends", "()V"⟩, "", pr0), (53, 3, 4, y_RD_top, 0, ⟨"GathersAllFaults$ValueReader", "top", "()I"⟩, "GathersAllFaults$Reader", pr0), (33, 0, 4, y_VR_closes, 0, ⟨"GathersAllFaults$ValueReader", "closes", "()Z"⟩, "", pr0), (47, 3, 4, y_RD_pop, 0, ⟨"GathersAllFaults$ValueReader", "pop", "()V"⟩, "GathersAllFaults$Reader", pr0), (67, 0, 4, y_VR_adds, 2, ⟨"GathersAllFaults$ValueReader", "adds", "(II)Z"⟩, "", pr0), (99, 0, 3, y_TR_add, 3, ⟨"GathersAllFaults$Tree", "add", "(III)Z"⟩, "", pr0), (71, 0, 4, y_VR_takes, 1, ⟨"GathersAllFaults$ValueReader", "takes", "(I)Z"⟩, "", pr0), (89, 0, 3, y_TR_child, 2, ⟨"GathersAllFaults$Tree", "child", "(II)I"⟩, "", pr0), (74, 0, 3, y_TR_link, 0, ⟨"GathersAllFaults$Tree", "link", "()V"⟩, "", pr0), (22, 1, 0, y_GF_isDigit, 1, ⟨"GathersAllFaults", "isDigit", "(I)Z"⟩, "GathersAllFaults", pr_dig), (37, 1, 0, y_GF_isName, 1, ⟨"GathersAllFaults", "isName", "(I)Z"⟩, "GathersAllFaults", pr_nam), (63, 1, 0, y_GF_at, 2, ⟨"GathersAllFaults", "at", "([II)I"⟩, "GathersAllFaults", pr_at), (81, 1, 0, y_GF_set, 3, ⟨"GathersAllFaults", "set", "([III)V"⟩, "GathersAllFaults", pr_set), (85, 1, 0, y_GF_digitOf, 1, ⟨"GathersAllFaults", "digitOf", "(I)I"⟩, "GathersAllFaults", pr_dof)]
theorem ct_VR_0 (Y : List kd) : eOK Y "GathersAllFaults$ValueReader" (30, 0, 4, y_VR_begins, 1, ⟨"GathersAllFaults$ValueReader", "begins", "(I)Z"⟩, "", pr0) := ⟨yk_VR_begins Y _ _ _ _ _, R4_, T4_, 6, rfl, rfl, ALL_in 622 (by decide +kernel) rfl, ALL_in 624 (by decide +kernel) rfl, ALL_inP 20 (by decide +kernel) rfl, ALL_in 6 (by decide +kernel) rfl⟩
theorem ct_VR_1 (Y : List kd) : eOK Y "GathersAllFaults$ValueReader" (40, 3, 4, y_RD_push, 1, ⟨"GathersAllFaults$ValueReader", "push", "(I)V"⟩, "GathersAllFaults$Reader", pr0) := ⟨yk_RD_push Y _ _ _ _ _, R4_, T4_, 6, rfl, rfl, ALL_in 626 (by decide +kernel) rfl, ALL_in 627 (by decide +kernel) rfl, ALL_in 628 (by decide +kernel) rfl, ALL_in 597 (by decide +kernel) rfl, ALL_in 5 (by decide +kernel) rfl, by decide +kernel, by decide +kernel⟩
theorem ct_VR_2 (Y : List kd) : eOK Y "GathersAllFaults$ValueReader" (44, 0, 4, y_VR_ends, 0, ⟨"GathersAllFaults$ValueReader", "ends", "()V"⟩, "", pr0) := ⟨yk_VR_ends Y _ _ _ _ _, R4_, T4_, 6, rfl, rfl, ALL_in 629 (by decide +kernel) rfl, ALL_in 631 (by decide +kernel) rfl, ALL_inP 21 (by decide +kernel) rfl, ALL_in 6 (by decide +kernel) rfl⟩
theorem ct_VR_3 (Y : List kd) : eOK Y "GathersAllFaults$ValueReader" (53, 3, 4, y_RD_top, 0, ⟨"GathersAllFaults$ValueReader", "top", "()I"⟩, "GathersAllFaults$Reader", pr0) := ⟨yk_RD_top Y _ _ _ _ _, R4_, T4_, 6, rfl, rfl, ALL_in 633 (by decide +kernel) rfl, ALL_in 634 (by decide +kernel) rfl, ALL_in 635 (by decide +kernel) rfl, ALL_in 585 (by decide +kernel) rfl, ALL_in 5 (by decide +kernel) rfl, by decide +kernel, by decide +kernel⟩
theorem ct_VR_4 (Y : List kd) : eOK Y "GathersAllFaults$ValueReader" (33, 0, 4, y_VR_closes, 0, ⟨"GathersAllFaults$ValueReader", "closes", "()Z"⟩, "", pr0) := ⟨yk_VR_closes Y _ _ _ _ _, R4_, T4_, 6, rfl, rfl, ALL_in 636 (by decide +kernel) rfl, ALL_in 638 (by decide +kernel) rfl, ALL_inP 22 (by decide +kernel) rfl, ALL_in 6 (by decide +kernel) rfl⟩
theorem ct_VR_5 (Y : List kd) : eOK Y "GathersAllFaults$ValueReader" (47, 3, 4, y_RD_pop, 0, ⟨"GathersAllFaults$ValueReader", "pop", "()V"⟩, "GathersAllFaults$Reader", pr0) := ⟨yk_RD_pop Y _ _ _ _ _, R4_, T4_, 6, rfl, rfl, ALL_in 640 (by decide +kernel) rfl, ALL_in 641 (by decide +kernel) rfl, ALL_in 642 (by decide +kernel) rfl, ALL_in 591 (by decide +kernel) rfl, ALL_in 5 (by decide +kernel) rfl, by decide +kernel, by decide +kernel⟩
theorem ct_VR_6 (Y : List kd) : eOK Y "GathersAllFaults$ValueReader" (67, 0, 4, y_VR_adds, 2, ⟨"GathersAllFaults$ValueReader", "adds", "(II)Z"⟩, "", pr0) := ⟨yk_VR_adds Y _ _ _ _ _, R4_, T4_, 6, rfl, rfl, ALL_in 701 (by decide +kernel) rfl, ALL_in 703 (by decide +kernel) rfl, ALL_inP 29 (by decide +kernel) rfl, ALL_in 6 (by decide +kernel) rfl⟩
theorem ct_VR_7 (Y : List kd) : eOK Y "GathersAllFaults$ValueReader" (99, 0, 3, y_TR_add, 3, ⟨"GathersAllFaults$Tree", "add", "(III)Z"⟩, "", pr0) := ⟨yk_TR_add Y _ _ _ _ _, R3_, T3_, 7, rfl, rfl, ALL_in 706 (by decide +kernel) rfl, ALL_in 707 (by decide +kernel) rfl, ALL_in 708 (by decide +kernel) rfl, ALL_in 2 (by decide +kernel) rfl⟩
theorem ct_VR_8 (Y : List kd) : eOK Y "GathersAllFaults$ValueReader" (71, 0, 4, y_VR_takes, 1, ⟨"GathersAllFaults$ValueReader", "takes", "(I)Z"⟩, "", pr0) := ⟨yk_VR_takes Y _ _ _ _ _, R4_, T4_, 6, rfl, rfl, ALL_in 710 (by decide +kernel) rfl, ALL_in 712 (by decide +kernel) rfl, ALL_inP 30 (by decide +kernel) rfl, ALL_in 6 (by decide +kernel) rfl⟩
theorem ct_VR_9 (Y : List kd) : eOK Y "GathersAllFaults$ValueReader" (89, 0, 3, y_TR_child, 2, ⟨"GathersAllFaults$Tree", "child", "(II)I"⟩, "", pr0) := ⟨yk_TR_child Y _ _ _ _ _, R3_, T3_, 7, rfl, rfl, ALL_in 715 (by decide +kernel) rfl, ALL_in 327 (by decide +kernel) rfl, ALL_in 328 (by decide +kernel) rfl, ALL_in 2 (by decide +kernel) rfl⟩
theorem ct_VR_10 (Y : List kd) : eOK Y "GathersAllFaults$ValueReader" (74, 0, 3, y_TR_link, 0, ⟨"GathersAllFaults$Tree", "link", "()V"⟩, "", pr0) := ⟨yk_TR_link Y _ _ _ _ _, R3_, T3_, 7, rfl, rfl, ALL_in 716 (by decide +kernel) rfl, ALL_in 717 (by decide +kernel) rfl, ALL_in 718 (by decide +kernel) rfl, ALL_in 2 (by decide +kernel) rfl⟩
theorem ct_VR_11 (Y : List kd) : eOK Y "GathersAllFaults$ValueReader" (22, 1, 0, y_GF_isDigit, 1, ⟨"GathersAllFaults", "isDigit", "(I)Z"⟩, "GathersAllFaults", pr_dig) := ⟨yk_GF_isDigit Y _ _ _ _ _, List.mem_of_getElem? (i := 13) (by decide +kernel), ALL_in 605 (by decide +kernel) rfl, ALL_in 1 (by decide +kernel) rfl⟩
theorem ct_VR_12 (Y : List kd) : eOK Y "GathersAllFaults$ValueReader" (37, 1, 0, y_GF_isName, 1, ⟨"GathersAllFaults", "isName", "(I)Z"⟩, "GathersAllFaults", pr_nam) := ⟨yk_GF_isName Y _ _ _ _ _, List.mem_of_getElem? (i := 14) (by decide +kernel), ALL_in 612 (by decide +kernel) rfl, ALL_in 1 (by decide +kernel) rfl⟩
theorem ct_VR_13 (Y : List kd) : eOK Y "GathersAllFaults$ValueReader" (63, 1, 0, y_GF_at, 2, ⟨"GathersAllFaults", "at", "([II)I"⟩, "GathersAllFaults", pr_at) := ⟨yk_GF_at Y _ _ _ _ _, List.mem_of_getElem? (i := 18) (by decide +kernel), ALL_in 307 (by decide +kernel) rfl, ALL_in 1 (by decide +kernel) rfl⟩
theorem ct_VR_14 (Y : List kd) : eOK Y "GathersAllFaults$ValueReader" (81, 1, 0, y_GF_set, 3, ⟨"GathersAllFaults", "set", "([III)V"⟩, "GathersAllFaults", pr_set) := ⟨yk_GF_set Y _ _ _ _ _, List.mem_of_getElem? (i := 19) (by decide +kernel), ALL_in 28 (by decide +kernel) rfl, ALL_in 1 (by decide +kernel) rfl⟩
theorem ct_VR_15 (Y : List kd) : eOK Y "GathersAllFaults$ValueReader" (85, 1, 0, y_GF_digitOf, 1, ⟨"GathersAllFaults", "digitOf", "(I)I"⟩, "GathersAllFaults", pr_dof) := ⟨yk_GF_digitOf Y _ _ _ _ _, List.mem_of_getElem? (i := 20) (by decide +kernel), ALL_in 661 (by decide +kernel) rfl, ALL_in 1 (by decide +kernel) rfl⟩
theorem ct_VR_ok (Y : List kd) : ∀ q ∈ ct_VR, eOK Y "GathersAllFaults$ValueReader" q := (List.forall_mem_cons.mpr ⟨ct_VR_0 Y, (List.forall_mem_cons.mpr ⟨ct_VR_1 Y, (List.forall_mem_cons.mpr ⟨ct_VR_2 Y, (List.forall_mem_cons.mpr ⟨ct_VR_3 Y, (List.forall_mem_cons.mpr ⟨ct_VR_4 Y, (List.forall_mem_cons.mpr ⟨ct_VR_5 Y, (List.forall_mem_cons.mpr ⟨ct_VR_6 Y, (List.forall_mem_cons.mpr ⟨ct_VR_7 Y, (List.forall_mem_cons.mpr ⟨ct_VR_8 Y, (List.forall_mem_cons.mpr ⟨ct_VR_9 Y, (List.forall_mem_cons.mpr ⟨ct_VR_10 Y, (List.forall_mem_cons.mpr ⟨ct_VR_11 Y, (List.forall_mem_cons.mpr ⟨ct_VR_12 Y, (List.forall_mem_cons.mpr ⟨ct_VR_13 Y, (List.forall_mem_cons.mpr ⟨ct_VR_14 Y, (List.forall_mem_cons.mpr ⟨ct_VR_15 Y, (fun _ h => absurd h List.not_mem_nil)⟩)⟩)⟩)⟩)⟩)⟩)⟩)⟩)⟩)⟩)⟩)⟩)⟩)⟩)⟩)⟩)
def ct_GF : List sE := [(121, 0, 1, y_GA_gather, 1, ⟨"GathersAllFaults$Gatherer", "gather", "(LGathersAllFaults$Tree;)I"⟩, "", pr0), (220, 7, 0, y_GF_at, 0, ⟨"", "", ""⟩, "", pr0), (60, 0, 5, y_GF_refuse, 1, ⟨"GathersAllFaults", "refuse", "(I)I"⟩, "", pr0), (102, 2, 0, y_GF_at, 2, ⟨"GathersAllFaults", "at", "([II)I"⟩, "", pr_at), (68, 2, 0, y_GF_set, 3, ⟨"GathersAllFaults", "set", "([III)V"⟩, "", pr_set), (125, 0, 1, y_GA_pathAt, 1, ⟨"GathersAllFaults$Gatherer", "pathAt", "(I)I"⟩, "", pr0), (128, 0, 1, y_GA_codeAt, 1, ⟨"GathersAllFaults$Gatherer", "codeAt", "(I)I"⟩, "", pr0), (131, 0, 1, y_GA_countCode, 1, ⟨"GathersAllFaults$Gatherer", "countCode", "(I)I"⟩, "", pr0), (135, 0, 1, y_GA_countBelow, 2, ⟨"GathersAllFaults$Gatherer", "countBelow", "(II)I"⟩, "", pr0), (145, 5, 0, y_GF_at, 0, ⟨"", "", ""⟩, "", pr0), (96, 0, 3, y_TR_find, 1, ⟨"GathersAllFaults$Tree", "find", "(I)I"⟩, "", pr0), (150, 0, 3, y_TR_alike, 2, ⟨"GathersAllFaults$Tree", "alike", "(II)Z"⟩, "", pr0), (79, 0, 3, y_TR_take, 1, ⟨"GathersAllFaults$Tree", "take", "(LGathersAllFaults$Tree;)V"⟩, "", pr0), (92, 0, 2, y_PL_take, 1, ⟨"GathersAllFaults$Plan", "take", "(LGathersAllFaults$Plan;)V"⟩, "", pr0), (168, 0, 5, y_GF_numbers, 0, ⟨"GathersAllFaults", "numbers", "()I"⟩, "", pr0), (205, 0, 5, y_GF_greatestPath, 0, ⟨"GathersAllFaults", "greatestPath", "()I"⟩, "", pr0), (217, 6, 0, y_GF_at, 0, ⟨"", "", ""⟩, "", pr0), (86, 3, 0, y_RD_read, 2, ⟨"GathersAllFaults$CheckReader", "read", "([II)I"⟩, "GathersAllFaults$Reader", pr0), (72, 3, 4, y_RD_read, 2, ⟨"GathersAllFaults$ValueReader", "read", "([II)I"⟩, "GathersAllFaults$Reader", pr0)]
theorem ct_GF_0 (Y : List kd) : eOK Y "GathersAllFaults" (121, 0, 1, y_GA_gather, 1, ⟨"GathersAllFaults$Gatherer", "gather", "(LGathersAllFaults$Tree;)I"⟩, "", pr0) := ⟨yk_GA_gather Y _ _ _ _ _, R1_, T1_, 5, rfl, rfl, ALL_in 294 (by decide +kernel) rfl, ALL_in 295 (by decide +kernel) rfl, ALL_in 296 (by decide +kernel) rfl, ALL_in 3 (by decide +kernel) rfl⟩
theorem ct_GF_1 (Y : List kd) : eOK Y "GathersAllFaults" (220, 7, 0, y_GF_at, 0, ⟨"", "", ""⟩, "", pr0) := ⟨ALL_in 379 (by decide +kernel) rfl, ALL_in 381 (by decide +kernel) rfl, ALL_in 380 (by decide +kernel) rfl, ALL_in 11 (by decide +kernel) rfl⟩
theorem ct_GF_2 (Y : List kd) : eOK Y "GathersAllFaults" (60, 0, 5, y_GF_refuse, 1, ⟨"GathersAllFaults", "refuse", "(I)I"⟩, "", pr0) := ⟨yk_GF_refuse Y _ _ _ _ _, R5_, T5_, 14, rfl, rfl, ALL_in 386 (by decide +kernel) rfl, ALL_in 388 (by decide +kernel) rfl, ALL_inP 12 (by decide +kernel) rfl, ALL_in 1 (by decide +kernel) rfl⟩
theorem ct_GF_3 (Y : List kd) : eOK Y "GathersAllFaults" (102, 2, 0, y_GF_at, 2, ⟨"GathersAllFaults", "at", "([II)I"⟩, "", pr_at) := ⟨yk_GF_at Y _ _ _ _ _, ALL_in 390 (by decide +kernel) rfl, ALL_in 307 (by decide +kernel) rfl, ALL_in 1 (by decide +kernel) rfl⟩
theorem ct_GF_4 (Y : List kd) : eOK Y "GathersAllFaults" (68, 2, 0, y_GF_set, 3, ⟨"GathersAllFaults", "set", "([III)V"⟩, "", pr_set) := ⟨yk_GF_set Y _ _ _ _ _, ALL_in 391 (by decide +kernel) rfl, ALL_in 28 (by decide +kernel) rfl, ALL_in 1 (by decide +kernel) rfl⟩
theorem ct_GF_5 (Y : List kd) : eOK Y "GathersAllFaults" (125, 0, 1, y_GA_pathAt, 1, ⟨"GathersAllFaults$Gatherer", "pathAt", "(I)I"⟩, "", pr0) := ⟨yk_GA_pathAt Y _ _ _ _ _, R1_, T1_, 5, rfl, rfl, ALL_in 392 (by decide +kernel) rfl, ALL_in 393 (by decide +kernel) rfl, ALL_in 394 (by decide +kernel) rfl, ALL_in 3 (by decide +kernel) rfl⟩
theorem ct_GF_6 (Y : List kd) : eOK Y "GathersAllFaults" (128, 0, 1, y_GA_codeAt, 1, ⟨"GathersAllFaults$Gatherer", "codeAt", "(I)I"⟩, "", pr0) := ⟨yk_GA_codeAt Y _ _ _ _ _, R1_, T1_, 5, rfl, rfl, ALL_in 396 (by decide +kernel) rfl, ALL_in 397 (by decide +kernel) rfl, ALL_in 398 (by decide +kernel) rfl, ALL_in 3 (by decide +kernel) rfl⟩
theorem ct_GF_7 (Y : List kd) : eOK Y "GathersAllFaults" (131, 0, 1, y_GA_countCode, 1, ⟨"GathersAllFaults$Gatherer", "countCode", "(I)I"⟩, "", pr0) := ⟨yk_GA_countCode Y _ _ _ _ _, R1_, T1_, 5, rfl, rfl, ALL_in 404 (by decide +kernel) rfl, ALL_in 405 (by decide +kernel) rfl, ALL_in 406 (by decide +kernel) rfl, ALL_in 3 (by decide +kernel) rfl⟩
theorem ct_GF_8 (Y : List kd) : eOK Y "GathersAllFaults" (135, 0, 1, y_GA_countBelow, 2, ⟨"GathersAllFaults$Gatherer", "countBelow", "(II)I"⟩, "", pr0) := ⟨yk_GA_countBelow Y _ _ _ _ _, R1_, T1_, 5, rfl, rfl, ALL_in 414 (by decide +kernel) rfl, ALL_in 345 (by decide +kernel) rfl, ALL_in 346 (by decide +kernel) rfl, ALL_in 3 (by decide +kernel) rfl⟩
theorem ct_GF_9 (Y : List kd) : eOK Y "GathersAllFaults" (145, 5, 0, y_GF_at, 0, ⟨"", "", ""⟩, "", pr0) := ⟨ALL_in 427 (by decide +kernel) rfl, ALL_in 428 (by decide +kernel) rfl, ALL_in 10 (by decide +kernel) rfl, ALL_in 429 (by decide +kernel) rfl⟩
theorem ct_GF_10 (Y : List kd) : eOK Y "GathersAllFaults" (96, 0, 3, y_TR_find, 1, ⟨"GathersAllFaults$Tree", "find", "(I)I"⟩, "", pr0) := ⟨yk_TR_find Y _ _ _ _ _, R3_, T3_, 7, rfl, rfl, ALL_in 438 (by decide +kernel) rfl, ALL_in 439 (by decide +kernel) rfl, ALL_in 440 (by decide +kernel) rfl, ALL_in 2 (by decide +kernel) rfl⟩
theorem ct_GF_11 (Y : List kd) : eOK Y "GathersAllFaults" (150, 0, 3, y_TR_alike, 2, ⟨"GathersAllFaults$Tree", "alike", "(II)Z"⟩, "", pr0) := ⟨yk_TR_alike Y _ _ _ _ _, R3_, T3_, 7, rfl, rfl, ALL_in 442 (by decide +kernel) rfl, ALL_in 356 (by decide +kernel) rfl, ALL_in 357 (by decide +kernel) rfl, ALL_in 2 (by decide +kernel) rfl⟩
theorem ct_GF_12 (Y : List kd) : eOK Y "GathersAllFaults" (79, 0, 3, y_TR_take, 1, ⟨"GathersAllFaults$Tree", "take", "(LGathersAllFaults$Tree;)V"⟩, "", pr0) := ⟨yk_TR_take Y _ _ _ _ _, R3_, T3_, 7, rfl, rfl, ALL_in 447 (by decide +kernel) rfl, ALL_in 448 (by decide +kernel) rfl, ALL_in 449 (by decide +kernel) rfl, ALL_in 2 (by decide +kernel) rfl⟩
theorem ct_GF_13 (Y : List kd) : eOK Y "GathersAllFaults" (92, 0, 2, y_PL_take, 1, ⟨"GathersAllFaults$Plan", "take", "(LGathersAllFaults$Plan;)V"⟩, "", pr0) := ⟨yk_PL_take Y _ _ _ _ _, R2_, T2_, 15, rfl, rfl, ALL_in 454 (by decide +kernel) rfl, ALL_in 455 (by decide +kernel) rfl, ALL_in 456 (by decide +kernel) rfl, ALL_in 4 (by decide +kernel) rfl⟩
theorem ct_GF_14 (Y : List kd) : eOK Y "GathersAllFaults" (168, 0, 5, y_GF_numbers, 0, ⟨"GathersAllFaults", "numbers", "()I"⟩, "", pr0) := ⟨yk_GF_numbers Y _ _ _ _ _, R5_, T5_, 14, rfl, rfl, ALL_in 467 (by decide +kernel) rfl, ALL_in 469 (by decide +kernel) rfl, ALL_inP 13 (by decide +kernel) rfl, ALL_in 1 (by decide +kernel) rfl⟩
theorem ct_GF_15 (Y : List kd) : eOK Y "GathersAllFaults" (205, 0, 5, y_GF_greatestPath, 0, ⟨"GathersAllFaults", "greatestPath", "()I"⟩, "", pr0) := ⟨yk_GF_greatestPath Y _ _ _ _ _, R5_, T5_, 14, rfl, rfl, ALL_in 471 (by decide +kernel) rfl, ALL_in 473 (by decide +kernel) rfl, ALL_inP 14 (by decide +kernel) rfl, ALL_in 1 (by decide +kernel) rfl⟩
theorem ct_GF_16 (Y : List kd) : eOK Y "GathersAllFaults" (217, 6, 0, y_GF_at, 0, ⟨"", "", ""⟩, "", pr0) := ⟨ALL_in 475 (by decide +kernel) rfl, ALL_in 476 (by decide +kernel) rfl, ALL_in 10 (by decide +kernel) rfl, ALL_in 477 (by decide +kernel) rfl⟩
theorem ct_GF_17 (Y : List kd) : eOK Y "GathersAllFaults" (86, 3, 0, y_RD_read, 2, ⟨"GathersAllFaults$CheckReader", "read", "([II)I"⟩, "GathersAllFaults$Reader", pr0) := ⟨yk_RD_read Y _ _ _ _ _, R0_, T0_, 11, rfl, rfl, ALL_in 556 (by decide +kernel) rfl, ALL_in 557 (by decide +kernel) rfl, ALL_in 559 (by decide +kernel) rfl, ALL_in 560 (by decide +kernel) rfl, ALL_in 5 (by decide +kernel) rfl, by decide +kernel, by decide +kernel⟩
theorem ct_GF_18 (Y : List kd) : eOK Y "GathersAllFaults" (72, 3, 4, y_RD_read, 2, ⟨"GathersAllFaults$ValueReader", "read", "([II)I"⟩, "GathersAllFaults$Reader", pr0) := ⟨yk_RD_read Y _ _ _ _ _, R4_, T4_, 6, rfl, rfl, ALL_in 724 (by decide +kernel) rfl, ALL_in 725 (by decide +kernel) rfl, ALL_in 726 (by decide +kernel) rfl, ALL_in 560 (by decide +kernel) rfl, ALL_in 5 (by decide +kernel) rfl, by decide +kernel, by decide +kernel⟩
theorem ct_GF_ok (Y : List kd) : ∀ q ∈ ct_GF, eOK Y "GathersAllFaults" q := (List.forall_mem_cons.mpr ⟨ct_GF_0 Y, (List.forall_mem_cons.mpr ⟨ct_GF_1 Y, (List.forall_mem_cons.mpr ⟨ct_GF_2 Y, (List.forall_mem_cons.mpr ⟨ct_GF_3 Y, (List.forall_mem_cons.mpr ⟨ct_GF_4 Y, (List.forall_mem_cons.mpr ⟨ct_GF_5 Y, (List.forall_mem_cons.mpr ⟨ct_GF_6 Y, (List.forall_mem_cons.mpr ⟨ct_GF_7 Y, (List.forall_mem_cons.mpr ⟨ct_GF_8 Y, (List.forall_mem_cons.mpr ⟨ct_GF_9 Y, (List.forall_mem_cons.mpr ⟨ct_GF_10 Y, (List.forall_mem_cons.mpr ⟨ct_GF_11 Y, (List.forall_mem_cons.mpr ⟨ct_GF_12 Y, (List.forall_mem_cons.mpr ⟨ct_GF_13 Y, (List.forall_mem_cons.mpr ⟨ct_GF_14 Y, (List.forall_mem_cons.mpr ⟨ct_GF_15 Y, (List.forall_mem_cons.mpr ⟨ct_GF_16 Y, (List.forall_mem_cons.mpr ⟨ct_GF_17 Y, (List.forall_mem_cons.mpr ⟨ct_GF_18 Y, (fun _ h => absurd h List.not_mem_nil)⟩)⟩)⟩)⟩)⟩)⟩)⟩)⟩)⟩)⟩)⟩)⟩)⟩)⟩)⟩)⟩)⟩)⟩)⟩)
def ct_RD : List sE := [(15, 3, 0, y_RD_stumble, 2, ⟨"GathersAllFaults$Reader", "stumble", "([II)I"⟩, "GathersAllFaults$Reader", pr0), (15, 3, 4, y_RD_stumble, 2, ⟨"GathersAllFaults$Reader", "stumble", "([II)I"⟩, "GathersAllFaults$Reader", pr0), (36, 4, 0, y_CR_goesOn, 1, ⟨"GathersAllFaults$Reader", "goesOn", "(I)Z"⟩, "GathersAllFaults$Reader", pr0), (36, 4, 4, y_VR_goesOn, 1, ⟨"GathersAllFaults$Reader", "goesOn", "(I)Z"⟩, "GathersAllFaults$Reader", pr0), (23, 4, 0, y_CR_build, 2, ⟨"GathersAllFaults$Reader", "build", "([II)I"⟩, "GathersAllFaults$Reader", pr0), (23, 4, 4, y_VR_build, 2, ⟨"GathersAllFaults$Reader", "build", "([II)I"⟩, "GathersAllFaults$Reader", pr0), (33, 1, 0, y_GF_at, 2, ⟨"GathersAllFaults", "at", "([II)I"⟩, "GathersAllFaults", pr_at), (40, 1, 0, y_GF_set, 3, ⟨"GathersAllFaults", "set", "([III)V"⟩, "GathersAllFaults", pr_set)]
theorem ct_RD_0 (Y : List kd) : eOK Y "GathersAllFaults$Reader" (15, 3, 0, y_RD_stumble, 2, ⟨"GathersAllFaults$Reader", "stumble", "([II)I"⟩, "GathersAllFaults$Reader", pr0) := ⟨yk_RD_stumble Y _ _ _ _ _, R0_, T0_, 11, rfl, rfl, ALL_in 562 (by decide +kernel) rfl, ALL_in 796 (by decide +kernel) rfl, List.mem_append_left _ (List.mem_of_getElem? (i := 1) rfl), ALL_in 564 (by decide +kernel) rfl, ALL_in 5 (by decide +kernel) rfl, by decide +kernel, by decide +kernel⟩
theorem ct_RD_1 (Y : List kd) : eOK Y "GathersAllFaults$Reader" (15, 3, 4, y_RD_stumble, 2, ⟨"GathersAllFaults$Reader", "stumble", "([II)I"⟩, "GathersAllFaults$Reader", pr0) := ⟨yk_RD_stumble Y _ _ _ _ _, R4_, T4_, 6, rfl, rfl, ALL_in 562 (by decide +kernel) rfl, ALL_in 796 (by decide +kernel) rfl, List.mem_append_left _ (List.mem_of_getElem? (i := 0) rfl), ALL_in 564 (by decide +kernel) rfl, ALL_in 5 (by decide +kernel) rfl, by decide +kernel, by decide +kernel⟩
theorem ct_RD_2 (Y : List kd) : eOK Y "GathersAllFaults$Reader" (36, 4, 0, y_CR_goesOn, 1, ⟨"GathersAllFaults$Reader", "goesOn", "(I)Z"⟩, "GathersAllFaults$Reader", pr0) := ⟨yk_CR_goesOn Y _ _ _ _ _, R0_, T0_, 11, rfl, ALL_in 567 (by decide +kernel) rfl, ALL_in 569 (by decide +kernel) rfl, ALL_in 570 (by decide +kernel) rfl, ALL_in 571 (by decide +kernel) rfl, ALL_in 7 (by decide +kernel) rfl, ⟨by decide +kernel, by decide +kernel⟩, List.mem_of_getElem? (i := 21) (by decide +kernel), by decide +kernel⟩
theorem ct_RD_3 (Y : List kd) : eOK Y "GathersAllFaults$Reader" (36, 4, 4, y_VR_goesOn, 1, ⟨"GathersAllFaults$Reader", "goesOn", "(I)Z"⟩, "GathersAllFaults$Reader", pr0) := ⟨yk_VR_goesOn Y _ _ _ _ _, R4_, T4_, 6, rfl, ALL_in 567 (by decide +kernel) rfl, ALL_in 569 (by decide +kernel) rfl, ALL_in 618 (by decide +kernel) rfl, ALL_in 619 (by decide +kernel) rfl, ALL_in 6 (by decide +kernel) rfl, ⟨by decide +kernel, by decide +kernel⟩, List.mem_of_getElem? (i := 21) (by decide +kernel), by decide +kernel⟩
theorem ct_RD_4 (Y : List kd) : eOK Y "GathersAllFaults$Reader" (23, 4, 0, y_CR_build, 2, ⟨"GathersAllFaults$Reader", "build", "([II)I"⟩, "GathersAllFaults$Reader", pr0) := ⟨yk_CR_build Y _ _ _ _ _, R0_, T0_, 11, rfl, ALL_in 644 (by decide +kernel) rfl, ALL_in 646 (by decide +kernel) rfl, ALL_in 647 (by decide +kernel) rfl, ALL_in 648 (by decide +kernel) rfl, ALL_in 7 (by decide +kernel) rfl, ⟨by decide +kernel, by decide +kernel⟩, List.mem_of_getElem? (i := 22) (by decide +kernel), by decide +kernel⟩
theorem ct_RD_5 (Y : List kd) : eOK Y "GathersAllFaults$Reader" (23, 4, 4, y_VR_build, 2, ⟨"GathersAllFaults$Reader", "build", "([II)I"⟩, "GathersAllFaults$Reader", pr0) := ⟨yk_VR_build Y _ _ _ _ _, R4_, T4_, 6, rfl, ALL_in 644 (by decide +kernel) rfl, ALL_in 646 (by decide +kernel) rfl, ALL_in 697 (by decide +kernel) rfl, ALL_in 698 (by decide +kernel) rfl, ALL_in 6 (by decide +kernel) rfl, ⟨by decide +kernel, by decide +kernel⟩, List.mem_of_getElem? (i := 22) (by decide +kernel), by decide +kernel⟩
theorem ct_RD_6 (Y : List kd) : eOK Y "GathersAllFaults$Reader" (33, 1, 0, y_GF_at, 2, ⟨"GathersAllFaults", "at", "([II)I"⟩, "GathersAllFaults", pr_at) := ⟨yk_GF_at Y _ _ _ _ _, List.mem_of_getElem? (i := 9) (by decide +kernel), ALL_in 307 (by decide +kernel) rfl, ALL_in 1 (by decide +kernel) rfl⟩
theorem ct_RD_7 (Y : List kd) : eOK Y "GathersAllFaults$Reader" (40, 1, 0, y_GF_set, 3, ⟨"GathersAllFaults", "set", "([III)V"⟩, "GathersAllFaults", pr_set) := ⟨yk_GF_set Y _ _ _ _ _, List.mem_of_getElem? (i := 10) (by decide +kernel), ALL_in 28 (by decide +kernel) rfl, ALL_in 1 (by decide +kernel) rfl⟩
theorem ct_RD_ok (Y : List kd) : ∀ q ∈ ct_RD, eOK Y "GathersAllFaults$Reader" q := (List.forall_mem_cons.mpr ⟨ct_RD_0 Y, (List.forall_mem_cons.mpr ⟨ct_RD_1 Y, (List.forall_mem_cons.mpr ⟨ct_RD_2 Y, (List.forall_mem_cons.mpr ⟨ct_RD_3 Y, (List.forall_mem_cons.mpr ⟨ct_RD_4 Y, (List.forall_mem_cons.mpr ⟨ct_RD_5 Y, (List.forall_mem_cons.mpr ⟨ct_RD_6 Y, (List.forall_mem_cons.mpr ⟨ct_RD_7 Y, (fun _ h => absurd h List.not_mem_nil)⟩)⟩)⟩)⟩)⟩)⟩)⟩)⟩)
end
section
/-! the stretches of the class -/
set_option maxRecDepth 20000 in
theorem s_GF_faults_0 (Y : List kd) (d : Nat) (t : Nat) (σ : sS) (Q : Option sv → sS → Prop)
    (h : CJ Y d y_GA_gather [sR (t + 15) (.inl 1), sR (t + 1) (.inl 3)] σ (rI fun r1 σ1 => Q (some (sI r1)) σ1)) :
    Jd Y (d + 1) y_GF_faults 0 [(0, sR t (.inl 5))] [] σ Q :=
  blk_ok (d := (d + 1)) (y := y_GF_faults) (ft := ft_GF) (ct := ct_GF) (tab := tab_GF_faults) ⟨tk_GF_faults, ft_GF_ok, ct_GF_ok Y⟩ [] 8 0 _ _ σ h
set_option maxRecDepth 20000 in
theorem s_GA_gather_0 (Y : List kd) (d : Nat) (t : Nat) (a1 : Nat) (σ : sS) (Q : Option sv → sS → Prop)
    (h : CJ Y d y_GA_look [sR t (.inl 1), sI 0, sI 0, sI 0] (up (up (up σ t 1 (nI a1)) t 3 0) t 4 0) (rN fun σ1 => Q (some (sI (σ1 t 3))) σ1)) :
    Jd Y (d + 1) y_GA_gather 0 [(0, sR t (.inl 1)), (1, sR a1 (.inl 3))] [] σ Q :=
  blk_ok (d := (d + 1)) (y := y_GA_gather) (ft := ft_GA) (ct := ct_GA) (tab := tab_GA_gather) ⟨tk_GA_gather, ft_GA_ok, ct_GA_ok Y⟩ [] 21 0 _ _ σ h
set_option maxRecDepth 20000 in
theorem s_GA_look_0 (Y : List kd) (d : Nat) (t : Nat) (v1 : Int32) (v2 : Int32) (v3 : Int32) (σ : sS) (Q : Option sv → sS → Prop)
    (h : CJ Y d y_GA_deciderOf [sR t (.inl 1), sI v1, sI v2] σ (rI fun r1 σ1 => (((128 : Int32) < v3 → Q none σ1) ∧ (¬ (128 : Int32) < v3 → ((¬ r1 < 0 → (((rd σ1 (t + 2) 24 r1) = 35 → CJ Y d y_GA_lookAtNumber [sR t (.inl 1), sI r1, sI v2] σ1 (rN fun σ9 => Q none σ9)) ∧ (¬ (rd σ1 (t + 2) 24 r1) = 35 → (((rd σ1 (t + 2) 24 r1) = 38 → CJ Y d y_GA_look [sR t (.inl 1), sI (r1 + 1), sI v2, sI (v3 + 1)] σ1 (rN fun σ7 => CJ Y d y_GA_lookForTwins [sR t (.inl 1), sI v2, sI (σ1 t 3)] σ7 (rN fun σ8 => Q none σ8))) ∧ (¬ (rd σ1 (t + 2) 24 r1) = 38 → (((rd σ1 (t + 2) 24 r1) = 47 → CJ Y d y_GA_look [sR t (.inl 1), sI (r1 + 1), sI v2, sI (v3 + 1)] σ1 (rN fun σ4 => ((¬ (σ1 t 3) < (σ4 t 3) → Q none σ4) ∧ ((σ1 t 3) < (σ4 t 3) → CJ Y d y_GA_look [sR t (.inl 1), sI ((r1 + 1) + (rd σ4 (t + 5) 24 (r1 + 1))), sI v2, sI (v3 + 1)] σ4 (rN fun σ5 => CJ Y d y_GA_keepFewer [sR t (.inl 1), sI (σ1 t 3), sI (σ4 t 3), sI (σ1 t 4), sI (σ4 t 4)] σ5 (rN fun σ6 => Q none σ6)))))) ∧ (¬ (rd σ1 (t + 2) 24 r1) = 47 → (((rd σ1 (t + 2) 24 r1) = 64 → CJ Y d y_GA_lookAtList [sR t (.inl 1), sI r1, sI v2, sI v3] σ1 (rN fun σ3 => Q none σ3)) ∧ (¬ (rd σ1 (t + 2) 24 r1) = 64 → (((rd σ1 (t + 2) 24 r1) = 123 → CJ Y d y_GA_lookAtRecord [sR t (.inl 1), sI r1, sI v2, sI v3] σ1 (rN fun σ2 => Q none σ2)) ∧ (¬ (rd σ1 (t + 2) 24 r1) = 123 → Q none σ1))))))))))) ∧ (r1 < 0 → Q none σ1)))))) :
    Jd Y (d + 1) y_GA_look 0 [(0, sR t (.inl 1)), (1, sI v1), (2, sI v2), (3, sI v3)] [] σ Q :=
  blk_ok (d := (d + 1)) (y := y_GA_look) (ft := ft_GA) (ct := ct_GA) (tab := tab_GA_look) ⟨tk_GA_look, ft_GA_ok, ct_GA_ok Y⟩ [] 100 0 _ _ σ h
set_option maxRecDepth 20000 in
theorem s_GA_deciderOf_0 (Y : List kd) (d : Nat) (t : Nat) (v1 : Int32) (v2 : Int32) (σ : sS) (Q : Option sv → sS → Prop)
    (h : Jd Y (d + 1) y_GA_deciderOf 5 [(0, sR t (.inl 1)), (2, sI v2), (3, sI v1), (4, sI 0)] [] σ Q) :
    Jd Y (d + 1) y_GA_deciderOf 0 [(0, sR t (.inl 1)), (1, sI v1), (2, sI v2)] [] σ Q :=
  blk_ok (d := (d + 1)) (y := y_GA_deciderOf) (ft := ft_GA) (ct := ct_GA) (tab := tab_GA_deciderOf) ⟨tk_GA_deciderOf, ft_GA_ok, ct_GA_ok Y⟩ [(5, [0, 2, 3, 4]), (53, [0, 2, 3, 4, 5]), (99, [0, 2, 3, 4])] 55 0 _ _ σ h
set_option maxRecDepth 20000 in
theorem s_GA_deciderOf_5 (Y : List kd) (d : Nat) (t : Nat) (v2 : Int32) (v3 : Int32) (v4 : Int32) (σ : sS) (Q : Option sv → sS → Prop)
    (h : ((¬ v4 < 48 → Q (some (sI (-1))) σ) ∧ (v4 < 48 → ((¬ (rd σ (t + 2) 24 v3) = 94 → (((rd σ (t + 2) 24 v3) = 33 → Jd Y (d + 1) y_GA_deciderOf 53 [(0, sR t (.inl 1)), (2, sI v2), (3, sI v3), (4, sI v4), (5, sI (rd σ (t + 2) 24 v3))] [] σ Q) ∧ (¬ (rd σ (t + 2) 24 v3) = 33 → (((rd σ (t + 2) 24 v3) = 126 → Jd Y (d + 1) y_GA_deciderOf 53 [(0, sR t (.inl 1)), (2, sI v2), (3, sI v3), (4, sI v4), (5, sI (rd σ (t + 2) 24 v3))] [] σ Q) ∧ (¬ (rd σ (t + 2) 24 v3) = 126 → Q (some (sI v3)) σ))))) ∧ ((rd σ (t + 2) 24 v3) = 94 → Jd Y (d + 1) y_GA_deciderOf 99 [(0, sR t (.inl 1)), (2, sI v2), (3, sI 0), (4, sI v4)] [] σ Q))))) :
    Jd Y (d + 1) y_GA_deciderOf 5 [(0, sR t (.inl 1)), (2, sI v2), (3, sI v3), (4, sI v4)] [] σ Q :=
  blk_ok (d := (d + 1)) (y := y_GA_deciderOf) (ft := ft_GA) (ct := ct_GA) (tab := tab_GA_deciderOf) ⟨tk_GA_deciderOf, ft_GA_ok, ct_GA_ok Y⟩ [(5, [0, 2, 3, 4]), (53, [0, 2, 3, 4, 5]), (99, [0, 2, 3, 4])] 55 5 _ _ σ h
set_option maxRecDepth 20000 in
theorem s_GA_deciderOf_53 (Y : List kd) (d : Nat) (t : Nat) (v2 : Int32) (v3 : Int32) (v4 : Int32) (v5 : Int32) (σ : sS) (Q : Option sv → sS → Prop)
    (h : (Y[(σ t 1).toNatClampNeg]? = some (.inl 3) ∧ (((rd σ (((σ t 1).toNatClampNeg) + 1) 20 v2) = 1 → ((¬ v5 = 33 → Q (some (sI (-1))) σ) ∧ (v5 = 33 → (Y[(σ t 1).toNatClampNeg]? = some (.inl 3) ∧ CJ Y d y_GA_add [sR t (.inl 1), sI (rd σ (((σ t 1).toNatClampNeg) + 6) 20 v2), sI 4] σ (rN fun σ1 => Q (some (sI (-1))) σ1))))) ∧ (¬ (rd σ (((σ t 1).toNatClampNeg) + 1) 20 v2) = 1 → Jd Y (d + 1) y_GA_deciderOf 99 [(0, sR t (.inl 1)), (2, sI v2), (3, sI (v3 + 1)), (4, sI v4)] [] σ Q)))) :
    Jd Y (d + 1) y_GA_deciderOf 53 [(0, sR t (.inl 1)), (2, sI v2), (3, sI v3), (4, sI v4), (5, sI v5)] [] σ Q :=
  blk_ok (d := (d + 1)) (y := y_GA_deciderOf) (ft := ft_GA) (ct := ct_GA) (tab := tab_GA_deciderOf) ⟨tk_GA_deciderOf, ft_GA_ok, ct_GA_ok Y⟩ [(5, [0, 2, 3, 4]), (53, [0, 2, 3, 4, 5]), (99, [0, 2, 3, 4])] 55 53 _ _ σ h
set_option maxRecDepth 20000 in
theorem s_GA_deciderOf_99 (Y : List kd) (d : Nat) (t : Nat) (v2 : Int32) (v3 : Int32) (v4 : Int32) (σ : sS) (Q : Option sv → sS → Prop)
    (h : Jd Y (d + 1) y_GA_deciderOf 5 [(0, sR t (.inl 1)), (2, sI v2), (3, sI v3), (4, sI (v4 + 1))] [] σ Q) :
    Jd Y (d + 1) y_GA_deciderOf 99 [(0, sR t (.inl 1)), (2, sI v2), (3, sI v3), (4, sI v4)] [] σ Q :=
  blk_ok (d := (d + 1)) (y := y_GA_deciderOf) (ft := ft_GA) (ct := ct_GA) (tab := tab_GA_deciderOf) ⟨tk_GA_deciderOf, ft_GA_ok, ct_GA_ok Y⟩ [(5, [0, 2, 3, 4]), (53, [0, 2, 3, 4, 5]), (99, [0, 2, 3, 4])] 55 99 _ _ σ h
set_option maxRecDepth 20000 in
theorem s_GA_add_0 (Y : List kd) (d : Nat) (t : Nat) (v1 : Int32) (v2 : Int32) (σ : sS) (Q : Option sv → sS → Prop)
    (h : ((¬ (σ t 3) < 6144 → Q none σ) ∧ ((σ t 3) < 6144 → Q none (up (wr σ (t + 22) 6144 (σ t 3) ((100 * v1) + v2)) t 3 (((wr σ (t + 22) 6144 (σ t 3) ((100 * v1) + v2)) t 3) + 1))))) :
    Jd Y (d + 1) y_GA_add 0 [(0, sR t (.inl 1)), (1, sI v1), (2, sI v2)] [] σ Q :=
  blk_ok (d := (d + 1)) (y := y_GA_add) (ft := ft_GA) (ct := ct_GA) (tab := tab_GA_add) ⟨tk_GA_add, ft_GA_ok, ct_GA_ok Y⟩ [] 23 0 _ _ σ h
set_option maxRecDepth 20000 in
theorem s_GA_lookAtNumber_0 (Y : List kd) (d : Nat) (t : Nat) (v1 : Int32) (v2 : Int32) (σ : sS) (Q : Option sv → sS → Prop)
    (h : (Y[(σ t 1).toNatClampNeg]? = some (.inl 3) ∧ (Y[(σ t 1).toNatClampNeg]? = some (.inl 3) ∧ (Y[(σ t 1).toNatClampNeg]? = some (.inl 3) ∧ (((rd σ (((σ t 1).toNatClampNeg) + 1) 20 v2) = 0 → ((¬ (rd σ (((σ t 1).toNatClampNeg) + 2) 20 v2) < (rd σ (t + 3) 24 v1) → ((¬ (rd σ (t + 4) 24 v1) < (rd σ (((σ t 1).toNatClampNeg) + 2) 20 v2) → Q none σ) ∧ ((rd σ (t + 4) 24 v1) < (rd σ (((σ t 1).toNatClampNeg) + 2) 20 v2) → CJ Y d y_GA_add [sR t (.inl 1), sI (rd σ (((σ t 1).toNatClampNeg) + 6) 20 v2), sI 3] σ (rN fun σ1 => Q none σ1)))) ∧ ((rd σ (((σ t 1).toNatClampNeg) + 2) 20 v2) < (rd σ (t + 3) 24 v1) → CJ Y d y_GA_add [sR t (.inl 1), sI (rd σ (((σ t 1).toNatClampNeg) + 6) 20 v2), sI 2] σ (rN fun σ2 => Q none σ2)))) ∧ (¬ (rd σ (((σ t 1).toNatClampNeg) + 1) 20 v2) = 0 → CJ Y d y_GA_add [sR t (.inl 1), sI (rd σ (((σ t 1).toNatClampNeg) + 6) 20 v2), sI 1] σ (rN fun σ3 => Q none σ3))))))) :
    Jd Y (d + 1) y_GA_lookAtNumber 0 [(0, sR t (.inl 1)), (1, sI v1), (2, sI v2)] [] σ Q :=
  blk_ok (d := (d + 1)) (y := y_GA_lookAtNumber) (ft := ft_GA) (ct := ct_GA) (tab := tab_GA_lookAtNumber) ⟨tk_GA_lookAtNumber, ft_GA_ok, ct_GA_ok Y⟩ [] 49 0 _ _ σ h
set_option maxRecDepth 20000 in
theorem s_GA_lookAtRecord_0 (Y : List kd) (d : Nat) (t : Nat) (v1 : Int32) (v2 : Int32) (v3 : Int32) (σ : sS) (Q : Option sv → sS → Prop)
    (h : (Y[(σ t 1).toNatClampNeg]? = some (.inl 3) ∧ (((rd σ (((σ t 1).toNatClampNeg) + 1) 20 v2) = 2 → CJ Y d y_GA_lookAtFields [sR t (.inl 1), sI v1, sI v2, sI v3] σ (rN fun σ1 => CJ Y d y_GA_lookForStrangers [sR t (.inl 1), sI v1, sI v2] σ1 (rN fun σ2 => Jd Y (d + 1) y_GA_lookAtRecord 80 [(0, sR t (.inl 1)), (2, sI v2), (4, sI (σ t 3)), (5, sI (rd σ2 (t + 10) 24 v1)), (6, sI (rd σ2 (t + 11) 24 v1)), (7, sI 0)] [] σ2 Q))) ∧ (¬ (rd σ (((σ t 1).toNatClampNeg) + 1) 20 v2) = 2 → (Y[(σ t 1).toNatClampNeg]? = some (.inl 3) ∧ CJ Y d y_GA_add [sR t (.inl 1), sI (rd σ (((σ t 1).toNatClampNeg) + 6) 20 v2), sI 5] σ (rN fun σ3 => Q none σ3)))))) :
    Jd Y (d + 1) y_GA_lookAtRecord 0 [(0, sR t (.inl 1)), (1, sI v1), (2, sI v2), (3, sI v3)] [] σ Q :=
  blk_ok (d := (d + 1)) (y := y_GA_lookAtRecord) (ft := ft_GA) (ct := ct_GA) (tab := tab_GA_lookAtRecord) ⟨tk_GA_lookAtRecord, ft_GA_ok, ct_GA_ok Y⟩ [(80, [0, 2, 4, 5, 6, 7])] 57 0 _ _ σ h
set_option maxRecDepth 20000 in
theorem s_GA_lookAtRecord_80 (Y : List kd) (d : Nat) (t : Nat) (v2 : Int32) (v4 : Int32) (v5 : Int32) (v6 : Int32) (v7 : Int32) (σ : sS) (Q : Option sv → sS → Prop)
    (h : ((¬ v7 < v6 → Q none σ) ∧ (v7 < v6 → CJ Y d y_GA_lookAtDependent [sR t (.inl 1), sI (v5 + v7), sI v2, sI v4] σ (rN fun σ1 => Jd Y (d + 1) y_GA_lookAtRecord 80 [(0, sR t (.inl 1)), (2, sI v2), (4, sI v4), (5, sI v5), (6, sI v6), (7, sI (v7 + 1))] [] σ1 Q)))) :
    Jd Y (d + 1) y_GA_lookAtRecord 80 [(0, sR t (.inl 1)), (2, sI v2), (4, sI v4), (5, sI v5), (6, sI v6), (7, sI v7)] [] σ Q :=
  blk_ok (d := (d + 1)) (y := y_GA_lookAtRecord) (ft := ft_GA) (ct := ct_GA) (tab := tab_GA_lookAtRecord) ⟨tk_GA_lookAtRecord, ft_GA_ok, ct_GA_ok Y⟩ [(80, [0, 2, 4, 5, 6, 7])] 57 80 _ _ σ h
set_option maxRecDepth 20000 in
theorem s_GA_lookAtFields_0 (Y : List kd) (d : Nat) (t : Nat) (v1 : Int32) (v2 : Int32) (v3 : Int32) (σ : sS) (Q : Option sv → sS → Prop)
    (h : Jd Y (d + 1) y_GA_lookAtFields 21 [(0, sR t (.inl 1)), (2, sI v2), (3, sI v3), (4, sI (rd σ (t + 8) 24 v1)), (5, sI (v1 + 1)), (6, sI 0)] [] σ Q) :
    Jd Y (d + 1) y_GA_lookAtFields 0 [(0, sR t (.inl 1)), (1, sI v1), (2, sI v2), (3, sI v3)] [] σ Q :=
  blk_ok (d := (d + 1)) (y := y_GA_lookAtFields) (ft := ft_GA) (ct := ct_GA) (tab := tab_GA_lookAtFields) ⟨tk_GA_lookAtFields, ft_GA_ok, ct_GA_ok Y⟩ [(21, [0, 2, 3, 4, 5, 6]), (111, [0, 2, 3, 4, 5, 6])] 68 0 _ _ σ h
set_option maxRecDepth 20000 in
theorem s_GA_lookAtFields_21 (Y : List kd) (d : Nat) (t : Nat) (v2 : Int32) (v3 : Int32) (v4 : Int32) (v5 : Int32) (v6 : Int32) (σ : sS) (Q : Option sv → sS → Prop)
    (h : ((¬ v6 < v4 → Q none σ) ∧ (v6 < v4 → (Y[(σ t 1).toNatClampNeg]? = some (.inl 3) ∧ CJ Y d y_TR_child [sR ((σ t 1).toNatClampNeg) (.inl 3), sI v2, sI (rd σ (t + 6) 24 v5)] σ (rI fun r1 σ1 => ((r1 < 0 → ((¬ (rd σ1 (t + 7) 24 v5) = 0 → Jd Y (d + 1) y_GA_lookAtFields 111 [(0, sR t (.inl 1)), (2, sI v2), (3, sI v3), (4, sI v4), (5, sI v5), (6, sI v6)] [] σ1 Q) ∧ ((rd σ1 (t + 7) 24 v5) = 0 → (Y[(σ1 t 1).toNatClampNeg]? = some (.inl 3) ∧ CJ Y d y_GA_add [sR t (.inl 1), sI ((10 * (rd σ1 (((σ1 t 1).toNatClampNeg) + 6) 20 v2)) + (rd σ (t + 6) 24 v5)), sI 6] σ1 (rN fun σ2 => Jd Y (d + 1) y_GA_lookAtFields 111 [(0, sR t (.inl 1)), (2, sI v2), (3, sI v3), (4, sI v4), (5, sI v5), (6, sI v6)] [] σ2 Q))))) ∧ (¬ r1 < 0 → CJ Y d y_GA_look [sR t (.inl 1), sI v5, sI r1, sI (v3 + 1)] σ1 (rN fun σ3 => Jd Y (d + 1) y_GA_lookAtFields 111 [(0, sR t (.inl 1)), (2, sI v2), (3, sI v3), (4, sI v4), (5, sI v5), (6, sI v6)] [] σ3 Q)))))))) :
    Jd Y (d + 1) y_GA_lookAtFields 21 [(0, sR t (.inl 1)), (2, sI v2), (3, sI v3), (4, sI v4), (5, sI v5), (6, sI v6)] [] σ Q :=
  blk_ok (d := (d + 1)) (y := y_GA_lookAtFields) (ft := ft_GA) (ct := ct_GA) (tab := tab_GA_lookAtFields) ⟨tk_GA_lookAtFields, ft_GA_ok, ct_GA_ok Y⟩ [(21, [0, 2, 3, 4, 5, 6]), (111, [0, 2, 3, 4, 5, 6])] 68 21 _ _ σ h
set_option maxRecDepth 20000 in
theorem s_GA_lookAtFields_111 (Y : List kd) (d : Nat) (t : Nat) (v2 : Int32) (v3 : Int32) (v4 : Int32) (v5 : Int32) (v6 : Int32) (σ : sS) (Q : Option sv → sS → Prop)
    (h : Jd Y (d + 1) y_GA_lookAtFields 21 [(0, sR t (.inl 1)), (2, sI v2), (3, sI v3), (4, sI v4), (5, sI (v5 + (rd σ (t + 5) 24 v5))), (6, sI (v6 + 1))] [] σ Q) :
    Jd Y (d + 1) y_GA_lookAtFields 111 [(0, sR t (.inl 1)), (2, sI v2), (3, sI v3), (4, sI v4), (5, sI v5), (6, sI v6)] [] σ Q :=
  blk_ok (d := (d + 1)) (y := y_GA_lookAtFields) (ft := ft_GA) (ct := ct_GA) (tab := tab_GA_lookAtFields) ⟨tk_GA_lookAtFields, ft_GA_ok, ct_GA_ok Y⟩ [(21, [0, 2, 3, 4, 5, 6]), (111, [0, 2, 3, 4, 5, 6])] 68 111 _ _ σ h
set_option maxRecDepth 20000 in
theorem s_TR_child_0 (Y : List kd) (d : Nat) (t : Nat) (v1 : Int32) (v2 : Int32) (σ : sS) (Q : Option sv → sS → Prop)
    (h : Jd Y (d + 1) y_TR_child 17 [(0, sR t (.inl 3)), (2, sI v2), (3, sI (rd σ (t + 3) 20 v1)), (4, sI (v1 + 1)), (5, sI 0)] [] σ Q) :
    Jd Y (d + 1) y_TR_child 0 [(0, sR t (.inl 3)), (1, sI v1), (2, sI v2)] [] σ Q :=
  blk_ok (d := (d + 1)) (y := y_TR_child) (ft := ft_TR) (ct := ct_TR) (tab := tab_TR_child) ⟨tk_TR_child, ft_TR_ok, ct_TR_ok Y⟩ [(17, [0, 2, 3, 4, 5])] 35 0 _ _ σ h
set_option maxRecDepth 20000 in
theorem s_TR_child_17 (Y : List kd) (d : Nat) (t : Nat) (v2 : Int32) (v3 : Int32) (v4 : Int32) (v5 : Int32) (σ : sS) (Q : Option sv → sS → Prop)
    (h : ((¬ v5 < v3 → Q (some (sI (-1))) σ) ∧ (v5 < v3 → ((¬ (rd σ (t + 4) 20 v4) = v2 → Jd Y (d + 1) y_TR_child 17 [(0, sR t (.inl 3)), (2, sI v2), (3, sI v3), (4, sI (v4 + (rd σ (t + 5) 20 v4))), (5, sI (v5 + 1))] [] σ Q) ∧ ((rd σ (t + 4) 20 v4) = v2 → Q (some (sI v4)) σ))))) :
    Jd Y (d + 1) y_TR_child 17 [(0, sR t (.inl 3)), (2, sI v2), (3, sI v3), (4, sI v4), (5, sI v5)] [] σ Q :=
  blk_ok (d := (d + 1)) (y := y_TR_child) (ft := ft_TR) (ct := ct_TR) (tab := tab_TR_child) ⟨tk_TR_child, ft_TR_ok, ct_TR_ok Y⟩ [(17, [0, 2, 3, 4, 5])] 35 17 _ _ σ h
set_option maxRecDepth 20000 in
theorem s_GA_lookForStrangers_0 (Y : List kd) (d : Nat) (t : Nat) (v1 : Int32) (v2 : Int32) (σ : sS) (Q : Option sv → sS → Prop)
    (h : (Y[(σ t 1).toNatClampNeg]? = some (.inl 3) ∧ Jd Y (d + 1) y_GA_lookForStrangers 20 [(0, sR t (.inl 1)), (1, sI v1), (3, sI (rd σ (((σ t 1).toNatClampNeg) + 3) 20 v2)), (4, sI (v2 + 1)), (5, sI 0)] [] σ Q)) :
    Jd Y (d + 1) y_GA_lookForStrangers 0 [(0, sR t (.inl 1)), (1, sI v1), (2, sI v2)] [] σ Q :=
  blk_ok (d := (d + 1)) (y := y_GA_lookForStrangers) (ft := ft_GA) (ct := ct_GA) (tab := tab_GA_lookForStrangers) ⟨tk_GA_lookForStrangers, ft_GA_ok, ct_GA_ok Y⟩ [(20, [0, 1, 3, 4, 5]), (67, [0, 1, 3, 4, 5])] 46 0 _ _ σ h
set_option maxRecDepth 20000 in
theorem s_GA_lookForStrangers_20 (Y : List kd) (d : Nat) (t : Nat) (v1 : Int32) (v3 : Int32) (v4 : Int32) (v5 : Int32) (σ : sS) (Q : Option sv → sS → Prop)
    (h : ((¬ v5 < v3 → Q none σ) ∧ (v5 < v3 → (Y[(σ t 1).toNatClampNeg]? = some (.inl 3) ∧ CJ Y d y_PL_knows [sR (t + 1) (.inl 2), sI v1, sI (rd σ (((σ t 1).toNatClampNeg) + 4) 20 v4)] σ (rI fun r1 σ1 => ((¬ r1 = 0 → Jd Y (d + 1) y_GA_lookForStrangers 67 [(0, sR t (.inl 1)), (1, sI v1), (3, sI v3), (4, sI v4), (5, sI v5)] [] σ1 Q) ∧ (r1 = 0 → (Y[(σ1 t 1).toNatClampNeg]? = some (.inl 3) ∧ CJ Y d y_GA_add [sR t (.inl 1), sI (rd σ1 (((σ1 t 1).toNatClampNeg) + 6) 20 v4), sI 7] σ1 (rN fun σ2 => Jd Y (d + 1) y_GA_lookForStrangers 67 [(0, sR t (.inl 1)), (1, sI v1), (3, sI v3), (4, sI v4), (5, sI v5)] [] σ2 Q))))))))) :
    Jd Y (d + 1) y_GA_lookForStrangers 20 [(0, sR t (.inl 1)), (1, sI v1), (3, sI v3), (4, sI v4), (5, sI v5)] [] σ Q :=
  blk_ok (d := (d + 1)) (y := y_GA_lookForStrangers) (ft := ft_GA) (ct := ct_GA) (tab := tab_GA_lookForStrangers) ⟨tk_GA_lookForStrangers, ft_GA_ok, ct_GA_ok Y⟩ [(20, [0, 1, 3, 4, 5]), (67, [0, 1, 3, 4, 5])] 46 20 _ _ σ h
set_option maxRecDepth 20000 in
theorem s_GA_lookForStrangers_67 (Y : List kd) (d : Nat) (t : Nat) (v1 : Int32) (v3 : Int32) (v4 : Int32) (v5 : Int32) (σ : sS) (Q : Option sv → sS → Prop)
    (h : (Y[(σ t 1).toNatClampNeg]? = some (.inl 3) ∧ Jd Y (d + 1) y_GA_lookForStrangers 20 [(0, sR t (.inl 1)), (1, sI v1), (3, sI v3), (4, sI (v4 + (rd σ (((σ t 1).toNatClampNeg) + 5) 20 v4))), (5, sI (v5 + 1))] [] σ Q)) :
    Jd Y (d + 1) y_GA_lookForStrangers 67 [(0, sR t (.inl 1)), (1, sI v1), (3, sI v3), (4, sI v4), (5, sI v5)] [] σ Q :=
  blk_ok (d := (d + 1)) (y := y_GA_lookForStrangers) (ft := ft_GA) (ct := ct_GA) (tab := tab_GA_lookForStrangers) ⟨tk_GA_lookForStrangers, ft_GA_ok, ct_GA_ok Y⟩ [(20, [0, 1, 3, 4, 5]), (67, [0, 1, 3, 4, 5])] 46 67 _ _ σ h
set_option maxRecDepth 20000 in
theorem s_PL_knows_0 (Y : List kd) (d : Nat) (t : Nat) (v1 : Int32) (v2 : Int32) (σ : sS) (Q : Option sv → sS → Prop)
    (h : ((¬ (((rd σ (t + 8) 24 v1) >>> (v2 &&& 31)) &&& 1) = 1 → (((0 : Int32) = 0 ∨ (0 : Int32) = 1) ∧ Q (some (sI 0)) σ)) ∧ ((((rd σ (t + 8) 24 v1) >>> (v2 &&& 31)) &&& 1) = 1 → (((1 : Int32) = 0 ∨ (1 : Int32) = 1) ∧ Q (some (sI 1)) σ)))) :
    Jd Y (d + 1) y_PL_knows 0 [(0, sR t (.inl 2)), (1, sI v1), (2, sI v2)] [] σ Q :=
  blk_ok (d := (d + 1)) (y := y_PL_knows) (ft := ft_PL) (ct := ct_PL) (tab := tab_PL_knows) ⟨tk_PL_knows, ft_PL_ok, ct_PL_ok Y⟩ [] 16 0 _ _ σ h
set_option maxRecDepth 20000 in
theorem s_GA_lookAtDependent_0 (Y : List kd) (d : Nat) (t : Nat) (v1 : Int32) (v2 : Int32) (v3 : Int32) (σ : sS) (Q : Option sv → sS → Prop)
    (h : (Y[(σ t 1).toNatClampNeg]? = some (.inl 3) ∧ CJ Y d y_TR_child [sR ((σ t 1).toNatClampNeg) (.inl 3), sI v2, sI (rd σ (t + 13) 32 v1)] σ (rI fun r1 σ1 => (Y[(σ1 t 1).toNatClampNeg]? = some (.inl 3) ∧ CJ Y d y_TR_child [sR ((σ1 t 1).toNatClampNeg) (.inl 3), sI v2, sI (rd σ1 (t + 14) 32 v1)] σ1 (rI fun r2 σ2 => ((r1 < 0 → Jd Y (d + 1) y_GA_lookAtDependent 92 [(0, sR t (.inl 1))] [] σ2 Q) ∧ (¬ r1 < 0 → ((r2 < 0 → Jd Y (d + 1) y_GA_lookAtDependent 92 [(0, sR t (.inl 1))] [] σ2 Q) ∧ (¬ r2 < 0 → (Y[(σ2 t 1).toNatClampNeg]? = some (.inl 3) ∧ CJ Y d y_GA_countBelow [sR t (.inl 1), sI (rd σ2 (((σ2 t 1).toNatClampNeg) + 6) 20 r1), sI v3] σ2 (rI fun r3 σ3 => (((0 : Int32) < r3 → Jd Y (d + 1) y_GA_lookAtDependent 92 [(0, sR t (.inl 1))] [] σ3 Q) ∧ (¬ (0 : Int32) < r3 → (Y[(σ3 t 1).toNatClampNeg]? = some (.inl 3) ∧ CJ Y d y_GA_countBelow [sR t (.inl 1), sI (rd σ3 (((σ3 t 1).toNatClampNeg) + 6) 20 r2), sI v3] σ3 (rI fun r4 σ4 => ((¬ (0 : Int32) < r4 → ((¬ (rd σ4 (t + 12) 32 v1) = 60 → (Y[(σ4 t 1).toNatClampNeg]? = some (.inl 3) ∧ CJ Y d y_TR_alike [sR ((σ4 t 1).toNatClampNeg) (.inl 3), sI r1, sI r2] σ4 (rI fun r5 σ5 => ((¬ r5 = 0 → Q none σ5) ∧ (r5 = 0 → (Y[(σ5 t 1).toNatClampNeg]? = some (.inl 3) ∧ CJ Y d y_GA_add [sR t (.inl 1), sI (rd σ5 (((σ5 t 1).toNatClampNeg) + 6) 20 r2), sI 9] σ5 (rN fun σ6 => Q none σ6))))))) ∧ ((rd σ4 (t + 12) 32 v1) = 60 → (Y[(σ4 t 1).toNatClampNeg]? = some (.inl 3) ∧ CJ Y d y_TR_less [sR ((σ4 t 1).toNatClampNeg) (.inl 3), sI r1, sI r2] σ4 (rI fun r7 σ7 => ((¬ r7 = 0 → Q none σ7) ∧ (r7 = 0 → (Y[(σ7 t 1).toNatClampNeg]? = some (.inl 3) ∧ CJ Y d y_GA_add [sR t (.inl 1), sI (rd σ7 (((σ7 t 1).toNatClampNeg) + 6) 20 r2), sI 8] σ7 (rN fun σ8 => Q none σ8))))))))) ∧ ((0 : Int32) < r4 → Jd Y (d + 1) y_GA_lookAtDependent 92 [(0, sR t (.inl 1))] [] σ4 Q))))))))))))))))) :
    Jd Y (d + 1) y_GA_lookAtDependent 0 [(0, sR t (.inl 1)), (1, sI v1), (2, sI v2), (3, sI v3)] [] σ Q :=
  blk_ok (d := (d + 1)) (y := y_GA_lookAtDependent) (ft := ft_GA) (ct := ct_GA) (tab := tab_GA_lookAtDependent) ⟨tk_GA_lookAtDependent, ft_GA_ok, ct_GA_ok Y⟩ [(92, [0])] 88 0 _ _ σ h
set_option maxRecDepth 20000 in
theorem s_GA_lookAtDependent_92 (Y : List kd) (d : Nat) (t : Nat) (σ : sS) (Q : Option sv → sS → Prop)
    (h : Q none (up σ t 4 ((σ t 4) + 1))) :
    Jd Y (d + 1) y_GA_lookAtDependent 92 [(0, sR t (.inl 1))] [] σ Q :=
  blk_ok (d := (d + 1)) (y := y_GA_lookAtDependent) (ft := ft_GA) (ct := ct_GA) (tab := tab_GA_lookAtDependent) ⟨tk_GA_lookAtDependent, ft_GA_ok, ct_GA_ok Y⟩ [(92, [0])] 88 92 _ _ σ h
set_option maxRecDepth 20000 in
theorem s_GA_countBelow_0 (Y : List kd) (d : Nat) (t : Nat) (v1 : Int32) (v2 : Int32) (σ : sS) (Q : Option sv → sS → Prop)
    (h : Jd Y (d + 1) y_GA_countBelow 5 [(0, sR t (.inl 1)), (1, sI v1), (3, sI 0), (4, sI v2)] [] σ Q) :
    Jd Y (d + 1) y_GA_countBelow 0 [(0, sR t (.inl 1)), (1, sI v1), (2, sI v2)] [] σ Q :=
  blk_ok (d := (d + 1)) (y := y_GA_countBelow) (ft := ft_GA) (ct := ct_GA) (tab := tab_GA_countBelow) ⟨tk_GA_countBelow, ft_GA_ok, ct_GA_ok Y⟩ [(5, [0, 1, 3, 4]), (36, [0, 1, 3, 4])] 24 0 _ _ σ h
set_option maxRecDepth 20000 in
theorem s_GA_countBelow_5 (Y : List kd) (d : Nat) (t : Nat) (v1 : Int32) (v3 : Int32) (v4 : Int32) (σ : sS) (Q : Option sv → sS → Prop)
    (h : ((¬ v4 < (σ t 3) → Q (some (sI v3)) σ) ∧ (v4 < (σ t 3) → (¬ (100 : Int32) = 0 ∧ CJ Y d y_GA_goesOnFrom [sI ((rd σ (t + 22) 6144 v4) / 100), sI v1] σ (rI fun r1 σ1 => ((r1 = 0 → Jd Y (d + 1) y_GA_countBelow 36 [(0, sR t (.inl 1)), (1, sI v1), (3, sI v3), (4, sI v4)] [] σ1 Q) ∧ (¬ r1 = 0 → Jd Y (d + 1) y_GA_countBelow 36 [(0, sR t (.inl 1)), (1, sI v1), (3, sI (v3 + 1)), (4, sI v4)] [] σ1 Q))))))) :
    Jd Y (d + 1) y_GA_countBelow 5 [(0, sR t (.inl 1)), (1, sI v1), (3, sI v3), (4, sI v4)] [] σ Q :=
  blk_ok (d := (d + 1)) (y := y_GA_countBelow) (ft := ft_GA) (ct := ct_GA) (tab := tab_GA_countBelow) ⟨tk_GA_countBelow, ft_GA_ok, ct_GA_ok Y⟩ [(5, [0, 1, 3, 4]), (36, [0, 1, 3, 4])] 24 5 _ _ σ h
set_option maxRecDepth 20000 in
theorem s_GA_countBelow_36 (Y : List kd) (d : Nat) (t : Nat) (v1 : Int32) (v3 : Int32) (v4 : Int32) (σ : sS) (Q : Option sv → sS → Prop)
    (h : Jd Y (d + 1) y_GA_countBelow 5 [(0, sR t (.inl 1)), (1, sI v1), (3, sI v3), (4, sI (v4 + 1))] [] σ Q) :
    Jd Y (d + 1) y_GA_countBelow 36 [(0, sR t (.inl 1)), (1, sI v1), (3, sI v3), (4, sI v4)] [] σ Q :=
  blk_ok (d := (d + 1)) (y := y_GA_countBelow) (ft := ft_GA) (ct := ct_GA) (tab := tab_GA_countBelow) ⟨tk_GA_countBelow, ft_GA_ok, ct_GA_ok Y⟩ [(5, [0, 1, 3, 4]), (36, [0, 1, 3, 4])] 24 36 _ _ σ h
set_option maxRecDepth 20000 in
theorem s_GA_goesOnFrom_0 (Y : List kd) (d : Nat) (v0 : Int32) (v1 : Int32) (σ : sS) (Q : Option sv → sS → Prop)
    (h : Jd Y d y_GA_goesOnFrom 4 [(1, sI v1), (2, sI v0), (3, sI 0)] [] σ Q) :
    Jd Y d y_GA_goesOnFrom 0 [(0, sI v0), (1, sI v1)] [] σ Q :=
  blk_ok (d := d) (y := y_GA_goesOnFrom) (ft := ft_GA) (ct := ct_GA) (tab := tab_GA_goesOnFrom) ⟨tk_GA_goesOnFrom, ft_GA_ok, ct_GA_ok Y⟩ [(4, [1, 2, 3]), (25, [1, 2])] 25 0 _ _ σ h
set_option maxRecDepth 20000 in
theorem s_GA_goesOnFrom_4 (Y : List kd) (d : Nat) (v1 : Int32) (v2 : Int32) (v3 : Int32) (σ : sS) (Q : Option sv → sS → Prop)
    (h : (((5 : Int32) < v3 → Jd Y d y_GA_goesOnFrom 25 [(1, sI v1), (2, sI v2)] [] σ Q) ∧ (¬ (5 : Int32) < v3 → ((¬ v1 < v2 → Jd Y d y_GA_goesOnFrom 25 [(1, sI v1), (2, sI v2)] [] σ Q) ∧ (v1 < v2 → (¬ (10 : Int32) = 0 ∧ Jd Y d y_GA_goesOnFrom 4 [(1, sI v1), (2, sI (v2 / 10)), (3, sI (v3 + 1))] [] σ Q)))))) :
    Jd Y d y_GA_goesOnFrom 4 [(1, sI v1), (2, sI v2), (3, sI v3)] [] σ Q :=
  blk_ok (d := d) (y := y_GA_goesOnFrom) (ft := ft_GA) (ct := ct_GA) (tab := tab_GA_goesOnFrom) ⟨tk_GA_goesOnFrom, ft_GA_ok, ct_GA_ok Y⟩ [(4, [1, 2, 3]), (25, [1, 2])] 25 4 _ _ σ h
set_option maxRecDepth 20000 in
theorem s_GA_goesOnFrom_25 (Y : List kd) (d : Nat) (v1 : Int32) (v2 : Int32) (σ : sS) (Q : Option sv → sS → Prop)
    (h : ((¬ v2 = v1 → (((0 : Int32) = 0 ∨ (0 : Int32) = 1) ∧ Q (some (sI 0)) σ)) ∧ (v2 = v1 → (((1 : Int32) = 0 ∨ (1 : Int32) = 1) ∧ Q (some (sI 1)) σ)))) :
    Jd Y d y_GA_goesOnFrom 25 [(1, sI v1), (2, sI v2)] [] σ Q :=
  blk_ok (d := d) (y := y_GA_goesOnFrom) (ft := ft_GA) (ct := ct_GA) (tab := tab_GA_goesOnFrom) ⟨tk_GA_goesOnFrom, ft_GA_ok, ct_GA_ok Y⟩ [(4, [1, 2, 3]), (25, [1, 2])] 25 25 _ _ σ h
set_option maxRecDepth 20000 in
theorem s_TR_less_0 (Y : List kd) (d : Nat) (t : Nat) (v1 : Int32) (v2 : Int32) (σ : sS) (Q : Option sv → sS → Prop)
    (h : ((¬ (rd σ (t + 1) 20 v1) = 0 → Jd Y (d + 1) y_TR_less 47 [(0, sR t (.inl 3)), (1, sI v1), (2, sI v2)] [] σ Q) ∧ ((rd σ (t + 1) 20 v1) = 0 → ((¬ (rd σ (t + 1) 20 v2) = 0 → Jd Y (d + 1) y_TR_less 47 [(0, sR t (.inl 3)), (1, sI v1), (2, sI v2)] [] σ Q) ∧ ((rd σ (t + 1) 20 v2) = 0 → ((¬ (rd σ (t + 2) 20 v1) < (rd σ (t + 2) 20 v2) → (((0 : Int32) = 0 ∨ (0 : Int32) = 1) ∧ Q (some (sI 0)) σ)) ∧ ((rd σ (t + 2) 20 v1) < (rd σ (t + 2) 20 v2) → (((1 : Int32) = 0 ∨ (1 : Int32) = 1) ∧ Q (some (sI 1)) σ)))))))) :
    Jd Y (d + 1) y_TR_less 0 [(0, sR t (.inl 3)), (1, sI v1), (2, sI v2)] [] σ Q :=
  blk_ok (d := (d + 1)) (y := y_TR_less) (ft := ft_TR) (ct := ct_TR) (tab := tab_TR_less) ⟨tk_TR_less, ft_TR_ok, ct_TR_ok Y⟩ [(47, [0, 1, 2])] 38 0 _ _ σ h
set_option maxRecDepth 20000 in
theorem s_TR_less_47 (Y : List kd) (d : Nat) (t : Nat) (v1 : Int32) (v2 : Int32) (σ : sS) (Q : Option sv → sS → Prop)
    (h : ((¬ (rd σ (t + 5) 20 v1) < (rd σ (t + 5) 20 v2) → (((0 : Int32) = 0 ∨ (0 : Int32) = 1) ∧ Q (some (sI 0)) σ)) ∧ ((rd σ (t + 5) 20 v1) < (rd σ (t + 5) 20 v2) → (((1 : Int32) = 0 ∨ (1 : Int32) = 1) ∧ Q (some (sI 1)) σ)))) :
    Jd Y (d + 1) y_TR_less 47 [(0, sR t (.inl 3)), (1, sI v1), (2, sI v2)] [] σ Q :=
  blk_ok (d := (d + 1)) (y := y_TR_less) (ft := ft_TR) (ct := ct_TR) (tab := tab_TR_less) ⟨tk_TR_less, ft_TR_ok, ct_TR_ok Y⟩ [(47, [0, 1, 2])] 38 47 _ _ σ h
set_option maxRecDepth 20000 in
theorem s_TR_alike_0 (Y : List kd) (d : Nat) (t : Nat) (v1 : Int32) (v2 : Int32) (σ : sS) (Q : Option sv → sS → Prop)
    (h : CJ Y d y_TR_alikeBelow [sR t (.inl 3), sI v1, sI v2, sI 0] σ (rI fun r1 σ1 => ((r1 = 0 ∨ r1 = 1) ∧ Q (some (sI r1)) σ1))) :
    Jd Y (d + 1) y_TR_alike 0 [(0, sR t (.inl 3)), (1, sI v1), (2, sI v2)] [] σ Q :=
  blk_ok (d := (d + 1)) (y := y_TR_alike) (ft := ft_TR) (ct := ct_TR) (tab := tab_TR_alike) ⟨tk_TR_alike, ft_TR_ok, ct_TR_ok Y⟩ [] 8 0 _ _ σ h
set_option maxRecDepth 20000 in
theorem s_TR_alikeBelow_0 (Y : List kd) (d : Nat) (t : Nat) (v1 : Int32) (v2 : Int32) (v3 : Int32) (σ : sS) (Q : Option sv → sS → Prop)
    (h : (((4 : Int32) < v3 → (((0 : Int32) = 0 ∨ (0 : Int32) = 1) ∧ Q (some (sI 0)) σ)) ∧ (¬ (4 : Int32) < v3 → ((¬ (rd σ (t + 1) 20 v1) = (rd σ (t + 1) 20 v2) → (((0 : Int32) = 0 ∨ (0 : Int32) = 1) ∧ Q (some (sI 0)) σ)) ∧ ((rd σ (t + 1) 20 v1) = (rd σ (t + 1) 20 v2) → ((¬ (rd σ (t + 2) 20 v1) = (rd σ (t + 2) 20 v2) → (((0 : Int32) = 0 ∨ (0 : Int32) = 1) ∧ Q (some (sI 0)) σ)) ∧ ((rd σ (t + 2) 20 v1) = (rd σ (t + 2) 20 v2) → ((¬ (rd σ (t + 3) 20 v1) = (rd σ (t + 3) 20 v2) → (((0 : Int32) = 0 ∨ (0 : Int32) = 1) ∧ Q (some (sI 0)) σ)) ∧ ((rd σ (t + 3) 20 v1) = (rd σ (t + 3) 20 v2) → (((rd σ (t + 5) 20 v1) = (rd σ (t + 5) 20 v2) → Jd Y (d + 1) y_TR_alikeBelow 101 [(0, sR t (.inl 3)), (2, sI v2), (3, sI v3), (4, sI (rd σ (t + 3) 20 v1)), (5, sI (v1 + 1)), (6, sI 0)] [] σ Q) ∧ (¬ (rd σ (t + 5) 20 v1) = (rd σ (t + 5) 20 v2) → (((0 : Int32) = 0 ∨ (0 : Int32) = 1) ∧ Q (some (sI 0)) σ)))))))))))) :
    Jd Y (d + 1) y_TR_alikeBelow 0 [(0, sR t (.inl 3)), (1, sI v1), (2, sI v2), (3, sI v3)] [] σ Q :=
  blk_ok (d := (d + 1)) (y := y_TR_alikeBelow) (ft := ft_TR) (ct := ct_TR) (tab := tab_TR_alikeBelow) ⟨tk_TR_alikeBelow, ft_TR_ok, ct_TR_ok Y⟩ [(101, [0, 2, 3, 4, 5, 6])] 88 0 _ _ σ h
set_option maxRecDepth 20000 in
theorem s_TR_alikeBelow_101 (Y : List kd) (d : Nat) (t : Nat) (v2 : Int32) (v3 : Int32) (v4 : Int32) (v5 : Int32) (v6 : Int32) (σ : sS) (Q : Option sv → sS → Prop)
    (h : ((¬ v6 < v4 → (((1 : Int32) = 0 ∨ (1 : Int32) = 1) ∧ Q (some (sI 1)) σ)) ∧ (v6 < v4 → CJ Y d y_TR_child [sR t (.inl 3), sI v2, sI (rd σ (t + 4) 20 v5)] σ (rI fun r1 σ1 => ((r1 < 0 → (((0 : Int32) = 0 ∨ (0 : Int32) = 1) ∧ Q (some (sI 0)) σ1)) ∧ (¬ r1 < 0 → CJ Y d y_TR_alikeBelow [sR t (.inl 3), sI v5, sI r1, sI (v3 + 1)] σ1 (rI fun r2 σ2 => ((¬ r2 = 0 → Jd Y (d + 1) y_TR_alikeBelow 101 [(0, sR t (.inl 3)), (2, sI v2), (3, sI v3), (4, sI v4), (5, sI (v5 + (rd σ2 (t + 5) 20 v5))), (6, sI (v6 + 1))] [] σ2 Q) ∧ (r2 = 0 → (((0 : Int32) = 0 ∨ (0 : Int32) = 1) ∧ Q (some (sI 0)) σ2)))))))))) :
    Jd Y (d + 1) y_TR_alikeBelow 101 [(0, sR t (.inl 3)), (2, sI v2), (3, sI v3), (4, sI v4), (5, sI v5), (6, sI v6)] [] σ Q :=
  blk_ok (d := (d + 1)) (y := y_TR_alikeBelow) (ft := ft_TR) (ct := ct_TR) (tab := tab_TR_alikeBelow) ⟨tk_TR_alikeBelow, ft_TR_ok, ct_TR_ok Y⟩ [(101, [0, 2, 3, 4, 5, 6])] 88 101 _ _ σ h
set_option maxRecDepth 20000 in
theorem s_GA_lookAtList_0 (Y : List kd) (d : Nat) (t : Nat) (v1 : Int32) (v2 : Int32) (v3 : Int32) (σ : sS) (Q : Option sv → sS → Prop)
    (h : (Y[(σ t 1).toNatClampNeg]? = some (.inl 3) ∧ (Y[(σ t 1).toNatClampNeg]? = some (.inl 3) ∧ (((rd σ (((σ t 1).toNatClampNeg) + 1) 20 v2) = 3 → (Y[(σ t 1).toNatClampNeg]? = some (.inl 3) ∧ (((rd σ (((σ t 1).toNatClampNeg) + 3) 20 v2) < (rd σ (t + 3) 24 v1) → Jd Y (d + 1) y_GA_lookAtList 82 [(0, sR t (.inl 1)), (1, sI v1), (2, sI v2), (3, sI v3), (4, sI (rd σ (((σ t 1).toNatClampNeg) + 6) 20 v2)), (5, sI (rd σ (((σ t 1).toNatClampNeg) + 3) 20 v2))] [] σ Q) ∧ (¬ (rd σ (((σ t 1).toNatClampNeg) + 3) 20 v2) < (rd σ (t + 3) 24 v1) → ((¬ (rd σ (t + 4) 24 v1) < (rd σ (((σ t 1).toNatClampNeg) + 3) 20 v2) → Jd Y (d + 1) y_GA_lookAtList 90 [(0, sR t (.inl 1)), (1, sI v1), (2, sI v2), (3, sI v3), (5, sI (rd σ (((σ t 1).toNatClampNeg) + 3) 20 v2))] [] σ Q) ∧ ((rd σ (t + 4) 24 v1) < (rd σ (((σ t 1).toNatClampNeg) + 3) 20 v2) → Jd Y (d + 1) y_GA_lookAtList 82 [(0, sR t (.inl 1)), (1, sI v1), (2, sI v2), (3, sI v3), (4, sI (rd σ (((σ t 1).toNatClampNeg) + 6) 20 v2)), (5, sI (rd σ (((σ t 1).toNatClampNeg) + 3) 20 v2))] [] σ Q)))))) ∧ (¬ (rd σ (((σ t 1).toNatClampNeg) + 1) 20 v2) = 3 → CJ Y d y_GA_add [sR t (.inl 1), sI (rd σ (((σ t 1).toNatClampNeg) + 6) 20 v2), sI 10] σ (rN fun σ1 => Q none σ1)))))) :
    Jd Y (d + 1) y_GA_lookAtList 0 [(0, sR t (.inl 1)), (1, sI v1), (2, sI v2), (3, sI v3)] [] σ Q :=
  blk_ok (d := (d + 1)) (y := y_GA_lookAtList) (ft := ft_GA) (ct := ct_GA) (tab := tab_GA_lookAtList) ⟨tk_GA_lookAtList, ft_GA_ok, ct_GA_ok Y⟩ [(82, [0, 1, 2, 3, 4, 5]), (90, [0, 1, 2, 3, 5]), (98, [0, 1, 3, 5, 6, 7])] 73 0 _ _ σ h
set_option maxRecDepth 20000 in
theorem s_GA_lookAtList_82 (Y : List kd) (d : Nat) (t : Nat) (v1 : Int32) (v2 : Int32) (v3 : Int32) (v4 : Int32) (v5 : Int32) (σ : sS) (Q : Option sv → sS → Prop)
    (h : CJ Y d y_GA_add [sR t (.inl 1), sI v4, sI 11] σ (rN fun σ1 => Jd Y (d + 1) y_GA_lookAtList 90 [(0, sR t (.inl 1)), (1, sI v1), (2, sI v2), (3, sI v3), (5, sI v5)] [] σ1 Q)) :
    Jd Y (d + 1) y_GA_lookAtList 82 [(0, sR t (.inl 1)), (1, sI v1), (2, sI v2), (3, sI v3), (4, sI v4), (5, sI v5)] [] σ Q :=
  blk_ok (d := (d + 1)) (y := y_GA_lookAtList) (ft := ft_GA) (ct := ct_GA) (tab := tab_GA_lookAtList) ⟨tk_GA_lookAtList, ft_GA_ok, ct_GA_ok Y⟩ [(82, [0, 1, 2, 3, 4, 5]), (90, [0, 1, 2, 3, 5]), (98, [0, 1, 3, 5, 6, 7])] 73 82 _ _ σ h
set_option maxRecDepth 20000 in
theorem s_GA_lookAtList_90 (Y : List kd) (d : Nat) (t : Nat) (v1 : Int32) (v2 : Int32) (v3 : Int32) (v5 : Int32) (σ : sS) (Q : Option sv → sS → Prop)
    (h : Jd Y (d + 1) y_GA_lookAtList 98 [(0, sR t (.inl 1)), (1, sI v1), (3, sI v3), (5, sI v5), (6, sI (v2 + 1)), (7, sI 0)] [] σ Q) :
    Jd Y (d + 1) y_GA_lookAtList 90 [(0, sR t (.inl 1)), (1, sI v1), (2, sI v2), (3, sI v3), (5, sI v5)] [] σ Q :=
  blk_ok (d := (d + 1)) (y := y_GA_lookAtList) (ft := ft_GA) (ct := ct_GA) (tab := tab_GA_lookAtList) ⟨tk_GA_lookAtList, ft_GA_ok, ct_GA_ok Y⟩ [(82, [0, 1, 2, 3, 4, 5]), (90, [0, 1, 2, 3, 5]), (98, [0, 1, 3, 5, 6, 7])] 73 90 _ _ σ h
set_option maxRecDepth 20000 in
theorem s_GA_lookAtList_98 (Y : List kd) (d : Nat) (t : Nat) (v1 : Int32) (v3 : Int32) (v5 : Int32) (v6 : Int32) (v7 : Int32) (σ : sS) (Q : Option sv → sS → Prop)
    (h : ((¬ v7 < v5 → Q none σ) ∧ (v7 < v5 → CJ Y d y_GA_look [sR t (.inl 1), sI (v1 + 1), sI v6, sI (v3 + 1)] σ (rN fun σ1 => (Y[(σ1 t 1).toNatClampNeg]? = some (.inl 3) ∧ Jd Y (d + 1) y_GA_lookAtList 98 [(0, sR t (.inl 1)), (1, sI v1), (3, sI v3), (5, sI v5), (6, sI (v6 + (rd σ1 (((σ1 t 1).toNatClampNeg) + 5) 20 v6))), (7, sI (v7 + 1))] [] σ1 Q))))) :
    Jd Y (d + 1) y_GA_lookAtList 98 [(0, sR t (.inl 1)), (1, sI v1), (3, sI v3), (5, sI v5), (6, sI v6), (7, sI v7)] [] σ Q :=
  blk_ok (d := (d + 1)) (y := y_GA_lookAtList) (ft := ft_GA) (ct := ct_GA) (tab := tab_GA_lookAtList) ⟨tk_GA_lookAtList, ft_GA_ok, ct_GA_ok Y⟩ [(82, [0, 1, 2, 3, 4, 5]), (90, [0, 1, 2, 3, 5]), (98, [0, 1, 3, 5, 6, 7])] 73 98 _ _ σ h
set_option maxRecDepth 20000 in
theorem s_GA_lookForTwins_0 (Y : List kd) (d : Nat) (t : Nat) (v1 : Int32) (v2 : Int32) (σ : sS) (Q : Option sv → sS → Prop)
    (h : ((¬ v2 < (σ t 3) → (Y[(σ t 1).toNatClampNeg]? = some (.inl 3) ∧ (((rd σ (((σ t 1).toNatClampNeg) + 1) 20 v1) = 3 → (Y[(σ t 1).toNatClampNeg]? = some (.inl 3) ∧ Jd Y (d + 1) y_GA_lookForTwins 50 [(0, sR t (.inl 1)), (1, sI v1), (3, sI (rd σ (((σ t 1).toNatClampNeg) + 3) 20 v1)), (4, sI 1)] [] σ Q)) ∧ (¬ (rd σ (((σ t 1).toNatClampNeg) + 1) 20 v1) = 3 → Q none σ)))) ∧ (v2 < (σ t 3) → Q none (up σ t 4 ((σ t 4) + 1))))) :
    Jd Y (d + 1) y_GA_lookForTwins 0 [(0, sR t (.inl 1)), (1, sI v1), (2, sI v2)] [] σ Q :=
  blk_ok (d := (d + 1)) (y := y_GA_lookForTwins) (ft := ft_GA) (ct := ct_GA) (tab := tab_GA_lookForTwins) ⟨tk_GA_lookForTwins, ft_GA_ok, ct_GA_ok Y⟩ [(50, [0, 1, 3, 4]), (77, [0, 1, 3, 4, 5, 6, 7]), (119, [0, 1, 3, 4, 5, 6]), (142, [0, 1, 3, 4])] 76 0 _ _ σ h
set_option maxRecDepth 20000 in
theorem s_GA_lookForTwins_50 (Y : List kd) (d : Nat) (t : Nat) (v1 : Int32) (v3 : Int32) (v4 : Int32) (σ : sS) (Q : Option sv → sS → Prop)
    (h : ((¬ v4 < v3 → Q none σ) ∧ (v4 < v3 → (Y[(σ t 1).toNatClampNeg]? = some (.inl 3) ∧ CJ Y d y_TR_child [sR ((σ t 1).toNatClampNeg) (.inl 3), sI v1, sI (6 + v4)] σ (rI fun r1 σ1 => Jd Y (d + 1) y_GA_lookForTwins 77 [(0, sR t (.inl 1)), (1, sI v1), (3, sI v3), (4, sI v4), (5, sI r1), (6, sI 0), (7, sI 0)] [] σ1 Q))))) :
    Jd Y (d + 1) y_GA_lookForTwins 50 [(0, sR t (.inl 1)), (1, sI v1), (3, sI v3), (4, sI v4)] [] σ Q :=
  blk_ok (d := (d + 1)) (y := y_GA_lookForTwins) (ft := ft_GA) (ct := ct_GA) (tab := tab_GA_lookForTwins) ⟨tk_GA_lookForTwins, ft_GA_ok, ct_GA_ok Y⟩ [(50, [0, 1, 3, 4]), (77, [0, 1, 3, 4, 5, 6, 7]), (119, [0, 1, 3, 4, 5, 6]), (142, [0, 1, 3, 4])] 76 50 _ _ σ h
set_option maxRecDepth 20000 in
theorem s_GA_lookForTwins_77 (Y : List kd) (d : Nat) (t : Nat) (v1 : Int32) (v3 : Int32) (v4 : Int32) (v5 : Int32) (v6 : Int32) (v7 : Int32) (σ : sS) (Q : Option sv → sS → Prop)
    (h : ((¬ v7 < v4 → Jd Y (d + 1) y_GA_lookForTwins 119 [(0, sR t (.inl 1)), (1, sI v1), (3, sI v3), (4, sI v4), (5, sI v5), (6, sI v6)] [] σ Q) ∧ (v7 < v4 → ((¬ v6 = 0 → Jd Y (d + 1) y_GA_lookForTwins 119 [(0, sR t (.inl 1)), (1, sI v1), (3, sI v3), (4, sI v4), (5, sI v5), (6, sI v6)] [] σ Q) ∧ (v6 = 0 → (Y[(σ t 1).toNatClampNeg]? = some (.inl 3) ∧ (Y[(σ t 1).toNatClampNeg]? = some (.inl 3) ∧ CJ Y d y_TR_child [sR ((σ t 1).toNatClampNeg) (.inl 3), sI v1, sI (6 + v7)] σ (rI fun r1 σ1 => CJ Y d y_TR_alike [sR ((σ t 1).toNatClampNeg) (.inl 3), sI r1, sI v5] σ1 (rI fun r2 σ2 => Jd Y (d + 1) y_GA_lookForTwins 77 [(0, sR t (.inl 1)), (1, sI v1), (3, sI v3), (4, sI v4), (5, sI v5), (6, sI r2), (7, sI (v7 + 1))] [] σ2 Q))))))))) :
    Jd Y (d + 1) y_GA_lookForTwins 77 [(0, sR t (.inl 1)), (1, sI v1), (3, sI v3), (4, sI v4), (5, sI v5), (6, sI v6), (7, sI v7)] [] σ Q :=
  blk_ok (d := (d + 1)) (y := y_GA_lookForTwins) (ft := ft_GA) (ct := ct_GA) (tab := tab_GA_lookForTwins) ⟨tk_GA_lookForTwins, ft_GA_ok, ct_GA_ok Y⟩ [(50, [0, 1, 3, 4]), (77, [0, 1, 3, 4, 5, 6, 7]), (119, [0, 1, 3, 4, 5, 6]), (142, [0, 1, 3, 4])] 76 77 _ _ σ h
set_option maxRecDepth 20000 in
theorem s_GA_lookForTwins_119 (Y : List kd) (d : Nat) (t : Nat) (v1 : Int32) (v3 : Int32) (v4 : Int32) (v5 : Int32) (v6 : Int32) (σ : sS) (Q : Option sv → sS → Prop)
    (h : ((v6 = 0 → Jd Y (d + 1) y_GA_lookForTwins 142 [(0, sR t (.inl 1)), (1, sI v1), (3, sI v3), (4, sI v4)] [] σ Q) ∧ (¬ v6 = 0 → (Y[(σ t 1).toNatClampNeg]? = some (.inl 3) ∧ CJ Y d y_GA_add [sR t (.inl 1), sI (rd σ (((σ t 1).toNatClampNeg) + 6) 20 v5), sI 12] σ (rN fun σ1 => Jd Y (d + 1) y_GA_lookForTwins 142 [(0, sR t (.inl 1)), (1, sI v1), (3, sI v3), (4, sI v4)] [] σ1 Q))))) :
    Jd Y (d + 1) y_GA_lookForTwins 119 [(0, sR t (.inl 1)), (1, sI v1), (3, sI v3), (4, sI v4), (5, sI v5), (6, sI v6)] [] σ Q :=
  blk_ok (d := (d + 1)) (y := y_GA_lookForTwins) (ft := ft_GA) (ct := ct_GA) (tab := tab_GA_lookForTwins) ⟨tk_GA_lookForTwins, ft_GA_ok, ct_GA_ok Y⟩ [(50, [0, 1, 3, 4]), (77, [0, 1, 3, 4, 5, 6, 7]), (119, [0, 1, 3, 4, 5, 6]), (142, [0, 1, 3, 4])] 76 119 _ _ σ h
set_option maxRecDepth 20000 in
theorem s_GA_lookForTwins_142 (Y : List kd) (d : Nat) (t : Nat) (v1 : Int32) (v3 : Int32) (v4 : Int32) (σ : sS) (Q : Option sv → sS → Prop)
    (h : Jd Y (d + 1) y_GA_lookForTwins 50 [(0, sR t (.inl 1)), (1, sI v1), (3, sI v3), (4, sI (v4 + 1))] [] σ Q) :
    Jd Y (d + 1) y_GA_lookForTwins 142 [(0, sR t (.inl 1)), (1, sI v1), (3, sI v3), (4, sI v4)] [] σ Q :=
  blk_ok (d := (d + 1)) (y := y_GA_lookForTwins) (ft := ft_GA) (ct := ct_GA) (tab := tab_GA_lookForTwins) ⟨tk_GA_lookForTwins, ft_GA_ok, ct_GA_ok Y⟩ [(50, [0, 1, 3, 4]), (77, [0, 1, 3, 4, 5, 6, 7]), (119, [0, 1, 3, 4, 5, 6]), (142, [0, 1, 3, 4])] 76 142 _ _ σ h
set_option maxRecDepth 20000 in
theorem s_GA_keepFewer_0 (Y : List kd) (d : Nat) (t : Nat) (v1 : Int32) (v2 : Int32) (v3 : Int32) (v4 : Int32) (σ : sS) (Q : Option sv → sS → Prop)
    (h : ((¬ ((σ t 3) - v2) < (v2 - v1) → Q none (up (up σ t 3 v2) t 4 v4)) ∧ (((σ t 3) - v2) < (v2 - v1) → CJ Y d y_GF_close [sR (t + 22) (.inr 6144), sI v2, sI (σ t 3), sI (v2 - v1)] σ (rN fun σ1 => Q none (up (up σ1 t 3 (v1 + ((σ t 3) - v2))) t 4 ((v3 + ((up σ1 t 3 (v1 + ((σ t 3) - v2))) t 4)) - v4)))))) :
    Jd Y (d + 1) y_GA_keepFewer 0 [(0, sR t (.inl 1)), (1, sI v1), (2, sI v2), (3, sI v3), (4, sI v4)] [] σ Q :=
  blk_ok (d := (d + 1)) (y := y_GA_keepFewer) (ft := ft_GA) (ct := ct_GA) (tab := tab_GA_keepFewer) ⟨tk_GA_keepFewer, ft_GA_ok, ct_GA_ok Y⟩ [] 42 0 _ _ σ h
set_option maxRecDepth 20000 in
theorem s_GF_fault_0 (Y : List kd) (d : Nat) (t : Nat) (v1 : Int32) (v2 : Int32) (σ : sS) (Q : Option sv → sS → Prop)
    (h : ((v2 = 0 → Jd Y (d + 1) y_GF_fault 16 [(0, sR t (.inl 5)), (1, sI v1), (2, sI v2)] [] σ Q) ∧ (¬ v2 = 0 → ((v2 = 1 → Jd Y (d + 1) y_GF_fault 16 [(0, sR t (.inl 5)), (1, sI v1), (2, sI v2)] [] σ Q) ∧ (¬ v2 = 1 → CJ Y d y_GF_refuse [sR t (.inl 5), sI (-2)] σ (rI fun r1 σ1 => Q (some (sI r1)) σ1)))))) :
    Jd Y (d + 1) y_GF_fault 0 [(0, sR t (.inl 5)), (1, sI v1), (2, sI v2)] [] σ Q :=
  blk_ok (d := (d + 1)) (y := y_GF_fault) (ft := ft_GF) (ct := ct_GF) (tab := tab_GF_fault) ⟨tk_GF_fault, ft_GF_ok, ct_GF_ok Y⟩ [(16, [0, 1, 2]), (37, [0])] 38 0 _ _ σ h
set_option maxRecDepth 20000 in
theorem s_GF_fault_16 (Y : List kd) (d : Nat) (t : Nat) (v1 : Int32) (v2 : Int32) (σ : sS) (Q : Option sv → sS → Prop)
    (h : CJ Y d y_GA_gather [sR (t + 15) (.inl 1), sR (t + 1) (.inl 3)] σ (rI fun r1 σ1 => ((v1 < 0 → Jd Y (d + 1) y_GF_fault 37 [(0, sR t (.inl 5))] [] σ1 Q) ∧ (¬ v1 < 0 → ((v1 < r1 → ((¬ v2 = 0 → CJ Y d y_GA_codeAt [sR (t + 15) (.inl 1), sI v1] σ1 (rI fun r2 σ2 => Q (some (sI r2)) σ2)) ∧ (v2 = 0 → CJ Y d y_GA_pathAt [sR (t + 15) (.inl 1), sI v1] σ1 (rI fun r3 σ3 => Q (some (sI r3)) σ3)))) ∧ (¬ v1 < r1 → Jd Y (d + 1) y_GF_fault 37 [(0, sR t (.inl 5))] [] σ1 Q)))))) :
    Jd Y (d + 1) y_GF_fault 16 [(0, sR t (.inl 5)), (1, sI v1), (2, sI v2)] [] σ Q :=
  blk_ok (d := (d + 1)) (y := y_GF_fault) (ft := ft_GF) (ct := ct_GF) (tab := tab_GF_fault) ⟨tk_GF_fault, ft_GF_ok, ct_GF_ok Y⟩ [(16, [0, 1, 2]), (37, [0])] 38 16 _ _ σ h
set_option maxRecDepth 20000 in
theorem s_GF_fault_37 (Y : List kd) (d : Nat) (t : Nat) (σ : sS) (Q : Option sv → sS → Prop)
    (h : CJ Y d y_GF_refuse [sR t (.inl 5), sI (-1)] σ (rI fun r1 σ1 => Q (some (sI r1)) σ1)) :
    Jd Y (d + 1) y_GF_fault 37 [(0, sR t (.inl 5))] [] σ Q :=
  blk_ok (d := (d + 1)) (y := y_GF_fault) (ft := ft_GF) (ct := ct_GF) (tab := tab_GF_fault) ⟨tk_GF_fault, ft_GF_ok, ct_GF_ok Y⟩ [(16, [0, 1, 2]), (37, [0])] 38 37 _ _ σ h
set_option maxRecDepth 20000 in
theorem s_GF_refuse_0 (Y : List kd) (d : Nat) (t : Nat) (v1 : Int32) (σ : sS) (Q : Option sv → sS → Prop)
    (h : Q (some (sI v1)) (wr σ (t + 66) 7 (-v1) ((rd σ (t + 66) 7 (-v1)) + 1))) :
    Jd Y (d + 1) y_GF_refuse 0 [(0, sR t (.inl 5)), (1, sI v1)] [] σ Q :=
  blk_ok (d := (d + 1)) (y := y_GF_refuse) (ft := ft_GF) (ct := ct_GF) (tab := tab_GF_refuse) ⟨tk_GF_refuse, ft_GF_ok, ct_GF_ok Y⟩ [] 16 0 _ _ σ h
set_option maxRecDepth 20000 in
theorem s_GA_pathAt_0 (Y : List kd) (d : Nat) (t : Nat) (v1 : Int32) (σ : sS) (Q : Option sv → sS → Prop)
    (h : (¬ (100 : Int32) = 0 ∧ Q (some (sI ((rd σ (t + 22) 6144 v1) / 100))) σ)) :
    Jd Y (d + 1) y_GA_pathAt 0 [(0, sR t (.inl 1)), (1, sI v1)] [] σ Q :=
  blk_ok (d := (d + 1)) (y := y_GA_pathAt) (ft := ft_GA) (ct := ct_GA) (tab := tab_GA_pathAt) ⟨tk_GA_pathAt, ft_GA_ok, ct_GA_ok Y⟩ [] 9 0 _ _ σ h
set_option maxRecDepth 20000 in
theorem s_GA_codeAt_0 (Y : List kd) (d : Nat) (t : Nat) (v1 : Int32) (σ : sS) (Q : Option sv → sS → Prop)
    (h : (¬ (100 : Int32) = 0 ∧ Q (some (sI ((rd σ (t + 22) 6144 v1) - (rd σ (t + 22) 6144 v1) / 100 * 100))) σ)) :
    Jd Y (d + 1) y_GA_codeAt 0 [(0, sR t (.inl 1)), (1, sI v1)] [] σ Q :=
  blk_ok (d := (d + 1)) (y := y_GA_codeAt) (ft := ft_GA) (ct := ct_GA) (tab := tab_GA_codeAt) ⟨tk_GA_codeAt, ft_GA_ok, ct_GA_ok Y⟩ [] 9 0 _ _ σ h
set_option maxRecDepth 20000 in
theorem s_GF_coded_0 (Y : List kd) (d : Nat) (t : Nat) (v1 : Int32) (σ : sS) (Q : Option sv → sS → Prop)
    (h : ((v1 < 1 → Jd Y (d + 1) y_GF_coded 11 [(0, sR t (.inl 5))] [] σ Q) ∧ (¬ v1 < 1 → ((¬ (12 : Int32) < v1 → CJ Y d y_GA_gather [sR (t + 15) (.inl 1), sR (t + 1) (.inl 3)] σ (rI fun r1 σ1 => CJ Y d y_GA_countCode [sR (t + 15) (.inl 1), sI v1] σ1 (rI fun r2 σ2 => Q (some (sI r2)) σ2))) ∧ ((12 : Int32) < v1 → Jd Y (d + 1) y_GF_coded 11 [(0, sR t (.inl 5))] [] σ Q))))) :
    Jd Y (d + 1) y_GF_coded 0 [(0, sR t (.inl 5)), (1, sI v1)] [] σ Q :=
  blk_ok (d := (d + 1)) (y := y_GF_coded) (ft := ft_GF) (ct := ct_GF) (tab := tab_GF_coded) ⟨tk_GF_coded, ft_GF_ok, ct_GF_ok Y⟩ [(11, [0])] 23 0 _ _ σ h
set_option maxRecDepth 20000 in
theorem s_GF_coded_11 (Y : List kd) (d : Nat) (t : Nat) (σ : sS) (Q : Option sv → sS → Prop)
    (h : CJ Y d y_GF_refuse [sR t (.inl 5), sI (-2)] σ (rI fun r1 σ1 => Q (some (sI r1)) σ1)) :
    Jd Y (d + 1) y_GF_coded 11 [(0, sR t (.inl 5))] [] σ Q :=
  blk_ok (d := (d + 1)) (y := y_GF_coded) (ft := ft_GF) (ct := ct_GF) (tab := tab_GF_coded) ⟨tk_GF_coded, ft_GF_ok, ct_GF_ok Y⟩ [(11, [0])] 23 11 _ _ σ h
set_option maxRecDepth 20000 in
theorem s_GA_countCode_0 (Y : List kd) (d : Nat) (t : Nat) (v1 : Int32) (σ : sS) (Q : Option sv → sS → Prop)
    (h : Jd Y (d + 1) y_GA_countCode 4 [(0, sR t (.inl 1)), (1, sI v1), (2, sI 0), (3, sI 0)] [] σ Q) :
    Jd Y (d + 1) y_GA_countCode 0 [(0, sR t (.inl 1)), (1, sI v1)] [] σ Q :=
  blk_ok (d := (d + 1)) (y := y_GA_countCode) (ft := ft_GA) (ct := ct_GA) (tab := tab_GA_countCode) ⟨tk_GA_countCode, ft_GA_ok, ct_GA_ok Y⟩ [(4, [0, 1, 2, 3]), (24, [0, 1, 2, 3])] 20 0 _ _ σ h
set_option maxRecDepth 20000 in
theorem s_GA_countCode_4 (Y : List kd) (d : Nat) (t : Nat) (v1 : Int32) (v2 : Int32) (v3 : Int32) (σ : sS) (Q : Option sv → sS → Prop)
    (h : ((¬ v3 < (σ t 3) → Q (some (sI v2)) σ) ∧ (v3 < (σ t 3) → CJ Y d y_GA_codeAt [sR t (.inl 1), sI v3] σ (rI fun r1 σ1 => ((¬ r1 = v1 → Jd Y (d + 1) y_GA_countCode 24 [(0, sR t (.inl 1)), (1, sI v1), (2, sI v2), (3, sI v3)] [] σ1 Q) ∧ (r1 = v1 → Jd Y (d + 1) y_GA_countCode 24 [(0, sR t (.inl 1)), (1, sI v1), (2, sI (v2 + 1)), (3, sI v3)] [] σ1 Q)))))) :
    Jd Y (d + 1) y_GA_countCode 4 [(0, sR t (.inl 1)), (1, sI v1), (2, sI v2), (3, sI v3)] [] σ Q :=
  blk_ok (d := (d + 1)) (y := y_GA_countCode) (ft := ft_GA) (ct := ct_GA) (tab := tab_GA_countCode) ⟨tk_GA_countCode, ft_GA_ok, ct_GA_ok Y⟩ [(4, [0, 1, 2, 3]), (24, [0, 1, 2, 3])] 20 4 _ _ σ h
set_option maxRecDepth 20000 in
theorem s_GA_countCode_24 (Y : List kd) (d : Nat) (t : Nat) (v1 : Int32) (v2 : Int32) (v3 : Int32) (σ : sS) (Q : Option sv → sS → Prop)
    (h : Jd Y (d + 1) y_GA_countCode 4 [(0, sR t (.inl 1)), (1, sI v1), (2, sI v2), (3, sI (v3 + 1))] [] σ Q) :
    Jd Y (d + 1) y_GA_countCode 24 [(0, sR t (.inl 1)), (1, sI v1), (2, sI v2), (3, sI v3)] [] σ Q :=
  blk_ok (d := (d + 1)) (y := y_GA_countCode) (ft := ft_GA) (ct := ct_GA) (tab := tab_GA_countCode) ⟨tk_GA_countCode, ft_GA_ok, ct_GA_ok Y⟩ [(4, [0, 1, 2, 3]), (24, [0, 1, 2, 3])] 20 24 _ _ σ h
set_option maxRecDepth 20000 in
theorem s_GF_below_0 (Y : List kd) (d : Nat) (t : Nat) (v1 : Int32) (σ : sS) (Q : Option sv → sS → Prop)
    (h : ((¬ v1 < 0 → ((¬ (99999 : Int32) < v1 → CJ Y d y_GA_gather [sR (t + 15) (.inl 1), sR (t + 1) (.inl 3)] σ (rI fun r1 σ1 => CJ Y d y_GA_countBelow [sR (t + 15) (.inl 1), sI v1, sI 0] σ1 (rI fun r2 σ2 => Q (some (sI r2)) σ2))) ∧ ((99999 : Int32) < v1 → CJ Y d y_GF_refuse [sR t (.inl 5), sI (-6)] σ (rI fun r3 σ3 => Q (some (sI r3)) σ3)))) ∧ (v1 < 0 → CJ Y d y_GF_refuse [sR t (.inl 5), sI (-4)] σ (rI fun r4 σ4 => Q (some (sI r4)) σ4)))) :
    Jd Y (d + 1) y_GF_below 0 [(0, sR t (.inl 5)), (1, sI v1)] [] σ Q :=
  blk_ok (d := (d + 1)) (y := y_GF_below) (ft := ft_GF) (ct := ct_GF) (tab := tab_GF_below) ⟨tk_GF_below, ft_GF_ok, ct_GF_ok Y⟩ [] 27 0 _ _ σ h
set_option maxRecDepth 20000 in
theorem s_GF_waits_0 (Y : List kd) (d : Nat) (t : Nat) (σ : sS) (Q : Option sv → sS → Prop)
    (h : CJ Y d y_GA_gather [sR (t + 15) (.inl 1), sR (t + 1) (.inl 3)] σ (rI fun r1 σ1 => Q (some (sI (σ1 (t + 15) 4))) σ1)) :
    Jd Y (d + 1) y_GF_waits 0 [(0, sR t (.inl 5))] [] σ Q :=
  blk_ok (d := (d + 1)) (y := y_GF_waits) (ft := ft_GF) (ct := ct_GF) (tab := tab_GF_waits) ⟨tk_GF_waits, ft_GF_ok, ct_GF_ok Y⟩ [] 12 0 _ _ σ h
set_option maxRecDepth 20000 in
theorem s_GF_first_0 (Y : List kd) (d : Nat) (t : Nat) (σ : sS) (Q : Option sv → sS → Prop)
    (h : CJ Y d y_GA_gather [sR (t + 15) (.inl 1), sR (t + 1) (.inl 3)] σ (rI fun r1 σ1 => ((¬ (0 : Int32) < r1 → Q (some (sI (-9))) σ1) ∧ ((0 : Int32) < r1 → Q (some (sI (rd σ1 (t + 37) 6144 0))) σ1)))) :
    Jd Y (d + 1) y_GF_first 0 [(0, sR t (.inl 5))] [] σ Q :=
  blk_ok (d := (d + 1)) (y := y_GF_first) (ft := ft_GF) (ct := ct_GF) (tab := tab_GF_first) ⟨tk_GF_first, ft_GF_ok, ct_GF_ok Y⟩ [] 16 0 _ _ σ h
set_option maxRecDepth 20000 in
theorem s_GF_limited_0 (Y : List kd) (d : Nat) (t : Nat) (v1 : Int32) (v2 : Int32) (σ : sS) (Q : Option sv → sS → Prop)
    (h : ((¬ v1 < 0 → ((¬ (99 : Int32) < v1 → ((v2 = 0 → Jd Y (d + 1) y_GF_limited 40 [(0, sR t (.inl 5)), (1, sI v1), (2, sI v2)] [] σ Q) ∧ (¬ v2 = 0 → ((v2 = 1 → Jd Y (d + 1) y_GF_limited 40 [(0, sR t (.inl 5)), (1, sI v1), (2, sI v2)] [] σ Q) ∧ (¬ v2 = 1 → CJ Y d y_GF_refuse [sR t (.inl 5), sI (-2)] σ (rI fun r1 σ1 => Q (some (sI r1)) σ1)))))) ∧ ((99 : Int32) < v1 → CJ Y d y_GF_refuse [sR t (.inl 5), sI (-6)] σ (rI fun r2 σ2 => Q (some (sI r2)) σ2)))) ∧ (v1 < 0 → CJ Y d y_GF_refuse [sR t (.inl 5), sI (-4)] σ (rI fun r3 σ3 => Q (some (sI r3)) σ3)))) :
    Jd Y (d + 1) y_GF_limited 0 [(0, sR t (.inl 5)), (1, sI v1), (2, sI v2)] [] σ Q :=
  blk_ok (d := (d + 1)) (y := y_GF_limited) (ft := ft_GF) (ct := ct_GF) (tab := tab_GF_limited) ⟨tk_GF_limited, ft_GF_ok, ct_GF_ok Y⟩ [(40, [0, 1, 2])] 48 0 _ _ σ h
set_option maxRecDepth 20000 in
theorem s_GF_limited_40 (Y : List kd) (d : Nat) (t : Nat) (v1 : Int32) (v2 : Int32) (σ : sS) (Q : Option sv → sS → Prop)
    (h : CJ Y d y_GA_gather [sR (t + 15) (.inl 1), sR (t + 1) (.inl 3)] σ (rI fun r1 σ1 => ((¬ v2 = 0 → ((¬ (0 : Int32) < (if r1 < v1 then r1 else v1) → Q (some (sI (-9))) σ1) ∧ ((0 : Int32) < (if r1 < v1 then r1 else v1) → Q (some (sI (rd σ1 (t + 37) 6144 ((if r1 < v1 then r1 else v1) - 1)))) σ1))) ∧ (v2 = 0 → Q (some (sI (if r1 < v1 then r1 else v1))) σ1)))) :
    Jd Y (d + 1) y_GF_limited 40 [(0, sR t (.inl 5)), (1, sI v1), (2, sI v2)] [] σ Q :=
  blk_ok (d := (d + 1)) (y := y_GF_limited) (ft := ft_GF) (ct := ct_GF) (tab := tab_GF_limited) ⟨tk_GF_limited, ft_GF_ok, ct_GF_ok Y⟩ [(40, [0, 1, 2])] 48 40 _ _ σ h
set_option maxRecDepth 20000 in
theorem s_GF_total_0 (Y : List kd) (d : Nat) (t : Nat) (σ : sS) (Q : Option sv → sS → Prop)
    (h : CJ Y d y_GA_gather [sR (t + 15) (.inl 1), sR (t + 1) (.inl 3)] σ (rI fun r1 σ1 => ((¬ (0 : Int32) < r1 → Jd Y (d + 1) y_GF_total 21 [(0, sR t (.inl 5)), (1, sI 0), (2, sI 0)] [] σ1 Q) ∧ ((0 : Int32) < r1 → Q (some (sI (-9))) σ1)))) :
    Jd Y (d + 1) y_GF_total 0 [(0, sR t (.inl 5))] [] σ Q :=
  blk_ok (d := (d + 1)) (y := y_GF_total) (ft := ft_GF) (ct := ct_GF) (tab := tab_GF_total) ⟨tk_GF_total, ft_GF_ok, ct_GF_ok Y⟩ [(21, [0, 1, 2]), (60, [0, 1, 2])] 37 0 _ _ σ h
set_option maxRecDepth 20000 in
theorem s_GF_total_21 (Y : List kd) (d : Nat) (t : Nat) (v1 : Int32) (v2 : Int32) (σ : sS) (Q : Option sv → sS → Prop)
    (h : ((¬ v2 < (σ (t + 1) 6) → Q (some (sI v1)) σ) ∧ (v2 < (σ (t + 1) 6) → ((¬ (rd σ (t + 2) 20 v2) = 0 → Jd Y (d + 1) y_GF_total 60 [(0, sR t (.inl 5)), (1, sI v1), (2, sI v2)] [] σ Q) ∧ ((rd σ (t + 2) 20 v2) = 0 → Jd Y (d + 1) y_GF_total 60 [(0, sR t (.inl 5)), (1, sI (v1 + (rd σ (t + 3) 20 v2))), (2, sI v2)] [] σ Q))))) :
    Jd Y (d + 1) y_GF_total 21 [(0, sR t (.inl 5)), (1, sI v1), (2, sI v2)] [] σ Q :=
  blk_ok (d := (d + 1)) (y := y_GF_total) (ft := ft_GF) (ct := ct_GF) (tab := tab_GF_total) ⟨tk_GF_total, ft_GF_ok, ct_GF_ok Y⟩ [(21, [0, 1, 2]), (60, [0, 1, 2])] 37 21 _ _ σ h
set_option maxRecDepth 20000 in
theorem s_GF_total_60 (Y : List kd) (d : Nat) (t : Nat) (v1 : Int32) (v2 : Int32) (σ : sS) (Q : Option sv → sS → Prop)
    (h : Jd Y (d + 1) y_GF_total 21 [(0, sR t (.inl 5)), (1, sI v1), (2, sI (v2 + 1))] [] σ Q) :
    Jd Y (d + 1) y_GF_total 60 [(0, sR t (.inl 5)), (1, sI v1), (2, sI v2)] [] σ Q :=
  blk_ok (d := (d + 1)) (y := y_GF_total) (ft := ft_GF) (ct := ct_GF) (tab := tab_GF_total) ⟨tk_GF_total, ft_GF_ok, ct_GF_ok Y⟩ [(21, [0, 1, 2]), (60, [0, 1, 2])] 37 60 _ _ σ h
set_option maxRecDepth 20000 in
theorem s_GF_same_0 (Y : List kd) (d : Nat) (t : Nat) (v1 : Int32) (v2 : Int32) (σ : sS) (Q : Option sv → sS → Prop)
    (h : CJ Y d y_TR_find [sR (t + 1) (.inl 3), sI v1] σ (rI fun r1 σ1 => CJ Y d y_TR_find [sR (t + 1) (.inl 3), sI v2] σ1 (rI fun r2 σ2 => ((r1 < 0 → Jd Y (d + 1) y_GF_same 28 [(0, sR t (.inl 5))] [] σ2 Q) ∧ (¬ r1 < 0 → ((¬ r2 < 0 → CJ Y d y_TR_alike [sR (t + 1) (.inl 3), sI r1, sI r2] σ2 (rI fun r3 σ3 => ((r3 = 0 → Q (some (sI 0)) σ3) ∧ (¬ r3 = 0 → Q (some (sI 1)) σ3)))) ∧ (r2 < 0 → Jd Y (d + 1) y_GF_same 28 [(0, sR t (.inl 5))] [] σ2 Q))))))) :
    Jd Y (d + 1) y_GF_same 0 [(0, sR t (.inl 5)), (1, sI v1), (2, sI v2)] [] σ Q :=
  blk_ok (d := (d + 1)) (y := y_GF_same) (ft := ft_GF) (ct := ct_GF) (tab := tab_GF_same) ⟨tk_GF_same, ft_GF_ok, ct_GF_ok Y⟩ [(28, [0])] 30 0 _ _ σ h
set_option maxRecDepth 20000 in
theorem s_GF_same_28 (Y : List kd) (d : Nat) (t : Nat) (σ : sS) (Q : Option sv → sS → Prop)
    (h : CJ Y d y_GF_refuse [sR t (.inl 5), sI (-1)] σ (rI fun r1 σ1 => Q (some (sI r1)) σ1)) :
    Jd Y (d + 1) y_GF_same 28 [(0, sR t (.inl 5))] [] σ Q :=
  blk_ok (d := (d + 1)) (y := y_GF_same) (ft := ft_GF) (ct := ct_GF) (tab := tab_GF_same) ⟨tk_GF_same, ft_GF_ok, ct_GF_ok Y⟩ [(28, [0])] 30 28 _ _ σ h
set_option maxRecDepth 20000 in
theorem s_TR_find_0 (Y : List kd) (d : Nat) (t : Nat) (v1 : Int32) (σ : sS) (Q : Option sv → sS → Prop)
    (h : Jd Y (d + 1) y_TR_find 2 [(0, sR t (.inl 3)), (1, sI v1), (2, sI 0)] [] σ Q) :
    Jd Y (d + 1) y_TR_find 0 [(0, sR t (.inl 3)), (1, sI v1)] [] σ Q :=
  blk_ok (d := (d + 1)) (y := y_TR_find) (ft := ft_TR) (ct := ct_TR) (tab := tab_TR_find) ⟨tk_TR_find, ft_TR_ok, ct_TR_ok Y⟩ [(2, [0, 1, 2])] 20 0 _ _ σ h
set_option maxRecDepth 20000 in
theorem s_TR_find_2 (Y : List kd) (d : Nat) (t : Nat) (v1 : Int32) (v2 : Int32) (σ : sS) (Q : Option sv → sS → Prop)
    (h : ((¬ v2 < (σ t 6) → Q (some (sI (-1))) σ) ∧ (v2 < (σ t 6) → ((¬ (rd σ (t + 6) 20 v2) = v1 → Jd Y (d + 1) y_TR_find 2 [(0, sR t (.inl 3)), (1, sI v1), (2, sI (v2 + 1))] [] σ Q) ∧ ((rd σ (t + 6) 20 v2) = v1 → Q (some (sI v2)) σ))))) :
    Jd Y (d + 1) y_TR_find 2 [(0, sR t (.inl 3)), (1, sI v1), (2, sI v2)] [] σ Q :=
  blk_ok (d := (d + 1)) (y := y_TR_find) (ft := ft_TR) (ct := ct_TR) (tab := tab_TR_find) ⟨tk_TR_find, ft_TR_ok, ct_TR_ok Y⟩ [(2, [0, 1, 2])] 20 2 _ _ σ h
set_option maxRecDepth 20000 in
theorem s_GF_image_0 (Y : List kd) (d : Nat) (t : Nat) (σ : sS) (Q : Option sv → sS → Prop)
    (h : CJ Y d y_TR_take [sR (t + 67) (.inl 3), sR (t + 1) (.inl 3)] σ (rN fun σ1 => CJ Y d y_PL_take [sR (t + 74) (.inl 2), sR (t + 16) (.inl 2)] σ1 (rN fun σ2 => (((1 : Int32) = 0 ∨ (1 : Int32) = 1) ∧ Q (some (sI ((up σ2 t 12 1) (t + 1) 6))) (up σ2 t 12 1))))) :
    Jd Y (d + 1) y_GF_image 0 [(0, sR t (.inl 5))] [] σ Q :=
  blk_ok (d := (d + 1)) (y := y_GF_image) (ft := ft_GF) (ct := ct_GF) (tab := tab_GF_image) ⟨tk_GF_image, ft_GF_ok, ct_GF_ok Y⟩ [] 20 0 _ _ σ h
set_option maxRecDepth 20000 in
theorem s_TR_take_0 (Y : List kd) (d : Nat) (t : Nat) (a1 : Nat) (σ : sS) (Q : Option sv → sS → Prop)
    (h : CJ Y d y_GF_copy [sR (a1 + 1) (.inr 20), sR (t + 1) (.inr 20)] σ (rN fun σ1 => CJ Y d y_GF_copy [sR (a1 + 2) (.inr 20), sR (t + 2) (.inr 20)] σ1 (rN fun σ2 => CJ Y d y_GF_copy [sR (a1 + 3) (.inr 20), sR (t + 3) (.inr 20)] σ2 (rN fun σ3 => CJ Y d y_GF_copy [sR (a1 + 4) (.inr 20), sR (t + 4) (.inr 20)] σ3 (rN fun σ4 => CJ Y d y_GF_copy [sR (a1 + 5) (.inr 20), sR (t + 5) (.inr 20)] σ4 (rN fun σ5 => CJ Y d y_GF_copy [sR (a1 + 6) (.inr 20), sR (t + 6) (.inr 20)] σ5 (rN fun σ6 => Q none (up σ6 t 6 (σ6 a1 6))))))))) :
    Jd Y (d + 1) y_TR_take 0 [(0, sR t (.inl 3)), (1, sR a1 (.inl 3))] [] σ Q :=
  blk_ok (d := (d + 1)) (y := y_TR_take) (ft := ft_TR) (ct := ct_TR) (tab := tab_TR_take) ⟨tk_TR_take, ft_TR_ok, ct_TR_ok Y⟩ [] 40 0 _ _ σ h
set_option maxRecDepth 20000 in
theorem s_PL_take_0 (Y : List kd) (d : Nat) (t : Nat) (a1 : Nat) (σ : sS) (Q : Option sv → sS → Prop)
    (h : CJ Y d y_GF_copy [sR (a1 + 1) (.inr 24), sR (t + 1) (.inr 24)] σ (rN fun σ1 => CJ Y d y_GF_copy [sR (a1 + 2) (.inr 24), sR (t + 2) (.inr 24)] σ1 (rN fun σ2 => CJ Y d y_GF_copy [sR (a1 + 3) (.inr 24), sR (t + 3) (.inr 24)] σ2 (rN fun σ3 => CJ Y d y_GF_copy [sR (a1 + 4) (.inr 24), sR (t + 4) (.inr 24)] σ3 (rN fun σ4 => CJ Y d y_GF_copy [sR (a1 + 5) (.inr 24), sR (t + 5) (.inr 24)] σ4 (rN fun σ5 => CJ Y d y_GF_copy [sR (a1 + 6) (.inr 24), sR (t + 6) (.inr 24)] σ5 (rN fun σ6 => CJ Y d y_GF_copy [sR (a1 + 7) (.inr 24), sR (t + 7) (.inr 24)] σ6 (rN fun σ7 => CJ Y d y_GF_copy [sR (a1 + 8) (.inr 24), sR (t + 8) (.inr 24)] σ7 (rN fun σ8 => CJ Y d y_GF_copy [sR (a1 + 9) (.inr 24), sR (t + 9) (.inr 24)] σ8 (rN fun σ9 => CJ Y d y_GF_copy [sR (a1 + 10) (.inr 24), sR (t + 10) (.inr 24)] σ9 (rN fun σ10 => CJ Y d y_GF_copy [sR (a1 + 11) (.inr 32), sR (t + 11) (.inr 32)] σ10 (rN fun σ11 => CJ Y d y_GF_copy [sR (a1 + 12) (.inr 32), sR (t + 12) (.inr 32)] σ11 (rN fun σ12 => CJ Y d y_GF_copy [sR (a1 + 13) (.inr 32), sR (t + 13) (.inr 32)] σ12 (rN fun σ13 => Q none (up (up σ13 t 13 (σ13 a1 13)) t 14 ((up σ13 t 13 (σ13 a1 13)) a1 14)))))))))))))))) :
    Jd Y (d + 1) y_PL_take 0 [(0, sR t (.inl 2)), (1, sR a1 (.inl 2))] [] σ Q :=
  blk_ok (d := (d + 1)) (y := y_PL_take) (ft := ft_PL) (ct := ct_PL) (tab := tab_PL_take) ⟨tk_PL_take, ft_PL_ok, ct_PL_ok Y⟩ [] 79 0 _ _ σ h
set_option maxRecDepth 20000 in
theorem s_GF_on_0 (Y : List kd) (d : Nat) (t : Nat) (σ : sS) (Q : Option sv → sS → Prop)
    (h : ((¬ (σ t 12) = 0 → CJ Y d y_TR_take [sR (t + 1) (.inl 3), sR (t + 67) (.inl 3)] σ (rN fun σ1 => CJ Y d y_PL_take [sR (t + 16) (.inl 2), sR (t + 74) (.inl 2)] σ1 (rN fun σ2 => Q (some (sI (σ2 (t + 1) 6))) σ2))) ∧ ((σ t 12) = 0 → CJ Y d y_GF_refuse [sR t (.inl 5), sI (-3)] σ (rI fun r3 σ3 => Q (some (sI r3)) σ3)))) :
    Jd Y (d + 1) y_GF_on 0 [(0, sR t (.inl 5))] [] σ Q :=
  blk_ok (d := (d + 1)) (y := y_GF_on) (ft := ft_GF) (ct := ct_GF) (tab := tab_GF_on) ⟨tk_GF_on, ft_GF_ok, ct_GF_ok Y⟩ [] 24 0 _ _ σ h
set_option maxRecDepth 20000 in
theorem s_GF_count_0 (Y : List kd) (d : Nat) (t : Nat) (v1 : Int32) (σ : sS) (Q : Option sv → sS → Prop)
    (h : ((v1 = 0 → Q (some (sI (σ (t + 1) 6))) σ) ∧ (¬ v1 = 0 → ((v1 = 1 → Q (some (sI (σ (t + 16) 13))) σ) ∧ (¬ v1 = 1 → ((v1 = 2 → CJ Y d y_GA_gather [sR (t + 15) (.inl 1), sR (t + 1) (.inl 3)] σ (rI fun r4 σ4 => Q (some (sI r4)) σ4)) ∧ (¬ v1 = 2 → ((v1 = 3 → CJ Y d y_GF_numbers [sR t (.inl 5)] σ (rI fun r3 σ3 => Q (some (sI r3)) σ3)) ∧ (¬ v1 = 3 → ((v1 = 4 → CJ Y d y_GF_greatestPath [sR t (.inl 5)] σ (rI fun r2 σ2 => Q (some (sI r2)) σ2)) ∧ (¬ v1 = 4 → ((v1 = 5 → CJ Y d y_GA_gather [sR (t + 15) (.inl 1), sR (t + 1) (.inl 3)] σ (rI fun r1 σ1 => Q (some (sI (σ1 (t + 15) 4))) σ1)) ∧ (¬ v1 = 5 → ((v1 = 6 → Q (some (sI (σ t 8))) σ) ∧ (¬ v1 = 6 → ((v1 = 7 → Q (some (sI (σ t 6))) σ) ∧ (¬ v1 = 7 → ((v1 < 11 → Q (some (sI (-9))) σ) ∧ (¬ v1 < 11 → (((16 : Int32) < v1 → Q (some (sI (-9))) σ) ∧ (¬ (16 : Int32) < v1 → Q (some (sI (rd σ (t + 66) 7 (v1 - 10)))) σ))))))))))))))))))))) :
    Jd Y (d + 1) y_GF_count 0 [(0, sR t (.inl 5)), (1, sI v1)] [] σ Q :=
  blk_ok (d := (d + 1)) (y := y_GF_count) (ft := ft_GF) (ct := ct_GF) (tab := tab_GF_count) ⟨tk_GF_count, ft_GF_ok, ct_GF_ok Y⟩ [] 56 0 _ _ σ h
set_option maxRecDepth 20000 in
theorem s_GF_numbers_0 (Y : List kd) (d : Nat) (t : Nat) (σ : sS) (Q : Option sv → sS → Prop)
    (h : Jd Y (d + 1) y_GF_numbers 4 [(0, sR t (.inl 5)), (1, sI 0), (2, sI 0)] [] σ Q) :
    Jd Y (d + 1) y_GF_numbers 0 [(0, sR t (.inl 5))] [] σ Q :=
  blk_ok (d := (d + 1)) (y := y_GF_numbers) (ft := ft_GF) (ct := ct_GF) (tab := tab_GF_numbers) ⟨tk_GF_numbers, ft_GF_ok, ct_GF_ok Y⟩ [(4, [0, 1, 2]), (32, [0, 1, 2])] 22 0 _ _ σ h
set_option maxRecDepth 20000 in
theorem s_GF_numbers_4 (Y : List kd) (d : Nat) (t : Nat) (v1 : Int32) (v2 : Int32) (σ : sS) (Q : Option sv → sS → Prop)
    (h : ((¬ v2 < (σ (t + 1) 6) → Q (some (sI v1)) σ) ∧ (v2 < (σ (t + 1) 6) → ((¬ (rd σ (t + 2) 20 v2) = 0 → Jd Y (d + 1) y_GF_numbers 32 [(0, sR t (.inl 5)), (1, sI v1), (2, sI v2)] [] σ Q) ∧ ((rd σ (t + 2) 20 v2) = 0 → Jd Y (d + 1) y_GF_numbers 32 [(0, sR t (.inl 5)), (1, sI (v1 + 1)), (2, sI v2)] [] σ Q))))) :
    Jd Y (d + 1) y_GF_numbers 4 [(0, sR t (.inl 5)), (1, sI v1), (2, sI v2)] [] σ Q :=
  blk_ok (d := (d + 1)) (y := y_GF_numbers) (ft := ft_GF) (ct := ct_GF) (tab := tab_GF_numbers) ⟨tk_GF_numbers, ft_GF_ok, ct_GF_ok Y⟩ [(4, [0, 1, 2]), (32, [0, 1, 2])] 22 4 _ _ σ h
set_option maxRecDepth 20000 in
theorem s_GF_numbers_32 (Y : List kd) (d : Nat) (t : Nat) (v1 : Int32) (v2 : Int32) (σ : sS) (Q : Option sv → sS → Prop)
    (h : Jd Y (d + 1) y_GF_numbers 4 [(0, sR t (.inl 5)), (1, sI v1), (2, sI (v2 + 1))] [] σ Q) :
    Jd Y (d + 1) y_GF_numbers 32 [(0, sR t (.inl 5)), (1, sI v1), (2, sI v2)] [] σ Q :=
  blk_ok (d := (d + 1)) (y := y_GF_numbers) (ft := ft_GF) (ct := ct_GF) (tab := tab_GF_numbers) ⟨tk_GF_numbers, ft_GF_ok, ct_GF_ok Y⟩ [(4, [0, 1, 2]), (32, [0, 1, 2])] 22 32 _ _ σ h
set_option maxRecDepth 20000 in
theorem s_GF_greatestPath_0 (Y : List kd) (d : Nat) (t : Nat) (σ : sS) (Q : Option sv → sS → Prop)
    (h : Jd Y (d + 1) y_GF_greatestPath 4 [(0, sR t (.inl 5)), (1, sI 0), (2, sI 0)] [] σ Q) :
    Jd Y (d + 1) y_GF_greatestPath 0 [(0, sR t (.inl 5))] [] σ Q :=
  blk_ok (d := (d + 1)) (y := y_GF_greatestPath) (ft := ft_GF) (ct := ct_GF) (tab := tab_GF_greatestPath) ⟨tk_GF_greatestPath, ft_GF_ok, ct_GF_ok Y⟩ [(4, [0, 1, 2])] 23 0 _ _ σ h
set_option maxRecDepth 20000 in
theorem s_GF_greatestPath_4 (Y : List kd) (d : Nat) (t : Nat) (v1 : Int32) (v2 : Int32) (σ : sS) (Q : Option sv → sS → Prop)
    (h : ((¬ v2 < (σ (t + 1) 6) → Q (some (sI v1)) σ) ∧ (v2 < (σ (t + 1) 6) → Jd Y (d + 1) y_GF_greatestPath 4 [(0, sR t (.inl 5)), (1, sI (if v1 < (rd σ (t + 7) 20 v2) then (rd σ (t + 7) 20 v2) else v1)), (2, sI (v2 + 1))] [] σ Q))) :
    Jd Y (d + 1) y_GF_greatestPath 4 [(0, sR t (.inl 5)), (1, sI v1), (2, sI v2)] [] σ Q :=
  blk_ok (d := (d + 1)) (y := y_GF_greatestPath) (ft := ft_GF) (ct := ct_GF) (tab := tab_GF_greatestPath) ⟨tk_GF_greatestPath, ft_GF_ok, ct_GF_ok Y⟩ [(4, [0, 1, 2])] 23 4 _ _ σ h
set_option maxRecDepth 20000 in
theorem s_GF_letter_0 (Y : List kd) (d : Nat) (t : Nat) (v1 : Int32) (σ : sS) (Q : Option sv → sS → Prop)
    (h : ((¬ v1 < 0 → (((255 : Int32) < v1 → Jd Y (d + 1) y_GF_letter 27 [(0, sR t (.inl 5))] [] σ Q) ∧ (¬ (255 : Int32) < v1 → (((σ t 6) < 96 → Q (some (sI ((up (wr σ (t + 64) 96 (σ t 6) v1) t 6 (((wr σ (t + 64) 96 (σ t 6) v1) t 6) + 1)) t 6))) (up (wr σ (t + 64) 96 (σ t 6) v1) t 6 (((wr σ (t + 64) 96 (σ t 6) v1) t 6) + 1))) ∧ (¬ (σ t 6) < 96 → Jd Y (d + 1) y_GF_letter 27 [(0, sR t (.inl 5))] [] σ Q))))) ∧ (v1 < 0 → CJ Y d y_GF_refuse [sR t (.inl 5), sI (-4)] σ (rI fun r1 σ1 => Q (some (sI r1)) σ1)))) :
    Jd Y (d + 1) y_GF_letter 0 [(0, sR t (.inl 5)), (1, sI v1)] [] σ Q :=
  blk_ok (d := (d + 1)) (y := y_GF_letter) (ft := ft_GF) (ct := ct_GF) (tab := tab_GF_letter) ⟨tk_GF_letter, ft_GF_ok, ct_GF_ok Y⟩ [(27, [0])] 34 0 _ _ σ h
set_option maxRecDepth 20000 in
theorem s_GF_letter_27 (Y : List kd) (d : Nat) (t : Nat) (σ : sS) (Q : Option sv → sS → Prop)
    (h : CJ Y d y_GF_refuse [sR t (.inl 5), sI (-6)] σ (rI fun r1 σ1 => Q (some (sI r1)) σ1)) :
    Jd Y (d + 1) y_GF_letter 27 [(0, sR t (.inl 5))] [] σ Q :=
  blk_ok (d := (d + 1)) (y := y_GF_letter) (ft := ft_GF) (ct := ct_GF) (tab := tab_GF_letter) ⟨tk_GF_letter, ft_GF_ok, ct_GF_ok Y⟩ [(27, [0])] 34 27 _ _ σ h
set_option maxRecDepth 20000 in
theorem s_GF_check_0 (Y : List kd) (d : Nat) (t : Nat) (σ : sS) (Q : Option sv → sS → Prop)
    (h : CJ Y d y_RD_read [sR (t + 47) (.inl 0), sR (t + 64) (.inr 96), sI (σ t 6)] σ (rI fun r1 σ1 => ((r1 = 0 → CJ Y d y_PL_take [sR (t + 16) (.inl 2), sR (t + 49) (.inl 2)] (up σ1 t 6 0) (rN fun σ2 => Q (some (sI (σ2 (t + 16) 13))) σ2)) ∧ (¬ r1 = 0 → Q (some (sI r1)) (up σ1 t 6 0))))) :
    Jd Y (d + 1) y_GF_check 0 [(0, sR t (.inl 5))] [] σ Q :=
  blk_ok (d := (d + 1)) (y := y_GF_check) (ft := ft_GF) (ct := ct_GF) (tab := tab_GF_check) ⟨tk_GF_check, ft_GF_ok, ct_GF_ok Y⟩ [] 29 0 _ _ σ h
set_option maxRecDepth 20000 in
theorem s_RD_readC_0 (Y : List kd) (d : Nat) (t : Nat) (a1 : Nat) (v2 : Int32) (σ : sS) (Q : Option sv → sS → Prop)
    (h : CJ Y d y_RD_stumble [sR t (.inl 0), sR a1 (.inr 96), sI v2] σ (rI fun r1 σ1 => ((r1 < 0 → CJ Y d y_CR_build [sR t (.inl 0), sR a1 (.inr 96), sI v2] (up σ1 t 1 0) (rI fun r2 σ2 => ((r2 < 0 → Q (some (sI 0)) σ2) ∧ (¬ r2 < 0 → Q (some (sI ((-2000) - r2))) σ2)))) ∧ (¬ r1 < 0 → Q (some (sI ((-1000) - r1))) σ1)))) :
    Jd Y (d + 1) y_RD_read 0 [(0, sR t (.inl 0)), (1, sR a1 (.inr 96)), (2, sI v2)] [] σ Q :=
  blk_ok (d := (d + 1)) (y := y_RD_read) (ft := ft_RD) (ct := ct_RD) (tab := tab_RD_read) ⟨tk_RD_read, ft_RD_ok, ct_RD_ok Y⟩ [] 29 0 _ _ σ h
set_option maxRecDepth 20000 in
theorem s_RD_readV_0 (Y : List kd) (d : Nat) (t : Nat) (a1 : Nat) (v2 : Int32) (σ : sS) (Q : Option sv → sS → Prop)
    (h : CJ Y d y_RD_stumble [sR t (.inl 4), sR a1 (.inr 96), sI v2] σ (rI fun r1 σ1 => ((r1 < 0 → CJ Y d y_VR_build [sR t (.inl 4), sR a1 (.inr 96), sI v2] (up σ1 t 1 0) (rI fun r2 σ2 => ((r2 < 0 → Q (some (sI 0)) σ2) ∧ (¬ r2 < 0 → Q (some (sI ((-2000) - r2))) σ2)))) ∧ (¬ r1 < 0 → Q (some (sI ((-1000) - r1))) σ1)))) :
    Jd Y (d + 1) y_RD_read 0 [(0, sR t (.inl 4)), (1, sR a1 (.inr 96)), (2, sI v2)] [] σ Q :=
  blk_ok (d := (d + 1)) (y := y_RD_read) (ft := ft_RD) (ct := ct_RD) (tab := tab_RD_read) ⟨tk_RD_read, ft_RD_ok, ct_RD_ok Y⟩ [] 29 0 _ _ σ h
set_option maxRecDepth 20000 in
theorem s_RD_stumbleC_0 (Y : List kd) (d : Nat) (t : Nat) (a1 : Nat) (v2 : Int32) (σ : sS) (Q : Option sv → sS → Prop)
    (h : (((0 : Int32) = 0 ∨ (0 : Int32) = 1) ∧ Jd Y (d + 1) y_RD_stumble 17 [(0, sR t (.inl 0)), (1, sR a1 (.inr 96)), (2, sI v2), (3, sI 0)] [] (up (up (up σ t 1 0) t 2 0) t 3 0) Q)) :
    Jd Y (d + 1) y_RD_stumble 0 [(0, sR t (.inl 0)), (1, sR a1 (.inr 96)), (2, sI v2)] [] σ Q :=
  blk_ok (d := (d + 1)) (y := y_RD_stumble) (ft := ft_RD) (ct := ct_RD) (tab := tab_RD_stumble) ⟨tk_RD_stumble, ft_RD_ok, ct_RD_ok Y⟩ [(17, [0, 1, 2, 3])] 34 0 _ _ σ h
set_option maxRecDepth 20000 in
theorem s_RD_stumbleC_17 (Y : List kd) (d : Nat) (t : Nat) (a1 : Nat) (v2 : Int32) (v3 : Int32) (σ : sS) (Q : Option sv → sS → Prop)
    (h : ((¬ v3 < v2 → ((¬ (σ t 2) = 1 → Q (some (sI v2)) σ) ∧ ((σ t 2) = 1 → Q (some (sI (-1))) σ))) ∧ (v3 < v2 → CJ Y d y_CR_goesOn [sR t (.inl 0), sI (rd σ a1 96 v3)] σ (rI fun r1 σ1 => ((¬ r1 = 0 → Jd Y (d + 1) y_RD_stumble 17 [(0, sR t (.inl 0)), (1, sR a1 (.inr 96)), (2, sI v2), (3, sI (v3 + 1))] [] σ1 Q) ∧ (r1 = 0 → Q (some (sI v3)) σ1)))))) :
    Jd Y (d + 1) y_RD_stumble 17 [(0, sR t (.inl 0)), (1, sR a1 (.inr 96)), (2, sI v2), (3, sI v3)] [] σ Q :=
  blk_ok (d := (d + 1)) (y := y_RD_stumble) (ft := ft_RD) (ct := ct_RD) (tab := tab_RD_stumble) ⟨tk_RD_stumble, ft_RD_ok, ct_RD_ok Y⟩ [(17, [0, 1, 2, 3])] 34 17 _ _ σ h
set_option maxRecDepth 20000 in
theorem s_RD_stumbleV_0 (Y : List kd) (d : Nat) (t : Nat) (a1 : Nat) (v2 : Int32) (σ : sS) (Q : Option sv → sS → Prop)
    (h : (((0 : Int32) = 0 ∨ (0 : Int32) = 1) ∧ Jd Y (d + 1) y_RD_stumble 17 [(0, sR t (.inl 4)), (1, sR a1 (.inr 96)), (2, sI v2), (3, sI 0)] [] (up (up (up σ t 1 0) t 2 0) t 3 0) Q)) :
    Jd Y (d + 1) y_RD_stumble 0 [(0, sR t (.inl 4)), (1, sR a1 (.inr 96)), (2, sI v2)] [] σ Q :=
  blk_ok (d := (d + 1)) (y := y_RD_stumble) (ft := ft_RD) (ct := ct_RD) (tab := tab_RD_stumble) ⟨tk_RD_stumble, ft_RD_ok, ct_RD_ok Y⟩ [(17, [0, 1, 2, 3])] 34 0 _ _ σ h
set_option maxRecDepth 20000 in
theorem s_RD_stumbleV_17 (Y : List kd) (d : Nat) (t : Nat) (a1 : Nat) (v2 : Int32) (v3 : Int32) (σ : sS) (Q : Option sv → sS → Prop)
    (h : ((¬ v3 < v2 → ((¬ (σ t 2) = 1 → Q (some (sI v2)) σ) ∧ ((σ t 2) = 1 → Q (some (sI (-1))) σ))) ∧ (v3 < v2 → CJ Y d y_VR_goesOn [sR t (.inl 4), sI (rd σ a1 96 v3)] σ (rI fun r1 σ1 => ((¬ r1 = 0 → Jd Y (d + 1) y_RD_stumble 17 [(0, sR t (.inl 4)), (1, sR a1 (.inr 96)), (2, sI v2), (3, sI (v3 + 1))] [] σ1 Q) ∧ (r1 = 0 → Q (some (sI v3)) σ1)))))) :
    Jd Y (d + 1) y_RD_stumble 17 [(0, sR t (.inl 4)), (1, sR a1 (.inr 96)), (2, sI v2), (3, sI v3)] [] σ Q :=
  blk_ok (d := (d + 1)) (y := y_RD_stumble) (ft := ft_RD) (ct := ct_RD) (tab := tab_RD_stumble) ⟨tk_RD_stumble, ft_RD_ok, ct_RD_ok Y⟩ [(17, [0, 1, 2, 3])] 34 17 _ _ σ h
set_option maxRecDepth 20000 in
theorem s_CR_goesOn_0 (Y : List kd) (d : Nat) (t : Nat) (v1 : Int32) (σ : sS) (Q : Option sv → sS → Prop)
    (h : (((σ t 2) = 0 → CJ Y d y_CR_begins [sR t (.inl 0), sI v1] σ (rI fun r5 σ5 => ((r5 = 0 ∨ r5 = 1) ∧ Q (some (sI r5)) σ5))) ∧ (¬ (σ t 2) = 0 → (((σ t 2) = 1 → (((0 : Int32) = 0 ∨ (0 : Int32) = 1) ∧ Q (some (sI 0)) σ)) ∧ (¬ (σ t 2) = 1 → (((σ t 2) = 2 → ((¬ ((up σ t 6 ((σ t 6) - 1)) t 6) = 0 → Jd Y (d + 1) y_CR_goesOn 75 [(1, sI v1)] [] (up σ t 6 ((σ t 6) - 1)) Q) ∧ (((up σ t 6 ((σ t 6) - 1)) t 6) = 0 → CJ Y d y_CR_goBehindDigits [sR t (.inl 0)] (up σ t 6 ((σ t 6) - 1)) (rN fun σ4 => Jd Y (d + 1) y_CR_goesOn 75 [(1, sI v1)] [] σ4 Q)))) ∧ (¬ (σ t 2) = 2 → (((σ t 2) = 3 → CJ Y d y_CR_field [sR t (.inl 0), sI v1] σ (rI fun r2 σ2 => ((¬ r2 = 0 → (((1 : Int32) = 0 ∨ (1 : Int32) = 1) ∧ Q (some (sI 1)) σ2)) ∧ (r2 = 0 → CJ Y d y_CR_last [sR t (.inl 0), sI v1] σ2 (rI fun r3 σ3 => ((r3 = 0 → (((0 : Int32) = 0 ∨ (0 : Int32) = 1) ∧ Q (some (sI 0)) σ3)) ∧ (¬ r3 = 0 → (((1 : Int32) = 0 ∨ (1 : Int32) = 1) ∧ Q (some (sI 1)) σ3)))))))) ∧ (¬ (σ t 2) = 3 → (((σ t 2) = 4 → (((iNam v1) = 0 ∨ (iNam v1) = 1) ∧ Q (some (sI (iNam v1))) (up σ t 2 0))) ∧ (¬ (σ t 2) = 4 → (((σ t 2) = 5 → CJ Y d y_CR_last [sR t (.inl 0), sI v1] σ (rI fun r1 σ1 => ((r1 = 0 ∨ r1 = 1) ∧ Q (some (sI r1)) σ1))) ∧ (¬ (σ t 2) = 5 → (((σ t 2) = 6 → ((¬ ((up σ t 6 ((σ t 6) - 1)) t 6) = 0 → Jd Y (d + 1) y_CR_goesOn 142 [(1, sI v1)] [sI 6, sR t (.inl 0)] (up σ t 6 ((σ t 6) - 1)) Q) ∧ (((up σ t 6 ((σ t 6) - 1)) t 6) = 0 → Jd Y (d + 1) y_CR_goesOn 142 [(1, sI v1)] [sI 5, sR t (.inl 0)] (up σ t 6 ((σ t 6) - 1)) Q))) ∧ (¬ (σ t 2) = 6 → (((0 : Int32) = 0 ∨ (0 : Int32) = 1) ∧ Q (some (sI 0)) σ)))))))))))))))) :
    Jd Y (d + 1) y_CR_goesOn 0 [(0, sR t (.inl 0)), (1, sI v1)] [] σ Q :=
  blk_ok (d := (d + 1)) (y := y_CR_goesOn) (ft := ft_CR) (ct := ct_CR) (tab := tab_CR_goesOn) ⟨tk_CR_goesOn, ft_CR_ok, ct_CR_ok Y⟩ [(75, [1]), (142, [1])] 64 0 _ _ σ h
set_option maxRecDepth 20000 in
theorem s_CR_goesOn_75 (Y : List kd) (d : Nat) (v1 : Int32) (σ : sS) (Q : Option sv → sS → Prop)
    (h : (((iDig v1) = 0 ∨ (iDig v1) = 1) ∧ Q (some (sI (iDig v1))) σ)) :
    Jd Y (d + 1) y_CR_goesOn 75 [(1, sI v1)] [] σ Q :=
  blk_ok (d := (d + 1)) (y := y_CR_goesOn) (ft := ft_CR) (ct := ct_CR) (tab := tab_CR_goesOn) ⟨tk_CR_goesOn, ft_CR_ok, ct_CR_ok Y⟩ [(75, [1]), (142, [1])] 64 75 _ _ σ h
set_option maxRecDepth 20000 in
theorem s_CR_goesOn_142 (Y : List kd) (d : Nat) (v1 : Int32) (s0 : Int32) (b1 : Nat) (σ : sS) (Q : Option sv → sS → Prop)
    (h : (((iNam v1) = 0 ∨ (iNam v1) = 1) ∧ Q (some (sI (iNam v1))) (up σ b1 2 s0))) :
    Jd Y (d + 1) y_CR_goesOn 142 [(1, sI v1)] [sI s0, sR b1 (.inl 0)] σ Q :=
  blk_ok (d := (d + 1)) (y := y_CR_goesOn) (ft := ft_CR) (ct := ct_CR) (tab := tab_CR_goesOn) ⟨tk_CR_goesOn, ft_CR_ok, ct_CR_ok Y⟩ [(75, [1]), (142, [1])] 64 142 _ _ σ h
set_option maxRecDepth 20000 in
theorem s_CR_begins_0 (Y : List kd) (d : Nat) (t : Nat) (v1 : Int32) (σ : sS) (Q : Option sv → sS → Prop)
    (h : ((v1 = 33 → (((1 : Int32) = 0 ∨ (1 : Int32) = 1) ∧ Q (some (sI 1)) σ)) ∧ (¬ v1 = 33 → ((v1 = 35 → ((¬ v1 = 35 → Jd Y (d + 1) y_CR_begins 107 [(0, sR t (.inl 0)), (1, sI v1)] [sI 2, sR t (.inl 0)] (up σ t 2 2) Q) ∧ (v1 = 35 → Jd Y (d + 1) y_CR_begins 107 [(0, sR t (.inl 0)), (1, sI v1)] [sI 4, sR t (.inl 0)] (up σ t 2 2) Q))) ∧ (¬ v1 = 35 → ((v1 = 38 → (((1 : Int32) = 0 ∨ (1 : Int32) = 1) ∧ Q (some (sI 1)) σ)) ∧ (¬ v1 = 38 → ((v1 = 42 → CJ Y d y_CR_ends [sR t (.inl 0)] σ (rN fun σ4 => (((1 : Int32) = 0 ∨ (1 : Int32) = 1) ∧ Q (some (sI 1)) σ4))) ∧ (¬ v1 = 42 → ((v1 = 47 → CJ Y d y_RD_push [sR t (.inl 0), sI v1] σ (rN fun σ3 => (((1 : Int32) = 0 ∨ (1 : Int32) = 1) ∧ Q (some (sI 1)) σ3))) ∧ (¬ v1 = 47 → ((v1 = 64 → ((¬ v1 = 35 → Jd Y (d + 1) y_CR_begins 107 [(0, sR t (.inl 0)), (1, sI v1)] [sI 2, sR t (.inl 0)] (up σ t 2 2) Q) ∧ (v1 = 35 → Jd Y (d + 1) y_CR_begins 107 [(0, sR t (.inl 0)), (1, sI v1)] [sI 4, sR t (.inl 0)] (up σ t 2 2) Q))) ∧ (¬ v1 = 64 → ((v1 = 94 → CJ Y d y_CR_ends [sR t (.inl 0)] σ (rN fun σ2 => (((1 : Int32) = 0 ∨ (1 : Int32) = 1) ∧ Q (some (sI 1)) σ2))) ∧ (¬ v1 = 94 → ((v1 = 123 → CJ Y d y_RD_push [sR t (.inl 0), sI v1] σ (rN fun σ1 => (((1 : Int32) = 0 ∨ (1 : Int32) = 1) ∧ Q (some (sI 1)) (up σ1 t 2 3)))) ∧ (¬ v1 = 123 → ((v1 = 126 → (((1 : Int32) = 0 ∨ (1 : Int32) = 1) ∧ Q (some (sI 1)) σ)) ∧ (¬ v1 = 126 → (((0 : Int32) = 0 ∨ (0 : Int32) = 1) ∧ Q (some (sI 0)) σ)))))))))))))))))))) :
    Jd Y (d + 1) y_CR_begins 0 [(0, sR t (.inl 0)), (1, sI v1)] [] σ Q :=
  blk_ok (d := (d + 1)) (y := y_CR_begins) (ft := ft_CR) (ct := ct_CR) (tab := tab_CR_begins) ⟨tk_CR_begins, ft_CR_ok, ct_CR_ok Y⟩ [(107, [0, 1])] 46 0 _ _ σ h
set_option maxRecDepth 20000 in
theorem s_CR_begins_107 (Y : List kd) (d : Nat) (t : Nat) (v1 : Int32) (s0 : Int32) (b1 : Nat) (σ : sS) (Q : Option sv → sS → Prop)
    (h : ((¬ v1 = 64 → (((0 : Int32) = 0 ∨ (0 : Int32) = 1) ∧ (((1 : Int32) = 0 ∨ (1 : Int32) = 1) ∧ Q (some (sI 1)) (up (up σ b1 6 s0) t 7 0)))) ∧ (v1 = 64 → (((1 : Int32) = 0 ∨ (1 : Int32) = 1) ∧ (((1 : Int32) = 0 ∨ (1 : Int32) = 1) ∧ Q (some (sI 1)) (up (up σ b1 6 s0) t 7 1)))))) :
    Jd Y (d + 1) y_CR_begins 107 [(0, sR t (.inl 0)), (1, sI v1)] [sI s0, sR b1 (.inl 0)] σ Q :=
  blk_ok (d := (d + 1)) (y := y_CR_begins) (ft := ft_CR) (ct := ct_CR) (tab := tab_CR_begins) ⟨tk_CR_begins, ft_CR_ok, ct_CR_ok Y⟩ [(107, [0, 1])] 46 107 _ _ σ h
set_option maxRecDepth 20000 in
theorem s_CR_ends_0 (Y : List kd) (d : Nat) (t : Nat) (σ : sS) (Q : Option sv → sS → Prop)
    (h : ((¬ (σ t 1) = 0 → CJ Y d y_RD_top [sR t (.inl 0)] σ (rI fun r1 σ1 => ((¬ r1 = 47 → Q none (up σ1 t 2 3)) ∧ (r1 = 47 → CJ Y d y_RD_pop [sR t (.inl 0)] σ1 (rN fun σ2 => Q none (up σ2 t 2 0)))))) ∧ ((σ t 1) = 0 → Q none (up σ t 2 1)))) :
    Jd Y (d + 1) y_CR_ends 0 [(0, sR t (.inl 0))] [] σ Q :=
  blk_ok (d := (d + 1)) (y := y_CR_ends) (ft := ft_CR) (ct := ct_CR) (tab := tab_CR_ends) ⟨tk_CR_ends, ft_CR_ok, ct_CR_ok Y⟩ [] 23 0 _ _ σ h
set_option maxRecDepth 20000 in
theorem s_RD_topC_0 (Y : List kd) (d : Nat) (t : Nat) (σ : sS) (Q : Option sv → sS → Prop)
    (h : ((¬ (0 : Int32) < (σ t 1) → Q (some (sI (-1))) σ) ∧ ((0 : Int32) < (σ t 1) → Q (some (sI (rd σ (t + 1) 96 ((σ t 1) - 1)))) σ))) :
    Jd Y (d + 1) y_RD_top 0 [(0, sR t (.inl 0))] [] σ Q :=
  blk_ok (d := (d + 1)) (y := y_RD_top) (ft := ft_RD) (ct := ct_RD) (tab := tab_RD_top) ⟨tk_RD_top, ft_RD_ok, ct_RD_ok Y⟩ [] 15 0 _ _ σ h
set_option maxRecDepth 20000 in
theorem s_RD_topV_0 (Y : List kd) (d : Nat) (t : Nat) (σ : sS) (Q : Option sv → sS → Prop)
    (h : ((¬ (0 : Int32) < (σ t 1) → Q (some (sI (-1))) σ) ∧ ((0 : Int32) < (σ t 1) → Q (some (sI (rd σ (t + 1) 96 ((σ t 1) - 1)))) σ))) :
    Jd Y (d + 1) y_RD_top 0 [(0, sR t (.inl 4))] [] σ Q :=
  blk_ok (d := (d + 1)) (y := y_RD_top) (ft := ft_RD) (ct := ct_RD) (tab := tab_RD_top) ⟨tk_RD_top, ft_RD_ok, ct_RD_ok Y⟩ [] 15 0 _ _ σ h
set_option maxRecDepth 20000 in
theorem s_RD_popC_0 (Y : List kd) (d : Nat) (t : Nat) (σ : sS) (Q : Option sv → sS → Prop)
    (h : ((¬ (0 : Int32) < (σ t 1) → Q none σ) ∧ ((0 : Int32) < (σ t 1) → Q none (up σ t 1 ((σ t 1) - 1))))) :
    Jd Y d y_RD_pop 0 [(0, sR t (.inl 0))] [] σ Q :=
  blk_ok (d := d) (y := y_RD_pop) (ft := ft_RD) (ct := ct_RD) (tab := tab_RD_pop) ⟨tk_RD_pop, ft_RD_ok, ct_RD_ok Y⟩ [] 12 0 _ _ σ h
set_option maxRecDepth 20000 in
theorem s_RD_popV_0 (Y : List kd) (d : Nat) (t : Nat) (σ : sS) (Q : Option sv → sS → Prop)
    (h : ((¬ (0 : Int32) < (σ t 1) → Q none σ) ∧ ((0 : Int32) < (σ t 1) → Q none (up σ t 1 ((σ t 1) - 1))))) :
    Jd Y d y_RD_pop 0 [(0, sR t (.inl 4))] [] σ Q :=
  blk_ok (d := d) (y := y_RD_pop) (ft := ft_RD) (ct := ct_RD) (tab := tab_RD_pop) ⟨tk_RD_pop, ft_RD_ok, ct_RD_ok Y⟩ [] 12 0 _ _ σ h
set_option maxRecDepth 20000 in
theorem s_RD_pushC_0 (Y : List kd) (d : Nat) (t : Nat) (v1 : Int32) (σ : sS) (Q : Option sv → sS → Prop)
    (h : Q none (up (wr σ (t + 1) 96 (σ t 1) v1) t 1 (((wr σ (t + 1) 96 (σ t 1) v1) t 1) + 1))) :
    Jd Y (d + 1) y_RD_push 0 [(0, sR t (.inl 0)), (1, sI v1)] [] σ Q :=
  blk_ok (d := (d + 1)) (y := y_RD_push) (ft := ft_RD) (ct := ct_RD) (tab := tab_RD_push) ⟨tk_RD_push, ft_RD_ok, ct_RD_ok Y⟩ [] 15 0 _ _ σ h
set_option maxRecDepth 20000 in
theorem s_RD_pushV_0 (Y : List kd) (d : Nat) (t : Nat) (v1 : Int32) (σ : sS) (Q : Option sv → sS → Prop)
    (h : Q none (up (wr σ (t + 1) 96 (σ t 1) v1) t 1 (((wr σ (t + 1) 96 (σ t 1) v1) t 1) + 1))) :
    Jd Y (d + 1) y_RD_push 0 [(0, sR t (.inl 4)), (1, sI v1)] [] σ Q :=
  blk_ok (d := (d + 1)) (y := y_RD_push) (ft := ft_RD) (ct := ct_RD) (tab := tab_RD_push) ⟨tk_RD_push, ft_RD_ok, ct_RD_ok Y⟩ [] 15 0 _ _ σ h
set_option maxRecDepth 20000 in
theorem s_CR_goBehindDigits_0 (Y : List kd) (d : Nat) (t : Nat) (σ : sS) (Q : Option sv → sS → Prop)
    (h : (((σ t 7) = 0 → CJ Y d y_CR_ends [sR t (.inl 0)] σ (rN fun σ1 => Q none σ1)) ∧ (¬ (σ t 7) = 0 → Q none (up σ t 2 0)))) :
    Jd Y (d + 1) y_CR_goBehindDigits 0 [(0, sR t (.inl 0))] [] σ Q :=
  blk_ok (d := (d + 1)) (y := y_CR_goBehindDigits) (ft := ft_CR) (ct := ct_CR) (tab := tab_CR_goBehindDigits) ⟨tk_CR_goBehindDigits, ft_CR_ok, ct_CR_ok Y⟩ [] 12 0 _ _ σ h
set_option maxRecDepth 20000 in
theorem s_CR_field_0 (Y : List kd) (d : Nat) (t : Nat) (v1 : Int32) (σ : sS) (Q : Option sv → sS → Prop)
    (h : ((¬ v1 = 46 → (((iNam v1) = 0 → (((0 : Int32) = 0 ∨ (0 : Int32) = 1) ∧ Q (some (sI 0)) σ)) ∧ (¬ (iNam v1) = 0 → (((1 : Int32) = 0 ∨ (1 : Int32) = 1) ∧ Q (some (sI 1)) (up σ t 2 0))))) ∧ (v1 = 46 → (((1 : Int32) = 0 ∨ (1 : Int32) = 1) ∧ Q (some (sI 1)) (up σ t 2 4))))) :
    Jd Y (d + 1) y_CR_field 0 [(0, sR t (.inl 0)), (1, sI v1)] [] σ Q :=
  blk_ok (d := (d + 1)) (y := y_CR_field) (ft := ft_CR) (ct := ct_CR) (tab := tab_CR_field) ⟨tk_CR_field, ft_CR_ok, ct_CR_ok Y⟩ [] 20 0 _ _ σ h
set_option maxRecDepth 20000 in
theorem s_CR_last_0 (Y : List kd) (d : Nat) (t : Nat) (v1 : Int32) (σ : sS) (Q : Option sv → sS → Prop)
    (h : ((v1 = 60 → Jd Y (d + 1) y_CR_last 12 [(0, sR t (.inl 0))] [] σ Q) ∧ (¬ v1 = 60 → ((¬ v1 = 61 → ((¬ v1 = 125 → (((0 : Int32) = 0 ∨ (0 : Int32) = 1) ∧ Q (some (sI 0)) σ)) ∧ (v1 = 125 → CJ Y d y_RD_pop [sR t (.inl 0)] σ (rN fun σ1 => CJ Y d y_CR_ends [sR t (.inl 0)] σ1 (rN fun σ2 => (((1 : Int32) = 0 ∨ (1 : Int32) = 1) ∧ Q (some (sI 1)) σ2)))))) ∧ (v1 = 61 → Jd Y (d + 1) y_CR_last 12 [(0, sR t (.inl 0))] [] σ Q))))) :
    Jd Y (d + 1) y_CR_last 0 [(0, sR t (.inl 0)), (1, sI v1)] [] σ Q :=
  blk_ok (d := (d + 1)) (y := y_CR_last) (ft := ft_CR) (ct := ct_CR) (tab := tab_CR_last) ⟨tk_CR_last, ft_CR_ok, ct_CR_ok Y⟩ [(12, [0])] 27 0 _ _ σ h
set_option maxRecDepth 20000 in
theorem s_CR_last_12 (Y : List kd) (d : Nat) (t : Nat) (σ : sS) (Q : Option sv → sS → Prop)
    (h : (((1 : Int32) = 0 ∨ (1 : Int32) = 1) ∧ Q (some (sI 1)) (up (up σ t 2 6) t 6 2))) :
    Jd Y (d + 1) y_CR_last 12 [(0, sR t (.inl 0))] [] σ Q :=
  blk_ok (d := (d + 1)) (y := y_CR_last) (ft := ft_CR) (ct := ct_CR) (tab := tab_CR_last) ⟨tk_CR_last, ft_CR_ok, ct_CR_ok Y⟩ [(12, [0])] 27 12 _ _ σ h
set_option maxRecDepth 20000 in
theorem s_VR_goesOn_0 (Y : List kd) (d : Nat) (t : Nat) (v1 : Int32) (σ : sS) (Q : Option sv → sS → Prop)
    (h : (((σ t 3) = 0 → Jd Y (d + 1) y_VR_goesOn 18 [(0, sR t (.inl 4)), (1, sI v1)] [] σ Q) ∧ (¬ (σ t 3) = 0 → (((iDig v1) = 0 → Jd Y (d + 1) y_VR_goesOn 18 [(0, sR t (.inl 4)), (1, sI v1)] [] σ Q) ∧ (¬ (iDig v1) = 0 → Jd Y (d + 1) y_VR_goesOn 19 [(0, sR t (.inl 4)), (1, sI v1)] [sI 1] σ Q))))) :
    Jd Y (d + 1) y_VR_goesOn 0 [(0, sR t (.inl 4)), (1, sI v1)] [] σ Q :=
  blk_ok (d := (d + 1)) (y := y_VR_goesOn) (ft := ft_VR) (ct := ct_VR) (tab := tab_VR_goesOn) ⟨tk_VR_goesOn, ft_VR_ok, ct_VR_ok Y⟩ [(18, [0, 1]), (19, [0, 1])] 66 0 _ _ σ h
set_option maxRecDepth 20000 in
theorem s_VR_goesOn_18 (Y : List kd) (d : Nat) (t : Nat) (v1 : Int32) (σ : sS) (Q : Option sv → sS → Prop)
    (h : Jd Y (d + 1) y_VR_goesOn 19 [(0, sR t (.inl 4)), (1, sI v1)] [sI 0] σ Q) :
    Jd Y (d + 1) y_VR_goesOn 18 [(0, sR t (.inl 4)), (1, sI v1)] [] σ Q :=
  blk_ok (d := (d + 1)) (y := y_VR_goesOn) (ft := ft_VR) (ct := ct_VR) (tab := tab_VR_goesOn) ⟨tk_VR_goesOn, ft_VR_ok, ct_VR_ok Y⟩ [(18, [0, 1]), (19, [0, 1])] 66 18 _ _ σ h
set_option maxRecDepth 20000 in
theorem s_VR_goesOn_19 (Y : List kd) (d : Nat) (t : Nat) (v1 : Int32) (s0 : Int32) (σ : sS) (Q : Option sv → sS → Prop)
    (h : (((0 : Int32) = 0 ∨ (0 : Int32) = 1) ∧ ((s0 = 0 → ((((up σ t 3 0) t 2) = 0 → CJ Y d y_VR_begins [sR t (.inl 4), sI v1] (up σ t 3 0) (rI fun r5 σ5 => ((r5 = 0 ∨ r5 = 1) ∧ Q (some (sI r5)) σ5))) ∧ (¬ ((up σ t 3 0) t 2) = 0 → ((((up σ t 3 0) t 2) = 1 → (((0 : Int32) = 0 ∨ (0 : Int32) = 1) ∧ Q (some (sI 0)) (up σ t 3 0))) ∧ (¬ ((up σ t 3 0) t 2) = 1 → ((((up σ t 3 0) t 2) = 2 → ((¬ v1 = 41 → (((iNam v1) = 0 ∨ (iNam v1) = 1) ∧ Q (some (sI (iNam v1))) (up (up σ t 3 0) t 2 0))) ∧ (v1 = 41 → CJ Y d y_VR_closes [sR t (.inl 4)] (up (up σ t 3 0) t 2 0) (rI fun r4 σ4 => ((r4 = 0 ∨ r4 = 1) ∧ Q (some (sI r4)) σ4))))) ∧ (¬ ((up σ t 3 0) t 2) = 2 → ((((up σ t 3 0) t 2) = 3 → ((¬ v1 = 93 → CJ Y d y_VR_begins [sR t (.inl 4), sI v1] (up σ t 3 0) (rI fun r2 σ2 => ((r2 = 0 ∨ r2 = 1) ∧ Q (some (sI r2)) σ2))) ∧ (v1 = 93 → CJ Y d y_VR_closes [sR t (.inl 4)] (up σ t 3 0) (rI fun r3 σ3 => ((r3 = 0 ∨ r3 = 1) ∧ Q (some (sI r3)) σ3))))) ∧ (¬ ((up σ t 3 0) t 2) = 3 → ((((up σ t 3 0) t 2) = 4 → ((¬ v1 = 93 → ((¬ v1 = 44 → (((0 : Int32) = 0 ∨ (0 : Int32) = 1) ∧ Q (some (sI 0)) (up (up σ t 3 0) t 2 0))) ∧ (v1 = 44 → (((1 : Int32) = 0 ∨ (1 : Int32) = 1) ∧ Q (some (sI 1)) (up (up σ t 3 0) t 2 0))))) ∧ (v1 = 93 → CJ Y d y_VR_closes [sR t (.inl 4)] (up (up σ t 3 0) t 2 0) (rI fun r1 σ1 => ((r1 = 0 ∨ r1 = 1) ∧ Q (some (sI r1)) σ1))))) ∧ (¬ ((up σ t 3 0) t 2) = 4 → (((0 : Int32) = 0 ∨ (0 : Int32) = 1) ∧ Q (some (sI 0)) (up σ t 3 0))))))))))))) ∧ (¬ s0 = 0 → (((1 : Int32) = 0 ∨ (1 : Int32) = 1) ∧ Q (some (sI 1)) (up σ t 3 0)))))) :
    Jd Y (d + 1) y_VR_goesOn 19 [(0, sR t (.inl 4)), (1, sI v1)] [sI s0] σ Q :=
  blk_ok (d := (d + 1)) (y := y_VR_goesOn) (ft := ft_VR) (ct := ct_VR) (tab := tab_VR_goesOn) ⟨tk_VR_goesOn, ft_VR_ok, ct_VR_ok Y⟩ [(18, [0, 1]), (19, [0, 1])] 66 19 _ _ σ h
set_option maxRecDepth 20000 in
theorem s_VR_begins_0 (Y : List kd) (d : Nat) (t : Nat) (v1 : Int32) (σ : sS) (Q : Option sv → sS → Prop)
    (h : ((v1 = 40 → Jd Y (d + 1) y_VR_begins 12 [(0, sR t (.inl 4)), (1, sI v1)] [] σ Q) ∧ (¬ v1 = 40 → ((¬ v1 = 91 → (((iDig v1) = 0 ∨ (iDig v1) = 1) ∧ CJ Y d y_VR_ends [sR t (.inl 4)] (up σ t 3 (iDig v1)) (rN fun σ1 => ((¬ (σ1 t 3) = 0 → (((1 : Int32) = 0 ∨ (1 : Int32) = 1) ∧ Q (some (sI 1)) σ1)) ∧ ((σ1 t 3) = 0 → ((¬ v1 = 63 → (((0 : Int32) = 0 ∨ (0 : Int32) = 1) ∧ Q (some (sI 0)) σ1)) ∧ (v1 = 63 → (((1 : Int32) = 0 ∨ (1 : Int32) = 1) ∧ Q (some (sI 1)) σ1)))))))) ∧ (v1 = 91 → Jd Y (d + 1) y_VR_begins 12 [(0, sR t (.inl 4)), (1, sI v1)] [] σ Q))))) :
    Jd Y (d + 1) y_VR_begins 0 [(0, sR t (.inl 4)), (1, sI v1)] [] σ Q :=
  blk_ok (d := (d + 1)) (y := y_VR_begins) (ft := ft_VR) (ct := ct_VR) (tab := tab_VR_begins) ⟨tk_VR_begins, ft_VR_ok, ct_VR_ok Y⟩ [(12, [0, 1])] 37 0 _ _ σ h
set_option maxRecDepth 20000 in
theorem s_VR_begins_12 (Y : List kd) (d : Nat) (t : Nat) (v1 : Int32) (σ : sS) (Q : Option sv → sS → Prop)
    (h : CJ Y d y_RD_push [sR t (.inl 4), sI v1] σ (rN fun σ1 => ((¬ v1 = 40 → (((1 : Int32) = 0 ∨ (1 : Int32) = 1) ∧ Q (some (sI 1)) (up σ1 t 2 3))) ∧ (v1 = 40 → (((1 : Int32) = 0 ∨ (1 : Int32) = 1) ∧ Q (some (sI 1)) (up σ1 t 2 2)))))) :
    Jd Y (d + 1) y_VR_begins 12 [(0, sR t (.inl 4)), (1, sI v1)] [] σ Q :=
  blk_ok (d := (d + 1)) (y := y_VR_begins) (ft := ft_VR) (ct := ct_VR) (tab := tab_VR_begins) ⟨tk_VR_begins, ft_VR_ok, ct_VR_ok Y⟩ [(12, [0, 1])] 37 12 _ _ σ h
set_option maxRecDepth 20000 in
theorem s_VR_ends_0 (Y : List kd) (d : Nat) (t : Nat) (σ : sS) (Q : Option sv → sS → Prop)
    (h : ((¬ (σ t 1) = 0 → CJ Y d y_RD_top [sR t (.inl 4)] σ (rI fun r1 σ1 => ((¬ r1 = 40 → Q none (up σ1 t 2 4)) ∧ (r1 = 40 → Q none (up σ1 t 2 2))))) ∧ ((σ t 1) = 0 → Q none (up σ t 2 1)))) :
    Jd Y (d + 1) y_VR_ends 0 [(0, sR t (.inl 4))] [] σ Q :=
  blk_ok (d := (d + 1)) (y := y_VR_ends) (ft := ft_VR) (ct := ct_VR) (tab := tab_VR_ends) ⟨tk_VR_ends, ft_VR_ok, ct_VR_ok Y⟩ [] 19 0 _ _ σ h
set_option maxRecDepth 20000 in
theorem s_VR_closes_0 (Y : List kd) (d : Nat) (t : Nat) (σ : sS) (Q : Option sv → sS → Prop)
    (h : CJ Y d y_RD_pop [sR t (.inl 4)] σ (rN fun σ1 => CJ Y d y_VR_ends [sR t (.inl 4)] σ1 (rN fun σ2 => (((1 : Int32) = 0 ∨ (1 : Int32) = 1) ∧ Q (some (sI 1)) σ2)))) :
    Jd Y (d + 1) y_VR_closes 0 [(0, sR t (.inl 4))] [] σ Q :=
  blk_ok (d := (d + 1)) (y := y_VR_closes) (ft := ft_VR) (ct := ct_VR) (tab := tab_VR_closes) ⟨tk_VR_closes, ft_VR_ok, ct_VR_ok Y⟩ [] 8 0 _ _ σ h
set_option maxRecDepth 20000 in
theorem s_CR_build_0 (Y : List kd) (d : Nat) (t : Nat) (a1 : Nat) (v2 : Int32) (σ : sS) (Q : Option sv → sS → Prop)
    (h : Jd Y (d + 1) y_CR_build 33 [(0, sR t (.inl 0)), (1, sR a1 (.inr 96)), (2, sI v2), (3, sI 0)] [] (up (up (up (up (up σ (t + 2) 13 0) (t + 2) 14 0) t 8 0) t 9 0) t 10 0) Q) :
    Jd Y (d + 1) y_CR_build 0 [(0, sR t (.inl 0)), (1, sR a1 (.inr 96)), (2, sI v2)] [] σ Q :=
  blk_ok (d := (d + 1)) (y := y_CR_build) (ft := ft_CR) (ct := ct_CR) (tab := tab_CR_build) ⟨tk_CR_build, ft_CR_ok, ct_CR_ok Y⟩ [(33, [0, 1, 2, 3])] 42 0 _ _ σ h
set_option maxRecDepth 20000 in
theorem s_CR_build_33 (Y : List kd) (d : Nat) (t : Nat) (a1 : Nat) (v2 : Int32) (v3 : Int32) (σ : sS) (Q : Option sv → sS → Prop)
    (h : ((¬ v3 < v2 → Q (some (sI (-1))) σ) ∧ (v3 < v2 → CJ Y d y_CR_takes [sR t (.inl 0), sR a1 (.inr 96), sI v3] σ (rI fun r1 σ1 => ((¬ r1 = 0 → CJ Y d y_CR_tail [sI (rd σ1 a1 96 v3)] σ1 (rI fun r2 σ2 => Jd Y (d + 1) y_CR_build 33 [(0, sR t (.inl 0)), (1, sR a1 (.inr 96)), (2, sI v2), (3, sI ((v3 + r2) + 1))] [] σ2 Q)) ∧ (r1 = 0 → Q (some (sI v3)) σ1)))))) :
    Jd Y (d + 1) y_CR_build 33 [(0, sR t (.inl 0)), (1, sR a1 (.inr 96)), (2, sI v2), (3, sI v3)] [] σ Q :=
  blk_ok (d := (d + 1)) (y := y_CR_build) (ft := ft_CR) (ct := ct_CR) (tab := tab_CR_build) ⟨tk_CR_build, ft_CR_ok, ct_CR_ok Y⟩ [(33, [0, 1, 2, 3])] 42 33 _ _ σ h
set_option maxRecDepth 20000 in
theorem s_CR_takes_0 (Y : List kd) (d : Nat) (t : Nat) (a1 : Nat) (v2 : Int32) (σ : sS) (Q : Option sv → sS → Prop)
    (h : (((rd σ a1 96 v2) = 35 → CJ Y d y_CR_two [sR a1 (.inr 96), sI (v2 + 1)] σ (rI fun r11 σ11 => CJ Y d y_CR_two [sR a1 (.inr 96), sI (v2 + 3)] σ11 (rI fun r12 σ12 => CJ Y d y_CR_adds [sR t (.inl 0), sI (rd σ a1 96 v2), sI r11, sI r12] σ12 (rI fun r13 σ13 => ((r13 = 0 ∨ r13 = 1) ∧ Q (some (sI r13)) σ13))))) ∧ (¬ (rd σ a1 96 v2) = 35 → (((rd σ a1 96 v2) = 46 → CJ Y d y_CR_addsField [sR t (.inl 0), sI (((rd σ a1 96 (v2 + 1)) - 97) + 1), sI 1] σ (rI fun r10 σ10 => ((r10 = 0 ∨ r10 = 1) ∧ Q (some (sI r10)) σ10))) ∧ (¬ (rd σ a1 96 v2) = 46 → (((rd σ a1 96 v2) = 60 → CJ Y d y_CR_addsDependent [sR t (.inl 0), sI (rd σ a1 96 v2), sI (((rd σ a1 96 (v2 + 1)) - 97) + 1), sI (((rd σ a1 96 (v2 + 2)) - 97) + 1)] σ (rI fun r9 σ9 => ((r9 = 0 ∨ r9 = 1) ∧ Q (some (sI r9)) σ9))) ∧ (¬ (rd σ a1 96 v2) = 60 → (((rd σ a1 96 v2) = 61 → CJ Y d y_CR_addsDependent [sR t (.inl 0), sI (rd σ a1 96 v2), sI (((rd σ a1 96 (v2 + 1)) - 97) + 1), sI (((rd σ a1 96 (v2 + 2)) - 97) + 1)] σ (rI fun r8 σ8 => ((r8 = 0 ∨ r8 = 1) ∧ Q (some (sI r8)) σ8))) ∧ (¬ (rd σ a1 96 v2) = 61 → (((rd σ a1 96 v2) = 64 → CJ Y d y_CR_adds [sR t (.inl 0), sI (rd σ a1 96 v2), sI ((rd σ a1 96 (v2 + 1)) - 48), sI ((rd σ a1 96 (v2 + 2)) - 48)] σ (rI fun r7 σ7 => ((r7 = 0 ∨ r7 = 1) ∧ Q (some (sI r7)) σ7))) ∧ (¬ (rd σ a1 96 v2) = 64 → (((rd σ a1 96 v2) = 125 → CJ Y d y_RD_top [sR t (.inl 0)] σ (rI fun r3 σ3 => CJ Y d y_RD_top [sR t (.inl 0)] σ3 (rI fun r4 σ4 => CJ Y d y_RD_pop [sR t (.inl 0)] (wr σ4 (t + 6) 24 r3 ((σ3 (t + 2) 13) - r4)) (rN fun σ5 => CJ Y d y_CR_settle [sR t (.inl 0)] σ5 (rN fun σ6 => (((1 : Int32) = 0 ∨ (1 : Int32) = 1) ∧ Q (some (sI 1)) σ6)))))) ∧ (¬ (rd σ a1 96 v2) = 125 → (((iNam (rd σ a1 96 v2)) = 0 → CJ Y d y_CR_adds [sR t (.inl 0), sI (rd σ a1 96 v2), sI 0, sI 0] σ (rI fun r1 σ1 => ((r1 = 0 ∨ r1 = 1) ∧ Q (some (sI r1)) σ1))) ∧ (¬ (iNam (rd σ a1 96 v2)) = 0 → CJ Y d y_CR_addsField [sR t (.inl 0), sI (((rd σ a1 96 v2) - 97) + 1), sI 0] σ (rI fun r2 σ2 => ((r2 = 0 ∨ r2 = 1) ∧ Q (some (sI r2)) σ2))))))))))))))))) :
    Jd Y (d + 1) y_CR_takes 0 [(0, sR t (.inl 0)), (1, sR a1 (.inr 96)), (2, sI v2)] [] σ Q :=
  blk_ok (d := (d + 1)) (y := y_CR_takes) (ft := ft_CR) (ct := ct_CR) (tab := tab_CR_takes) ⟨tk_CR_takes, ft_CR_ok, ct_CR_ok Y⟩ [] 99 0 _ _ σ h
set_option maxRecDepth 20000 in
theorem s_CR_settle_0 (Y : List kd) (d : Nat) (t : Nat) (σ : sS) (Q : Option sv → sS → Prop)
    (h : Jd Y (d + 1) y_CR_settle 2 [(0, sR t (.inl 0)), (1, sI 0)] [] σ Q) :
    Jd Y (d + 1) y_CR_settle 0 [(0, sR t (.inl 0))] [] σ Q :=
  blk_ok (d := (d + 1)) (y := y_CR_settle) (ft := ft_CR) (ct := ct_CR) (tab := tab_CR_settle) ⟨tk_CR_settle, ft_CR_ok, ct_CR_ok Y⟩ [(2, [0, 1])] 48 0 _ _ σ h
set_option maxRecDepth 20000 in
theorem s_CR_settle_2 (Y : List kd) (d : Nat) (t : Nat) (v1 : Int32) (σ : sS) (Q : Option sv → sS → Prop)
    (h : ((¬ v1 < 24 → Q none σ) ∧ (v1 < 24 → ((¬ (0 : Int32) < (σ t 1) → Q none σ) ∧ ((0 : Int32) < (σ t 1) → ((¬ (0 : Int32) < ((rd σ (t + 16) 96 ((σ t 1) - 1)) - 1) → CJ Y d y_RD_top [sR t (.inl 0)] (wr σ (t + 16) 96 ((σ t 1) - 1) ((rd σ (t + 16) 96 ((σ t 1) - 1)) - 1)) (rI fun r1 σ1 => CJ Y d y_RD_top [sR t (.inl 0)] σ1 (rI fun r2 σ2 => CJ Y d y_RD_pop [sR t (.inl 0)] (wr σ2 (t + 6) 24 r1 ((σ1 (t + 2) 13) - r2)) (rN fun σ3 => Jd Y (d + 1) y_CR_settle 2 [(0, sR t (.inl 0)), (1, sI (v1 + 1))] [] σ3 Q)))) ∧ ((0 : Int32) < ((rd σ (t + 16) 96 ((σ t 1) - 1)) - 1) → Q none (wr σ (t + 16) 96 ((σ t 1) - 1) ((rd σ (t + 16) 96 ((σ t 1) - 1)) - 1))))))))) :
    Jd Y (d + 1) y_CR_settle 2 [(0, sR t (.inl 0)), (1, sI v1)] [] σ Q :=
  blk_ok (d := (d + 1)) (y := y_CR_settle) (ft := ft_CR) (ct := ct_CR) (tab := tab_CR_settle) ⟨tk_CR_settle, ft_CR_ok, ct_CR_ok Y⟩ [(2, [0, 1])] 48 2 _ _ σ h
set_option maxRecDepth 20000 in
theorem s_CR_addsField_0 (Y : List kd) (d : Nat) (t : Nat) (v1 : Int32) (v2 : Int32) (σ : sS) (Q : Option sv → sS → Prop)
    (h : CJ Y d y_RD_top [sR t (.inl 0)] σ (rI fun r1 σ1 => CJ Y d y_PL_knows [sR (t + 2) (.inl 2), sI r1, sI v1] σ1 (rI fun r2 σ2 => ((r2 = 0 → (((1 : Int32) = 0 ∨ (1 : Int32) = 1) ∧ Q (some (sI 1)) (up (up (wr (wr σ2 (t + 10) 24 r1 ((rd σ2 (t + 10) 24 r1) ||| (1 <<< (v1 &&& 31)))) (t + 9) 24 r1 ((rd (wr σ2 (t + 10) 24 r1 ((rd σ2 (t + 10) 24 r1) ||| (1 <<< (v1 &&& 31)))) (t + 9) 24 r1) + 1)) t 9 v1) t 10 v2))) ∧ (¬ r2 = 0 → (((0 : Int32) = 0 ∨ (0 : Int32) = 1) ∧ Q (some (sI 0)) σ2)))))) :
    Jd Y (d + 1) y_CR_addsField 0 [(0, sR t (.inl 0)), (1, sI v1), (2, sI v2)] [] σ Q :=
  blk_ok (d := (d + 1)) (y := y_CR_addsField) (ft := ft_CR) (ct := ct_CR) (tab := tab_CR_addsField) ⟨tk_CR_addsField, ft_CR_ok, ct_CR_ok Y⟩ [] 47 0 _ _ σ h
set_option maxRecDepth 20000 in
theorem s_CR_addsDependent_0 (Y : List kd) (d : Nat) (t : Nat) (v1 : Int32) (v2 : Int32) (v3 : Int32) (σ : sS) (Q : Option sv → sS → Prop)
    (h : CJ Y d y_RD_top [sR t (.inl 0)] σ (rI fun r1 σ1 => CJ Y d y_PL_knows [sR (t + 2) (.inl 2), sI r1, sI v2] σ1 (rI fun r2 σ2 => ((r2 = 0 → (((0 : Int32) = 0 ∨ (0 : Int32) = 1) ∧ Q (some (sI 0)) σ2)) ∧ (¬ r2 = 0 → CJ Y d y_PL_knows [sR (t + 2) (.inl 2), sI r1, sI v3] σ2 (rI fun r3 σ3 => ((¬ r3 = 0 → CJ Y d y_PL_depend [sR (t + 2) (.inl 2), sI r1, sI v1, sI v2, sI v3] σ3 (rN fun σ4 => (((1 : Int32) = 0 ∨ (1 : Int32) = 1) ∧ Q (some (sI 1)) σ4))) ∧ (r3 = 0 → (((0 : Int32) = 0 ∨ (0 : Int32) = 1) ∧ Q (some (sI 0)) σ3))))))))) :
    Jd Y (d + 1) y_CR_addsDependent 0 [(0, sR t (.inl 0)), (1, sI v1), (2, sI v2), (3, sI v3)] [] σ Q :=
  blk_ok (d := (d + 1)) (y := y_CR_addsDependent) (ft := ft_CR) (ct := ct_CR) (tab := tab_CR_addsDependent) ⟨tk_CR_addsDependent, ft_CR_ok, ct_CR_ok Y⟩ [] 28 0 _ _ σ h
set_option maxRecDepth 20000 in
theorem s_PL_depend_0 (Y : List kd) (d : Nat) (t : Nat) (v1 : Int32) (v2 : Int32) (v3 : Int32) (v4 : Int32) (σ : sS) (Q : Option sv → sS → Prop)
    (h : ((¬ (rd σ (t + 10) 24 v1) = 0 → Jd Y (d + 1) y_PL_depend 23 [(0, sR t (.inl 2)), (1, sI v1), (2, sI v2), (3, sI v3), (4, sI v4)] [] σ Q) ∧ ((rd σ (t + 10) 24 v1) = 0 → Jd Y (d + 1) y_PL_depend 23 [(0, sR t (.inl 2)), (1, sI v1), (2, sI v2), (3, sI v3), (4, sI v4)] [] (wr σ (t + 9) 24 v1 (σ t 14)) Q))) :
    Jd Y (d + 1) y_PL_depend 0 [(0, sR t (.inl 2)), (1, sI v1), (2, sI v2), (3, sI v3), (4, sI v4)] [] σ Q :=
  blk_ok (d := (d + 1)) (y := y_PL_depend) (ft := ft_PL) (ct := ct_PL) (tab := tab_PL_depend) ⟨tk_PL_depend, ft_PL_ok, ct_PL_ok Y⟩ [(23, [0, 1, 2, 3, 4]), (41, [0, 2, 3, 4]), (53, [0, 3, 4]), (65, [0, 4]), (78, [0])] 48 0 _ _ σ h
set_option maxRecDepth 20000 in
theorem s_PL_depend_23 (Y : List kd) (d : Nat) (t : Nat) (v1 : Int32) (v2 : Int32) (v3 : Int32) (v4 : Int32) (σ : sS) (Q : Option sv → sS → Prop)
    (h : Jd Y (d + 1) y_PL_depend 41 [(0, sR t (.inl 2)), (2, sI v2), (3, sI v3), (4, sI v4)] [] (wr σ (t + 10) 24 v1 ((rd σ (t + 10) 24 v1) + 1)) Q) :
    Jd Y (d + 1) y_PL_depend 23 [(0, sR t (.inl 2)), (1, sI v1), (2, sI v2), (3, sI v3), (4, sI v4)] [] σ Q :=
  blk_ok (d := (d + 1)) (y := y_PL_depend) (ft := ft_PL) (ct := ct_PL) (tab := tab_PL_depend) ⟨tk_PL_depend, ft_PL_ok, ct_PL_ok Y⟩ [(23, [0, 1, 2, 3, 4]), (41, [0, 2, 3, 4]), (53, [0, 3, 4]), (65, [0, 4]), (78, [0])] 48 23 _ _ σ h
set_option maxRecDepth 20000 in
theorem s_PL_depend_41 (Y : List kd) (d : Nat) (t : Nat) (v2 : Int32) (v3 : Int32) (v4 : Int32) (σ : sS) (Q : Option sv → sS → Prop)
    (h : Jd Y (d + 1) y_PL_depend 53 [(0, sR t (.inl 2)), (3, sI v3), (4, sI v4)] [] (wr σ (t + 11) 32 (σ t 14) v2) Q) :
    Jd Y (d + 1) y_PL_depend 41 [(0, sR t (.inl 2)), (2, sI v2), (3, sI v3), (4, sI v4)] [] σ Q :=
  blk_ok (d := (d + 1)) (y := y_PL_depend) (ft := ft_PL) (ct := ct_PL) (tab := tab_PL_depend) ⟨tk_PL_depend, ft_PL_ok, ct_PL_ok Y⟩ [(23, [0, 1, 2, 3, 4]), (41, [0, 2, 3, 4]), (53, [0, 3, 4]), (65, [0, 4]), (78, [0])] 48 41 _ _ σ h
set_option maxRecDepth 20000 in
theorem s_PL_depend_53 (Y : List kd) (d : Nat) (t : Nat) (v3 : Int32) (v4 : Int32) (σ : sS) (Q : Option sv → sS → Prop)
    (h : Jd Y (d + 1) y_PL_depend 65 [(0, sR t (.inl 2)), (4, sI v4)] [] (wr σ (t + 12) 32 (σ t 14) v3) Q) :
    Jd Y (d + 1) y_PL_depend 53 [(0, sR t (.inl 2)), (3, sI v3), (4, sI v4)] [] σ Q :=
  blk_ok (d := (d + 1)) (y := y_PL_depend) (ft := ft_PL) (ct := ct_PL) (tab := tab_PL_depend) ⟨tk_PL_depend, ft_PL_ok, ct_PL_ok Y⟩ [(23, [0, 1, 2, 3, 4]), (41, [0, 2, 3, 4]), (53, [0, 3, 4]), (65, [0, 4]), (78, [0])] 48 53 _ _ σ h
set_option maxRecDepth 20000 in
theorem s_PL_depend_65 (Y : List kd) (d : Nat) (t : Nat) (v4 : Int32) (σ : sS) (Q : Option sv → sS → Prop)
    (h : Jd Y (d + 1) y_PL_depend 78 [(0, sR t (.inl 2))] [] (wr σ (t + 13) 32 (σ t 14) v4) Q) :
    Jd Y (d + 1) y_PL_depend 65 [(0, sR t (.inl 2)), (4, sI v4)] [] σ Q :=
  blk_ok (d := (d + 1)) (y := y_PL_depend) (ft := ft_PL) (ct := ct_PL) (tab := tab_PL_depend) ⟨tk_PL_depend, ft_PL_ok, ct_PL_ok Y⟩ [(23, [0, 1, 2, 3, 4]), (41, [0, 2, 3, 4]), (53, [0, 3, 4]), (65, [0, 4]), (78, [0])] 48 65 _ _ σ h
set_option maxRecDepth 20000 in
theorem s_PL_depend_78 (Y : List kd) (d : Nat) (t : Nat) (σ : sS) (Q : Option sv → sS → Prop)
    (h : Q none (up σ t 14 ((σ t 14) + 1))) :
    Jd Y (d + 1) y_PL_depend 78 [(0, sR t (.inl 2))] [] σ Q :=
  blk_ok (d := (d + 1)) (y := y_PL_depend) (ft := ft_PL) (ct := ct_PL) (tab := tab_PL_depend) ⟨tk_PL_depend, ft_PL_ok, ct_PL_ok Y⟩ [(23, [0, 1, 2, 3, 4]), (41, [0, 2, 3, 4]), (53, [0, 3, 4]), (65, [0, 4]), (78, [0])] 48 78 _ _ σ h
set_option maxRecDepth 20000 in
theorem s_CR_two_0 (Y : List kd) (d : Nat) (a0 : Nat) (v1 : Int32) (σ : sS) (Q : Option sv → sS → Prop)
    (h : Q (some (sI (((10 * ((rd σ a0 96 v1) - 48)) + (rd σ a0 96 (v1 + 1))) - 48))) σ) :
    Jd Y (d + 1) y_CR_two 0 [(0, sR a0 (.inr 96)), (1, sI v1)] [] σ Q :=
  blk_ok (d := (d + 1)) (y := y_CR_two) (ft := ft_CR) (ct := ct_CR) (tab := tab_CR_two) ⟨tk_CR_two, ft_CR_ok, ct_CR_ok Y⟩ [] 18 0 _ _ σ h
set_option maxRecDepth 20000 in
theorem s_CR_adds_0 (Y : List kd) (d : Nat) (t : Nat) (v1 : Int32) (v2 : Int32) (v3 : Int32) (σ : sS) (Q : Option sv → sS → Prop)
    (h : ((v3 < v2 → (((0 : Int32) = 0 ∨ (0 : Int32) = 1) ∧ Q (some (sI 0)) σ)) ∧ (¬ v3 < v2 → ((¬ v1 = 94 → Jd Y (d + 1) y_CR_adds 18 [(0, sR t (.inl 0)), (1, sI v1), (2, sI v2), (3, sI v3)] [] σ Q) ∧ (v1 = 94 → CJ Y d y_CR_canReturn [sR t (.inl 0)] σ (rI fun r1 σ1 => ((r1 = 0 → (((0 : Int32) = 0 ∨ (0 : Int32) = 1) ∧ Q (some (sI 0)) σ1)) ∧ (¬ r1 = 0 → Jd Y (d + 1) y_CR_adds 18 [(0, sR t (.inl 0)), (1, sI v1), (2, sI v2), (3, sI v3)] [] σ1 Q)))))))) :
    Jd Y (d + 1) y_CR_adds 0 [(0, sR t (.inl 0)), (1, sI v1), (2, sI v2), (3, sI v3)] [] σ Q :=
  blk_ok (d := (d + 1)) (y := y_CR_adds) (ft := ft_CR) (ct := ct_CR) (tab := tab_CR_adds) ⟨tk_CR_adds, ft_CR_ok, ct_CR_ok Y⟩ [(18, [0, 1, 2, 3])] 71 0 _ _ σ h
set_option maxRecDepth 20000 in
theorem s_CR_adds_18 (Y : List kd) (d : Nat) (t : Nat) (v1 : Int32) (v2 : Int32) (v3 : Int32) (σ : sS) (Q : Option sv → sS → Prop)
    (h : CJ Y d y_PL_add [sR (t + 2) (.inl 2), sI v1, sI v2, sI v3] σ (rI fun r1 σ1 => ((¬ r1 = 0 → CJ Y d y_CR_wants [sI v1] (up (up (wr (wr σ1 (t + 7) 24 ((σ1 (t + 2) 13) - 1) (σ1 t 9)) (t + 8) 24 (((wr σ1 (t + 7) 24 ((σ1 (t + 2) 13) - 1) (σ1 t 9)) (t + 2) 13) - 1) ((wr σ1 (t + 7) 24 ((σ1 (t + 2) 13) - 1) (σ1 t 9)) t 10)) t 9 0) t 10 0) (rI fun r2 σ2 => ((¬ r2 = 0 → CJ Y d y_RD_push [sR t (.inl 0), sI (((wr σ2 (t + 16) 96 (σ2 t 1) r2) (t + 2) 13) - 1)] (wr σ2 (t + 16) 96 (σ2 t 1) r2) (rN fun σ3 => (((1 : Int32) = 0 ∨ (1 : Int32) = 1) ∧ Q (some (sI 1)) σ3))) ∧ (r2 = 0 → CJ Y d y_CR_settle [sR t (.inl 0)] σ2 (rN fun σ4 => (((1 : Int32) = 0 ∨ (1 : Int32) = 1) ∧ Q (some (sI 1)) σ4)))))) ∧ (r1 = 0 → (((0 : Int32) = 0 ∨ (0 : Int32) = 1) ∧ Q (some (sI 0)) σ1))))) :
    Jd Y (d + 1) y_CR_adds 18 [(0, sR t (.inl 0)), (1, sI v1), (2, sI v2), (3, sI v3)] [] σ Q :=
  blk_ok (d := (d + 1)) (y := y_CR_adds) (ft := ft_CR) (ct := ct_CR) (tab := tab_CR_adds) ⟨tk_CR_adds, ft_CR_ok, ct_CR_ok Y⟩ [(18, [0, 1, 2, 3])] 71 18 _ _ σ h
set_option maxRecDepth 20000 in
theorem s_CR_canReturn_0 (Y : List kd) (d : Nat) (t : Nat) (σ : sS) (Q : Option sv → sS → Prop)
    (h : ((¬ (3 : Int32) < ((up σ t 8 ((σ t 8) + 1)) t 8) → Jd Y (d + 1) y_CR_canReturn 22 [(0, sR t (.inl 0)), (1, sI 0)] [] (up σ t 8 ((σ t 8) + 1)) Q) ∧ ((3 : Int32) < ((up σ t 8 ((σ t 8) + 1)) t 8) → (((0 : Int32) = 0 ∨ (0 : Int32) = 1) ∧ Q (some (sI 0)) (up σ t 8 ((σ t 8) + 1)))))) :
    Jd Y (d + 1) y_CR_canReturn 0 [(0, sR t (.inl 0))] [] σ Q :=
  blk_ok (d := (d + 1)) (y := y_CR_canReturn) (ft := ft_CR) (ct := ct_CR) (tab := tab_CR_canReturn) ⟨tk_CR_canReturn, ft_CR_ok, ct_CR_ok Y⟩ [(22, [0, 1])] 41 0 _ _ σ h
set_option maxRecDepth 20000 in
theorem s_CR_canReturn_22 (Y : List kd) (d : Nat) (t : Nat) (v1 : Int32) (σ : sS) (Q : Option sv → sS → Prop)
    (h : ((¬ v1 < (σ t 1) → (((0 : Int32) = 0 ∨ (0 : Int32) = 1) ∧ Q (some (sI 0)) σ)) ∧ (v1 < (σ t 1) → (((rd σ (t + 3) 24 (rd σ (t + 1) 96 v1)) = 123 → (((1 : Int32) = 0 ∨ (1 : Int32) = 1) ∧ Q (some (sI 1)) σ)) ∧ (¬ (rd σ (t + 3) 24 (rd σ (t + 1) 96 v1)) = 123 → ((¬ (rd σ (t + 3) 24 (rd σ (t + 1) 96 v1)) = 64 → Jd Y (d + 1) y_CR_canReturn 22 [(0, sR t (.inl 0)), (1, sI (v1 + 1))] [] σ Q) ∧ ((rd σ (t + 3) 24 (rd σ (t + 1) 96 v1)) = 64 → (((1 : Int32) = 0 ∨ (1 : Int32) = 1) ∧ Q (some (sI 1)) σ)))))))) :
    Jd Y (d + 1) y_CR_canReturn 22 [(0, sR t (.inl 0)), (1, sI v1)] [] σ Q :=
  blk_ok (d := (d + 1)) (y := y_CR_canReturn) (ft := ft_CR) (ct := ct_CR) (tab := tab_CR_canReturn) ⟨tk_CR_canReturn, ft_CR_ok, ct_CR_ok Y⟩ [(22, [0, 1])] 41 22 _ _ σ h
set_option maxRecDepth 20000 in
theorem s_PL_add_0 (Y : List kd) (d : Nat) (t : Nat) (v1 : Int32) (v2 : Int32) (v3 : Int32) (σ : sS) (Q : Option sv → sS → Prop)
    (h : (((σ t 13) < 24 → Jd Y (d + 1) y_PL_add 23 [(0, sR t (.inl 2)), (2, sI v2), (3, sI v3)] [] (wr σ (t + 1) 24 (σ t 13) v1) Q) ∧ (¬ (σ t 13) < 24 → (((0 : Int32) = 0 ∨ (0 : Int32) = 1) ∧ Q (some (sI 0)) σ)))) :
    Jd Y (d + 1) y_PL_add 0 [(0, sR t (.inl 2)), (1, sI v1), (2, sI v2), (3, sI v3)] [] σ Q :=
  blk_ok (d := (d + 1)) (y := y_PL_add) (ft := ft_PL) (ct := ct_PL) (tab := tab_PL_add) ⟨tk_PL_add, ft_PL_ok, ct_PL_ok Y⟩ [(23, [0, 2, 3]), (35, [0, 3]), (47, [0]), (59, [0]), (71, [0]), (83, [0]), (95, [0]), (107, [0]), (119, [0]), (131, [0])] 76 0 _ _ σ h
set_option maxRecDepth 20000 in
theorem s_PL_add_23 (Y : List kd) (d : Nat) (t : Nat) (v2 : Int32) (v3 : Int32) (σ : sS) (Q : Option sv → sS → Prop)
    (h : Jd Y (d + 1) y_PL_add 35 [(0, sR t (.inl 2)), (3, sI v3)] [] (wr σ (t + 2) 24 (σ t 13) v2) Q) :
    Jd Y (d + 1) y_PL_add 23 [(0, sR t (.inl 2)), (2, sI v2), (3, sI v3)] [] σ Q :=
  blk_ok (d := (d + 1)) (y := y_PL_add) (ft := ft_PL) (ct := ct_PL) (tab := tab_PL_add) ⟨tk_PL_add, ft_PL_ok, ct_PL_ok Y⟩ [(23, [0, 2, 3]), (35, [0, 3]), (47, [0]), (59, [0]), (71, [0]), (83, [0]), (95, [0]), (107, [0]), (119, [0]), (131, [0])] 76 23 _ _ σ h
set_option maxRecDepth 20000 in
theorem s_PL_add_35 (Y : List kd) (d : Nat) (t : Nat) (v3 : Int32) (σ : sS) (Q : Option sv → sS → Prop)
    (h : Jd Y (d + 1) y_PL_add 47 [(0, sR t (.inl 2))] [] (wr σ (t + 3) 24 (σ t 13) v3) Q) :
    Jd Y (d + 1) y_PL_add 35 [(0, sR t (.inl 2)), (3, sI v3)] [] σ Q :=
  blk_ok (d := (d + 1)) (y := y_PL_add) (ft := ft_PL) (ct := ct_PL) (tab := tab_PL_add) ⟨tk_PL_add, ft_PL_ok, ct_PL_ok Y⟩ [(23, [0, 2, 3]), (35, [0, 3]), (47, [0]), (59, [0]), (71, [0]), (83, [0]), (95, [0]), (107, [0]), (119, [0]), (131, [0])] 76 35 _ _ σ h
set_option maxRecDepth 20000 in
theorem s_PL_add_47 (Y : List kd) (d : Nat) (t : Nat) (σ : sS) (Q : Option sv → sS → Prop)
    (h : Jd Y (d + 1) y_PL_add 59 [(0, sR t (.inl 2))] [] (wr σ (t + 4) 24 (σ t 13) 1) Q) :
    Jd Y (d + 1) y_PL_add 47 [(0, sR t (.inl 2))] [] σ Q :=
  blk_ok (d := (d + 1)) (y := y_PL_add) (ft := ft_PL) (ct := ct_PL) (tab := tab_PL_add) ⟨tk_PL_add, ft_PL_ok, ct_PL_ok Y⟩ [(23, [0, 2, 3]), (35, [0, 3]), (47, [0]), (59, [0]), (71, [0]), (83, [0]), (95, [0]), (107, [0]), (119, [0]), (131, [0])] 76 47 _ _ σ h
set_option maxRecDepth 20000 in
theorem s_PL_add_59 (Y : List kd) (d : Nat) (t : Nat) (σ : sS) (Q : Option sv → sS → Prop)
    (h : Jd Y (d + 1) y_PL_add 71 [(0, sR t (.inl 2))] [] (wr σ (t + 5) 24 (σ t 13) 0) Q) :
    Jd Y (d + 1) y_PL_add 59 [(0, sR t (.inl 2))] [] σ Q :=
  blk_ok (d := (d + 1)) (y := y_PL_add) (ft := ft_PL) (ct := ct_PL) (tab := tab_PL_add) ⟨tk_PL_add, ft_PL_ok, ct_PL_ok Y⟩ [(23, [0, 2, 3]), (35, [0, 3]), (47, [0]), (59, [0]), (71, [0]), (83, [0]), (95, [0]), (107, [0]), (119, [0]), (131, [0])] 76 59 _ _ σ h
set_option maxRecDepth 20000 in
theorem s_PL_add_71 (Y : List kd) (d : Nat) (t : Nat) (σ : sS) (Q : Option sv → sS → Prop)
    (h : Jd Y (d + 1) y_PL_add 83 [(0, sR t (.inl 2))] [] (wr σ (t + 6) 24 (σ t 13) 0) Q) :
    Jd Y (d + 1) y_PL_add 71 [(0, sR t (.inl 2))] [] σ Q :=
  blk_ok (d := (d + 1)) (y := y_PL_add) (ft := ft_PL) (ct := ct_PL) (tab := tab_PL_add) ⟨tk_PL_add, ft_PL_ok, ct_PL_ok Y⟩ [(23, [0, 2, 3]), (35, [0, 3]), (47, [0]), (59, [0]), (71, [0]), (83, [0]), (95, [0]), (107, [0]), (119, [0]), (131, [0])] 76 71 _ _ σ h
set_option maxRecDepth 20000 in
theorem s_PL_add_83 (Y : List kd) (d : Nat) (t : Nat) (σ : sS) (Q : Option sv → sS → Prop)
    (h : Jd Y (d + 1) y_PL_add 95 [(0, sR t (.inl 2))] [] (wr σ (t + 7) 24 (σ t 13) 0) Q) :
    Jd Y (d + 1) y_PL_add 83 [(0, sR t (.inl 2))] [] σ Q :=
  blk_ok (d := (d + 1)) (y := y_PL_add) (ft := ft_PL) (ct := ct_PL) (tab := tab_PL_add) ⟨tk_PL_add, ft_PL_ok, ct_PL_ok Y⟩ [(23, [0, 2, 3]), (35, [0, 3]), (47, [0]), (59, [0]), (71, [0]), (83, [0]), (95, [0]), (107, [0]), (119, [0]), (131, [0])] 76 83 _ _ σ h
set_option maxRecDepth 20000 in
theorem s_PL_add_95 (Y : List kd) (d : Nat) (t : Nat) (σ : sS) (Q : Option sv → sS → Prop)
    (h : Jd Y (d + 1) y_PL_add 107 [(0, sR t (.inl 2))] [] (wr σ (t + 8) 24 (σ t 13) 0) Q) :
    Jd Y (d + 1) y_PL_add 95 [(0, sR t (.inl 2))] [] σ Q :=
  blk_ok (d := (d + 1)) (y := y_PL_add) (ft := ft_PL) (ct := ct_PL) (tab := tab_PL_add) ⟨tk_PL_add, ft_PL_ok, ct_PL_ok Y⟩ [(23, [0, 2, 3]), (35, [0, 3]), (47, [0]), (59, [0]), (71, [0]), (83, [0]), (95, [0]), (107, [0]), (119, [0]), (131, [0])] 76 95 _ _ σ h
set_option maxRecDepth 20000 in
theorem s_PL_add_107 (Y : List kd) (d : Nat) (t : Nat) (σ : sS) (Q : Option sv → sS → Prop)
    (h : Jd Y (d + 1) y_PL_add 119 [(0, sR t (.inl 2))] [] (wr σ (t + 9) 24 (σ t 13) 0) Q) :
    Jd Y (d + 1) y_PL_add 107 [(0, sR t (.inl 2))] [] σ Q :=
  blk_ok (d := (d + 1)) (y := y_PL_add) (ft := ft_PL) (ct := ct_PL) (tab := tab_PL_add) ⟨tk_PL_add, ft_PL_ok, ct_PL_ok Y⟩ [(23, [0, 2, 3]), (35, [0, 3]), (47, [0]), (59, [0]), (71, [0]), (83, [0]), (95, [0]), (107, [0]), (119, [0]), (131, [0])] 76 107 _ _ σ h
set_option maxRecDepth 20000 in
theorem s_PL_add_119 (Y : List kd) (d : Nat) (t : Nat) (σ : sS) (Q : Option sv → sS → Prop)
    (h : Jd Y (d + 1) y_PL_add 131 [(0, sR t (.inl 2))] [] (wr σ (t + 10) 24 (σ t 13) 0) Q) :
    Jd Y (d + 1) y_PL_add 119 [(0, sR t (.inl 2))] [] σ Q :=
  blk_ok (d := (d + 1)) (y := y_PL_add) (ft := ft_PL) (ct := ct_PL) (tab := tab_PL_add) ⟨tk_PL_add, ft_PL_ok, ct_PL_ok Y⟩ [(23, [0, 2, 3]), (35, [0, 3]), (47, [0]), (59, [0]), (71, [0]), (83, [0]), (95, [0]), (107, [0]), (119, [0]), (131, [0])] 76 119 _ _ σ h
set_option maxRecDepth 20000 in
theorem s_PL_add_131 (Y : List kd) (d : Nat) (t : Nat) (σ : sS) (Q : Option sv → sS → Prop)
    (h : (((1 : Int32) = 0 ∨ (1 : Int32) = 1) ∧ Q (some (sI 1)) (up σ t 13 ((σ t 13) + 1)))) :
    Jd Y (d + 1) y_PL_add 131 [(0, sR t (.inl 2))] [] σ Q :=
  blk_ok (d := (d + 1)) (y := y_PL_add) (ft := ft_PL) (ct := ct_PL) (tab := tab_PL_add) ⟨tk_PL_add, ft_PL_ok, ct_PL_ok Y⟩ [(23, [0, 2, 3]), (35, [0, 3]), (47, [0]), (59, [0]), (71, [0]), (83, [0]), (95, [0]), (107, [0]), (119, [0]), (131, [0])] 76 131 _ _ σ h
set_option maxRecDepth 20000 in
theorem s_CR_wants_0 (Y : List kd) (d : Nat) (v0 : Int32) (σ : sS) (Q : Option sv → sS → Prop)
    (h : ((v0 = 35 → Q (some (sI 0)) σ) ∧ (¬ v0 = 35 → ((v0 = 42 → Q (some (sI 0)) σ) ∧ (¬ v0 = 42 → ((v0 = 47 → Q (some (sI 2)) σ) ∧ (¬ v0 = 47 → ((v0 = 94 → Q (some (sI 0)) σ) ∧ (¬ v0 = 94 → ((v0 = 123 → Q (some (sI 24)) σ) ∧ (¬ v0 = 123 → Q (some (sI 1)) σ))))))))))) :
    Jd Y d y_CR_wants 0 [(0, sI v0)] [] σ Q :=
  blk_ok (d := d) (y := y_CR_wants) (ft := ft_CR) (ct := ct_CR) (tab := tab_CR_wants) ⟨tk_CR_wants, ft_CR_ok, ct_CR_ok Y⟩ [] 12 0 _ _ σ h
set_option maxRecDepth 20000 in
theorem s_CR_tail_0 (Y : List kd) (d : Nat) (v0 : Int32) (σ : sS) (Q : Option sv → sS → Prop)
    (h : ((v0 = 35 → Q (some (sI 4)) σ) ∧ (¬ v0 = 35 → ((v0 = 46 → Q (some (sI 1)) σ) ∧ (¬ v0 = 46 → ((v0 = 60 → Q (some (sI 2)) σ) ∧ (¬ v0 = 60 → ((v0 = 61 → Q (some (sI 2)) σ) ∧ (¬ v0 = 61 → ((v0 = 64 → Q (some (sI 2)) σ) ∧ (¬ v0 = 64 → Q (some (sI 0)) σ))))))))))) :
    Jd Y d y_CR_tail 0 [(0, sI v0)] [] σ Q :=
  blk_ok (d := d) (y := y_CR_tail) (ft := ft_CR) (ct := ct_CR) (tab := tab_CR_tail) ⟨tk_CR_tail, ft_CR_ok, ct_CR_ok Y⟩ [] 12 0 _ _ σ h
set_option maxRecDepth 20000 in
theorem s_VR_build_0 (Y : List kd) (d : Nat) (t : Nat) (a1 : Nat) (v2 : Int32) (σ : sS) (Q : Option sv → sS → Prop)
    (h : Jd Y (d + 1) y_VR_build 15 [(0, sR t (.inl 4)), (1, sR a1 (.inr 96)), (2, sI v2), (3, sI 0)] [] (up (up σ (t + 2) 6 0) t 5 0) Q) :
    Jd Y (d + 1) y_VR_build 0 [(0, sR t (.inl 4)), (1, sR a1 (.inr 96)), (2, sI v2)] [] σ Q :=
  blk_ok (d := (d + 1)) (y := y_VR_build) (ft := ft_VR) (ct := ct_VR) (tab := tab_VR_build) ⟨tk_VR_build, ft_VR_ok, ct_VR_ok Y⟩ [(15, [0, 1, 2, 3]), (66, [0, 1, 2, 3, 4, 7]), (92, [0, 1, 2, 3, 4, 7]), (112, [0, 1, 2, 3, 4, 6])] 75 0 _ _ σ h
set_option maxRecDepth 20000 in
theorem s_VR_build_15 (Y : List kd) (d : Nat) (t : Nat) (a1 : Nat) (v2 : Int32) (v3 : Int32) (σ : sS) (Q : Option sv → sS → Prop)
    (h : ((¬ v3 < v2 → CJ Y d y_TR_link [sR (t + 2) (.inl 3)] σ (rN fun σ1 => Q (some (sI (-1))) σ1)) ∧ (v3 < v2 → (((iDig (rd σ a1 96 v3)) = 0 → CJ Y d y_VR_takes [sR t (.inl 4), sI (rd σ a1 96 v3)] σ (rI fun r2 σ2 => Jd Y (d + 1) y_VR_build 112 [(0, sR t (.inl 4)), (1, sR a1 (.inr 96)), (2, sI v2), (3, sI v3), (4, sI v3), (6, sI r2)] [] σ2 Q)) ∧ (¬ (iDig (rd σ a1 96 v3)) = 0 → ((¬ (v3 + 1) < v2 → Jd Y (d + 1) y_VR_build 66 [(0, sR t (.inl 4)), (1, sR a1 (.inr 96)), (2, sI v2), (3, sI v3), (4, sI v3), (7, sI ((rd σ a1 96 v3) - 48))] [sI 0] σ Q) ∧ ((v3 + 1) < v2 → Jd Y (d + 1) y_VR_build 66 [(0, sR t (.inl 4)), (1, sR a1 (.inr 96)), (2, sI v2), (3, sI v3), (4, sI v3), (7, sI ((rd σ a1 96 v3) - 48))] [sI (rd σ a1 96 (v3 + 1))] σ Q))))))) :
    Jd Y (d + 1) y_VR_build 15 [(0, sR t (.inl 4)), (1, sR a1 (.inr 96)), (2, sI v2), (3, sI v3)] [] σ Q :=
  blk_ok (d := (d + 1)) (y := y_VR_build) (ft := ft_VR) (ct := ct_VR) (tab := tab_VR_build) ⟨tk_VR_build, ft_VR_ok, ct_VR_ok Y⟩ [(15, [0, 1, 2, 3]), (66, [0, 1, 2, 3, 4, 7]), (92, [0, 1, 2, 3, 4, 7]), (112, [0, 1, 2, 3, 4, 6])] 75 15 _ _ σ h
set_option maxRecDepth 20000 in
theorem s_VR_build_66 (Y : List kd) (d : Nat) (t : Nat) (a1 : Nat) (v2 : Int32) (v3 : Int32) (v4 : Int32) (v7 : Int32) (s0 : Int32) (σ : sS) (Q : Option sv → sS → Prop)
    (h : (((iDig s0) = 0 → Jd Y (d + 1) y_VR_build 92 [(0, sR t (.inl 4)), (1, sR a1 (.inr 96)), (2, sI v2), (3, sI v3), (4, sI v4), (7, sI v7)] [] σ Q) ∧ (¬ (iDig s0) = 0 → Jd Y (d + 1) y_VR_build 92 [(0, sR t (.inl 4)), (1, sR a1 (.inr 96)), (2, sI v2), (3, sI (v3 + 1)), (4, sI v4), (7, sI (((10 * v7) + s0) - 48))] [] σ Q))) :
    Jd Y (d + 1) y_VR_build 66 [(0, sR t (.inl 4)), (1, sR a1 (.inr 96)), (2, sI v2), (3, sI v3), (4, sI v4), (7, sI v7)] [sI s0] σ Q :=
  blk_ok (d := (d + 1)) (y := y_VR_build) (ft := ft_VR) (ct := ct_VR) (tab := tab_VR_build) ⟨tk_VR_build, ft_VR_ok, ct_VR_ok Y⟩ [(15, [0, 1, 2, 3]), (66, [0, 1, 2, 3, 4, 7]), (92, [0, 1, 2, 3, 4, 7]), (112, [0, 1, 2, 3, 4, 6])] 75 66 _ _ σ h
set_option maxRecDepth 20000 in
theorem s_VR_build_92 (Y : List kd) (d : Nat) (t : Nat) (a1 : Nat) (v2 : Int32) (v3 : Int32) (v4 : Int32) (v7 : Int32) (σ : sS) (Q : Option sv → sS → Prop)
    (h : CJ Y d y_VR_adds [sR t (.inl 4), sI 0, sI v7] σ (rI fun r1 σ1 => Jd Y (d + 1) y_VR_build 112 [(0, sR t (.inl 4)), (1, sR a1 (.inr 96)), (2, sI v2), (3, sI v3), (4, sI v4), (6, sI r1)] [] σ1 Q)) :
    Jd Y (d + 1) y_VR_build 92 [(0, sR t (.inl 4)), (1, sR a1 (.inr 96)), (2, sI v2), (3, sI v3), (4, sI v4), (7, sI v7)] [] σ Q :=
  blk_ok (d := (d + 1)) (y := y_VR_build) (ft := ft_VR) (ct := ct_VR) (tab := tab_VR_build) ⟨tk_VR_build, ft_VR_ok, ct_VR_ok Y⟩ [(15, [0, 1, 2, 3]), (66, [0, 1, 2, 3, 4, 7]), (92, [0, 1, 2, 3, 4, 7]), (112, [0, 1, 2, 3, 4, 6])] 75 92 _ _ σ h
set_option maxRecDepth 20000 in
theorem s_VR_build_112 (Y : List kd) (d : Nat) (t : Nat) (a1 : Nat) (v2 : Int32) (v3 : Int32) (v4 : Int32) (v6 : Int32) (σ : sS) (Q : Option sv → sS → Prop)
    (h : ((¬ v6 = 0 → Jd Y (d + 1) y_VR_build 15 [(0, sR t (.inl 4)), (1, sR a1 (.inr 96)), (2, sI v2), (3, sI (v3 + 1))] [] σ Q) ∧ (v6 = 0 → Q (some (sI v4)) σ))) :
    Jd Y (d + 1) y_VR_build 112 [(0, sR t (.inl 4)), (1, sR a1 (.inr 96)), (2, sI v2), (3, sI v3), (4, sI v4), (6, sI v6)] [] σ Q :=
  blk_ok (d := (d + 1)) (y := y_VR_build) (ft := ft_VR) (ct := ct_VR) (tab := tab_VR_build) ⟨tk_VR_build, ft_VR_ok, ct_VR_ok Y⟩ [(15, [0, 1, 2, 3]), (66, [0, 1, 2, 3, 4, 7]), (92, [0, 1, 2, 3, 4, 7]), (112, [0, 1, 2, 3, 4, 6])] 75 112 _ _ σ h
set_option maxRecDepth 20000 in
theorem s_VR_adds_0 (Y : List kd) (d : Nat) (t : Nat) (v1 : Int32) (v2 : Int32) (σ : sS) (Q : Option sv → sS → Prop)
    (h : CJ Y d y_RD_top [sR t (.inl 4)] σ (rI fun r1 σ1 => ((r1 < 0 → Jd Y (d + 1) y_VR_adds 69 [(0, sR t (.inl 4)), (1, sI v1), (2, sI v2)] [] σ1 Q) ∧ (¬ r1 < 0 → ((¬ (rd σ1 (t + 3) 20 r1) = 3 → Jd Y (d + 1) y_VR_adds 54 [(0, sR t (.inl 4)), (1, sI v1), (2, sI v2), (3, sI r1), (4, sI (rd σ1 (t + 5) 20 r1))] [] σ1 Q) ∧ ((rd σ1 (t + 3) 20 r1) = 3 → (((rd σ1 (t + 5) 20 r1) < 4 → Jd Y (d + 1) y_VR_adds 54 [(0, sR t (.inl 4)), (1, sI v1), (2, sI v2), (3, sI r1), (4, sI (rd σ1 (t + 5) 20 r1))] [] (up σ1 t 5 (6 + (rd σ1 (t + 5) 20 r1))) Q) ∧ (¬ (rd σ1 (t + 5) 20 r1) < 4 → (((0 : Int32) = 0 ∨ (0 : Int32) = 1) ∧ Q (some (sI 0)) σ1))))))))) :
    Jd Y (d + 1) y_VR_adds 0 [(0, sR t (.inl 4)), (1, sI v1), (2, sI v2)] [] σ Q :=
  blk_ok (d := (d + 1)) (y := y_VR_adds) (ft := ft_VR) (ct := ct_VR) (tab := tab_VR_adds) ⟨tk_VR_adds, ft_VR_ok, ct_VR_ok Y⟩ [(54, [0, 1, 2, 3, 4]), (69, [0, 1, 2]), (105, [0])] 67 0 _ _ σ h
set_option maxRecDepth 20000 in
theorem s_VR_adds_54 (Y : List kd) (d : Nat) (t : Nat) (v1 : Int32) (v2 : Int32) (v3 : Int32) (v4 : Int32) (σ : sS) (Q : Option sv → sS → Prop)
    (h : Jd Y (d + 1) y_VR_adds 69 [(0, sR t (.inl 4)), (1, sI v1), (2, sI v2)] [] (wr σ (t + 5) 20 v3 (v4 + 1)) Q) :
    Jd Y (d + 1) y_VR_adds 54 [(0, sR t (.inl 4)), (1, sI v1), (2, sI v2), (3, sI v3), (4, sI v4)] [] σ Q :=
  blk_ok (d := (d + 1)) (y := y_VR_adds) (ft := ft_VR) (ct := ct_VR) (tab := tab_VR_adds) ⟨tk_VR_adds, ft_VR_ok, ct_VR_ok Y⟩ [(54, [0, 1, 2, 3, 4]), (69, [0, 1, 2]), (105, [0])] 67 54 _ _ σ h
set_option maxRecDepth 20000 in
theorem s_VR_adds_69 (Y : List kd) (d : Nat) (t : Nat) (v1 : Int32) (v2 : Int32) (σ : sS) (Q : Option sv → sS → Prop)
    (h : (((4 : Int32) < (σ t 1) → (((0 : Int32) = 0 ∨ (0 : Int32) = 1) ∧ Q (some (sI 0)) σ)) ∧ (¬ (4 : Int32) < (σ t 1) → CJ Y d y_TR_add [sR (t + 2) (.inl 3), sI v1, sI v2, sI (σ t 5)] σ (rI fun r1 σ1 => ((¬ r1 = 0 → ((v1 = 2 → Jd Y (d + 1) y_VR_adds 105 [(0, sR t (.inl 4))] [] σ1 Q) ∧ (¬ v1 = 2 → ((¬ v1 = 3 → (((1 : Int32) = 0 ∨ (1 : Int32) = 1) ∧ Q (some (sI 1)) σ1)) ∧ (v1 = 3 → Jd Y (d + 1) y_VR_adds 105 [(0, sR t (.inl 4))] [] σ1 Q))))) ∧ (r1 = 0 → (((0 : Int32) = 0 ∨ (0 : Int32) = 1) ∧ Q (some (sI 0)) σ1))))))) :
    Jd Y (d + 1) y_VR_adds 69 [(0, sR t (.inl 4)), (1, sI v1), (2, sI v2)] [] σ Q :=
  blk_ok (d := (d + 1)) (y := y_VR_adds) (ft := ft_VR) (ct := ct_VR) (tab := tab_VR_adds) ⟨tk_VR_adds, ft_VR_ok, ct_VR_ok Y⟩ [(54, [0, 1, 2, 3, 4]), (69, [0, 1, 2]), (105, [0])] 67 69 _ _ σ h
set_option maxRecDepth 20000 in
theorem s_VR_adds_105 (Y : List kd) (d : Nat) (t : Nat) (σ : sS) (Q : Option sv → sS → Prop)
    (h : CJ Y d y_RD_push [sR t (.inl 4), sI ((σ (t + 2) 6) - 1)] σ (rN fun σ1 => (((1 : Int32) = 0 ∨ (1 : Int32) = 1) ∧ Q (some (sI 1)) σ1))) :
    Jd Y (d + 1) y_VR_adds 105 [(0, sR t (.inl 4))] [] σ Q :=
  blk_ok (d := (d + 1)) (y := y_VR_adds) (ft := ft_VR) (ct := ct_VR) (tab := tab_VR_adds) ⟨tk_VR_adds, ft_VR_ok, ct_VR_ok Y⟩ [(54, [0, 1, 2, 3, 4]), (69, [0, 1, 2]), (105, [0])] 67 105 _ _ σ h
set_option maxRecDepth 20000 in
theorem s_TR_add_0 (Y : List kd) (d : Nat) (t : Nat) (v1 : Int32) (v2 : Int32) (v3 : Int32) (σ : sS) (Q : Option sv → sS → Prop)
    (h : (((σ t 6) < 20 → Jd Y (d + 1) y_TR_add 23 [(0, sR t (.inl 3)), (2, sI v2), (3, sI v3)] [] (wr σ (t + 1) 20 (σ t 6) v1) Q) ∧ (¬ (σ t 6) < 20 → (((0 : Int32) = 0 ∨ (0 : Int32) = 1) ∧ Q (some (sI 0)) σ)))) :
    Jd Y (d + 1) y_TR_add 0 [(0, sR t (.inl 3)), (1, sI v1), (2, sI v2), (3, sI v3)] [] σ Q :=
  blk_ok (d := (d + 1)) (y := y_TR_add) (ft := ft_TR) (ct := ct_TR) (tab := tab_TR_add) ⟨tk_TR_add, ft_TR_ok, ct_TR_ok Y⟩ [(23, [0, 2, 3]), (35, [0, 3]), (47, [0, 3]), (59, [0]), (71, [0])] 46 0 _ _ σ h
set_option maxRecDepth 20000 in
theorem s_TR_add_23 (Y : List kd) (d : Nat) (t : Nat) (v2 : Int32) (v3 : Int32) (σ : sS) (Q : Option sv → sS → Prop)
    (h : Jd Y (d + 1) y_TR_add 35 [(0, sR t (.inl 3)), (3, sI v3)] [] (wr σ (t + 2) 20 (σ t 6) v2) Q) :
    Jd Y (d + 1) y_TR_add 23 [(0, sR t (.inl 3)), (2, sI v2), (3, sI v3)] [] σ Q :=
  blk_ok (d := (d + 1)) (y := y_TR_add) (ft := ft_TR) (ct := ct_TR) (tab := tab_TR_add) ⟨tk_TR_add, ft_TR_ok, ct_TR_ok Y⟩ [(23, [0, 2, 3]), (35, [0, 3]), (47, [0, 3]), (59, [0]), (71, [0])] 46 23 _ _ σ h
set_option maxRecDepth 20000 in
theorem s_TR_add_35 (Y : List kd) (d : Nat) (t : Nat) (v3 : Int32) (σ : sS) (Q : Option sv → sS → Prop)
    (h : Jd Y (d + 1) y_TR_add 47 [(0, sR t (.inl 3)), (3, sI v3)] [] (wr σ (t + 3) 20 (σ t 6) 0) Q) :
    Jd Y (d + 1) y_TR_add 35 [(0, sR t (.inl 3)), (3, sI v3)] [] σ Q :=
  blk_ok (d := (d + 1)) (y := y_TR_add) (ft := ft_TR) (ct := ct_TR) (tab := tab_TR_add) ⟨tk_TR_add, ft_TR_ok, ct_TR_ok Y⟩ [(23, [0, 2, 3]), (35, [0, 3]), (47, [0, 3]), (59, [0]), (71, [0])] 46 35 _ _ σ h
set_option maxRecDepth 20000 in
theorem s_TR_add_47 (Y : List kd) (d : Nat) (t : Nat) (v3 : Int32) (σ : sS) (Q : Option sv → sS → Prop)
    (h : Jd Y (d + 1) y_TR_add 59 [(0, sR t (.inl 3))] [] (wr σ (t + 4) 20 (σ t 6) v3) Q) :
    Jd Y (d + 1) y_TR_add 47 [(0, sR t (.inl 3)), (3, sI v3)] [] σ Q :=
  blk_ok (d := (d + 1)) (y := y_TR_add) (ft := ft_TR) (ct := ct_TR) (tab := tab_TR_add) ⟨tk_TR_add, ft_TR_ok, ct_TR_ok Y⟩ [(23, [0, 2, 3]), (35, [0, 3]), (47, [0, 3]), (59, [0]), (71, [0])] 46 47 _ _ σ h
set_option maxRecDepth 20000 in
theorem s_TR_add_59 (Y : List kd) (d : Nat) (t : Nat) (σ : sS) (Q : Option sv → sS → Prop)
    (h : Jd Y (d + 1) y_TR_add 71 [(0, sR t (.inl 3))] [] (wr σ (t + 5) 20 (σ t 6) 1) Q) :
    Jd Y (d + 1) y_TR_add 59 [(0, sR t (.inl 3))] [] σ Q :=
  blk_ok (d := (d + 1)) (y := y_TR_add) (ft := ft_TR) (ct := ct_TR) (tab := tab_TR_add) ⟨tk_TR_add, ft_TR_ok, ct_TR_ok Y⟩ [(23, [0, 2, 3]), (35, [0, 3]), (47, [0, 3]), (59, [0]), (71, [0])] 46 59 _ _ σ h
set_option maxRecDepth 20000 in
theorem s_TR_add_71 (Y : List kd) (d : Nat) (t : Nat) (σ : sS) (Q : Option sv → sS → Prop)
    (h : (((1 : Int32) = 0 ∨ (1 : Int32) = 1) ∧ Q (some (sI 1)) (up σ t 6 ((σ t 6) + 1)))) :
    Jd Y (d + 1) y_TR_add 71 [(0, sR t (.inl 3))] [] σ Q :=
  blk_ok (d := (d + 1)) (y := y_TR_add) (ft := ft_TR) (ct := ct_TR) (tab := tab_TR_add) ⟨tk_TR_add, ft_TR_ok, ct_TR_ok Y⟩ [(23, [0, 2, 3]), (35, [0, 3]), (47, [0, 3]), (59, [0]), (71, [0])] 46 71 _ _ σ h
set_option maxRecDepth 20000 in
theorem s_VR_takes_0 (Y : List kd) (d : Nat) (t : Nat) (v1 : Int32) (σ : sS) (Q : Option sv → sS → Prop)
    (h : ((v1 = 40 → CJ Y d y_VR_adds [sR t (.inl 4), sI 2, sI 0] σ (rI fun r11 σ11 => ((r11 = 0 ∨ r11 = 1) ∧ Q (some (sI r11)) σ11))) ∧ (¬ v1 = 40 → ((v1 = 41 → CJ Y d y_RD_top [sR t (.inl 4)] σ (rI fun r8 σ8 => CJ Y d y_RD_top [sR t (.inl 4)] σ8 (rI fun r9 σ9 => CJ Y d y_RD_pop [sR t (.inl 4)] (wr σ9 (t + 7) 20 r8 ((σ8 (t + 2) 6) - r9)) (rN fun σ10 => (((1 : Int32) = 0 ∨ (1 : Int32) = 1) ∧ Q (some (sI 1)) σ10))))) ∧ (¬ v1 = 41 → ((v1 = 44 → (((1 : Int32) = 0 ∨ (1 : Int32) = 1) ∧ Q (some (sI 1)) σ)) ∧ (¬ v1 = 44 → ((v1 = 63 → CJ Y d y_VR_adds [sR t (.inl 4), sI 1, sI 0] σ (rI fun r7 σ7 => ((r7 = 0 ∨ r7 = 1) ∧ Q (some (sI r7)) σ7))) ∧ (¬ v1 = 63 → ((v1 = 91 → CJ Y d y_VR_adds [sR t (.inl 4), sI 3, sI 0] σ (rI fun r6 σ6 => ((r6 = 0 ∨ r6 = 1) ∧ Q (some (sI r6)) σ6))) ∧ (¬ v1 = 91 → ((v1 = 93 → CJ Y d y_RD_top [sR t (.inl 4)] σ (rI fun r3 σ3 => CJ Y d y_RD_top [sR t (.inl 4)] σ3 (rI fun r4 σ4 => CJ Y d y_RD_pop [sR t (.inl 4)] (wr σ4 (t + 7) 20 r3 ((σ3 (t + 2) 6) - r4)) (rN fun σ5 => (((1 : Int32) = 0 ∨ (1 : Int32) = 1) ∧ Q (some (sI 1)) σ5))))) ∧ (¬ v1 = 93 → CJ Y d y_RD_top [sR t (.inl 4)] (up σ t 5 ((v1 - 97) + 1)) (rI fun r1 σ1 => CJ Y d y_TR_child [sR (t + 2) (.inl 3), sI r1, sI (σ1 t 5)] σ1 (rI fun r2 σ2 => ((¬ r2 < 0 → (((0 : Int32) = 0 ∨ (0 : Int32) = 1) ∧ Q (some (sI 0)) σ2)) ∧ (r2 < 0 → (((1 : Int32) = 0 ∨ (1 : Int32) = 1) ∧ Q (some (sI 1)) σ2)))))))))))))))))) :
    Jd Y (d + 1) y_VR_takes 0 [(0, sR t (.inl 4)), (1, sI v1)] [] σ Q :=
  blk_ok (d := (d + 1)) (y := y_VR_takes) (ft := ft_VR) (ct := ct_VR) (tab := tab_VR_takes) ⟨tk_VR_takes, ft_VR_ok, ct_VR_ok Y⟩ [] 53 0 _ _ σ h
set_option maxRecDepth 20000 in
theorem s_TR_link_0 (Y : List kd) (d : Nat) (t : Nat) (σ : sS) (Q : Option sv → sS → Prop)
    (h : Jd Y (d + 1) y_TR_link 11 [(0, sR t (.inl 3)), (1, sI 0)] [] (wr σ (t + 6) 20 0 0) Q) :
    Jd Y (d + 1) y_TR_link 0 [(0, sR t (.inl 3))] [] σ Q :=
  blk_ok (d := (d + 1)) (y := y_TR_link) (ft := ft_TR) (ct := ct_TR) (tab := tab_TR_link) ⟨tk_TR_link, ft_TR_ok, ct_TR_ok Y⟩ [(11, [0, 1]), (35, [0, 1, 2, 3, 4]), (66, [0, 1, 2, 3, 4])] 67 0 _ _ σ h
set_option maxRecDepth 20000 in
theorem s_TR_link_11 (Y : List kd) (d : Nat) (t : Nat) (v1 : Int32) (σ : sS) (Q : Option sv → sS → Prop)
    (h : ((¬ v1 < (σ t 6) → Q none σ) ∧ (v1 < (σ t 6) → Jd Y (d + 1) y_TR_link 35 [(0, sR t (.inl 3)), (1, sI v1), (2, sI (rd σ (t + 3) 20 v1)), (3, sI (v1 + 1)), (4, sI 0)] [] σ Q))) :
    Jd Y (d + 1) y_TR_link 11 [(0, sR t (.inl 3)), (1, sI v1)] [] σ Q :=
  blk_ok (d := (d + 1)) (y := y_TR_link) (ft := ft_TR) (ct := ct_TR) (tab := tab_TR_link) ⟨tk_TR_link, ft_TR_ok, ct_TR_ok Y⟩ [(11, [0, 1]), (35, [0, 1, 2, 3, 4]), (66, [0, 1, 2, 3, 4])] 67 11 _ _ σ h
set_option maxRecDepth 20000 in
theorem s_TR_link_35 (Y : List kd) (d : Nat) (t : Nat) (v1 : Int32) (v2 : Int32) (v3 : Int32) (v4 : Int32) (σ : sS) (Q : Option sv → sS → Prop)
    (h : ((¬ v4 < v2 → Jd Y (d + 1) y_TR_link 11 [(0, sR t (.inl 3)), (1, sI (v1 + 1))] [] σ Q) ∧ (v4 < v2 → ((¬ (rd σ (t + 1) 20 v1) = 3 → Jd Y (d + 1) y_TR_link 66 [(0, sR t (.inl 3)), (1, sI v1), (2, sI v2), (3, sI v3), (4, sI v4)] [] σ Q) ∧ ((rd σ (t + 1) 20 v1) = 3 → Jd Y (d + 1) y_TR_link 66 [(0, sR t (.inl 3)), (1, sI v1), (2, sI v2), (3, sI v3), (4, sI v4)] [] (wr σ (t + 4) 20 v3 (6 + v4)) Q))))) :
    Jd Y (d + 1) y_TR_link 35 [(0, sR t (.inl 3)), (1, sI v1), (2, sI v2), (3, sI v3), (4, sI v4)] [] σ Q :=
  blk_ok (d := (d + 1)) (y := y_TR_link) (ft := ft_TR) (ct := ct_TR) (tab := tab_TR_link) ⟨tk_TR_link, ft_TR_ok, ct_TR_ok Y⟩ [(11, [0, 1]), (35, [0, 1, 2, 3, 4]), (66, [0, 1, 2, 3, 4])] 67 35 _ _ σ h
set_option maxRecDepth 20000 in
theorem s_TR_link_66 (Y : List kd) (d : Nat) (t : Nat) (v1 : Int32) (v2 : Int32) (v3 : Int32) (v4 : Int32) (σ : sS) (Q : Option sv → sS → Prop)
    (h : Jd Y (d + 1) y_TR_link 35 [(0, sR t (.inl 3)), (1, sI v1), (2, sI v2), (3, sI (v3 + (rd (wr σ (t + 6) 20 v3 ((10 * (rd σ (t + 6) 20 v1)) + (rd σ (t + 4) 20 v3))) (t + 5) 20 v3))), (4, sI (v4 + 1))] [] (wr σ (t + 6) 20 v3 ((10 * (rd σ (t + 6) 20 v1)) + (rd σ (t + 4) 20 v3))) Q) :
    Jd Y (d + 1) y_TR_link 66 [(0, sR t (.inl 3)), (1, sI v1), (2, sI v2), (3, sI v3), (4, sI v4)] [] σ Q :=
  blk_ok (d := (d + 1)) (y := y_TR_link) (ft := ft_TR) (ct := ct_TR) (tab := tab_TR_link) ⟨tk_TR_link, ft_TR_ok, ct_TR_ok Y⟩ [(11, [0, 1]), (35, [0, 1, 2, 3, 4]), (66, [0, 1, 2, 3, 4])] 67 66 _ _ σ h
set_option maxRecDepth 20000 in
theorem s_GF_value_0 (Y : List kd) (d : Nat) (t : Nat) (σ : sS) (Q : Option sv → sS → Prop)
    (h : CJ Y d y_RD_read [sR (t + 38) (.inl 4), sR (t + 64) (.inr 96), sI (σ t 6)] σ (rI fun r1 σ1 => ((r1 = 0 → CJ Y d y_TR_take [sR (t + 1) (.inl 3), sR (t + 40) (.inl 3)] (up σ1 t 6 0) (rN fun σ2 => Q (some (sI (σ2 (t + 1) 6))) σ2)) ∧ (¬ r1 = 0 → Q (some (sI r1)) (up σ1 t 6 0))))) :
    Jd Y (d + 1) y_GF_value 0 [(0, sR t (.inl 5))] [] σ Q :=
  blk_ok (d := (d + 1)) (y := y_GF_value) (ft := ft_GF) (ct := ct_GF) (tab := tab_GF_value) ⟨tk_GF_value, ft_GF_ok, ct_GF_ok Y⟩ [] 27 0 _ _ σ h
end
section
/-! the constructors: helpers -/
def NW2 : List Cond := [.methodLinkNest "GathersAllFaults" 21 ⟨"GathersAllFaults$Gatherer", "<init>", "()V"⟩ "GathersAllFaults", .methodLinkNest "GathersAllFaults" 28 ⟨"GathersAllFaults$ValueReader", "<init>", "()V"⟩ "GathersAllFaults", .methodLinkNest "GathersAllFaults$ValueReader" 3 ⟨"GathersAllFaults$Reader", "<init>", "()V"⟩ "GathersAllFaults", .methodLinkNest "GathersAllFaults" 35 ⟨"GathersAllFaults$CheckReader", "<init>", "()V"⟩ "GathersAllFaults", .methodLinkNest "GathersAllFaults$CheckReader" 3 ⟨"GathersAllFaults$Reader", "<init>", "()V"⟩ "GathersAllFaults", .methodLinkNest "GathersAllFaultsLaw" 40 ⟨"GathersAllFaultsLaw$Tape", "<init>", "()V"⟩ "GathersAllFaultsLaw"]
theorem NW2_tbl : ∀ w ∈ NW2, w ∈ tables_1 := (List.forall_mem_cons.mpr ⟨(List.mem_of_getElem? (i := 69) (by decide +kernel)), (List.forall_mem_cons.mpr ⟨(List.mem_of_getElem? (i := 170) (by decide +kernel)), (List.forall_mem_cons.mpr ⟨(List.mem_of_getElem? (i := 173) (by decide +kernel)), (List.forall_mem_cons.mpr ⟨(List.mem_of_getElem? (i := 213) (by decide +kernel)), (List.forall_mem_cons.mpr ⟨(List.mem_of_getElem? (i := 216) (by decide +kernel)), (List.forall_mem_cons.mpr ⟨(List.mem_of_getElem? (i := 531) (by decide +kernel)), (fun _ h => absurd h List.not_mem_nil)⟩)⟩)⟩)⟩)⟩)⟩)
theorem NW2_kind : ∀ w ∈ NW2, ∃ a i x h, w = .methodLinkNest a i x h := by
  intro w hw
  simp only [NW2, List.mem_cons, List.not_mem_nil, or_false] at hw
  rcases hw with rfl | rfl | rfl | rfl | rfl | rfl <;> exact ⟨_, _, _, _, rfl⟩
theorem NW2_warm {s U : State} (hW : s.WarmedH U.vm) : ∀ w ∈ NW2, va_Nw w s → va_Nw w U := by
  intro w hw h
  obtain ⟨a, i, x, hh, rfl⟩ := NW2_kind w hw
  exact va_Nw.warmM hW h
theorem NW2_tab : ∀ w ∈ NW2, w.onTables = true := by
  intro w hw
  obtain ⟨a, i, x, hh, rfl⟩ := NW2_kind w hw
  rfl
theorem aw_int : Cond.arrayClass .int ∈ ALL := ALL_in 66 (by decide +kernel) rfl
abbrev rmC (d mc ms : Nat) : Room := { frames := d, cells := mc, slots := ms, locals := 40 * d + 40 }
/-- a constructor's contract: on a fresh object of class ci with the fields fs0, the block of cells that it leaves, by its addresses -/
def Ctor (y : sY) (d mc ms ci : Nat) (fs0 : List Value) (post : ClassId → (Nat → Nat) → va_W) : Prop := ∀ (l : Launch) (D : va_G) (cA : ClassId) (h0 sz : Nat),
  Met l y.1 (wsY y) (rmC d mc ms) (va_Pc [.ref h0] (fun U => U.heap.size = sz ∧ va_P D classes [(h0, .inr (ci, fs0))] U.heap ∧ va_K D classes [(cA, .int)] U ∧ va_D (fun _ => True) [(h0, .inr (ci, fs0))] ∧ (∀ w ∈ NW, va_Nw w U) ∧ ∀ w ∈ NW2, va_Nw w U))
    (va_Qv (fun u : Nat → Nat => u 0 = h0) (fun u t => va_P D classes (post cA u) t.heap ∧ va_D (va_A [(h0, .inr (ci, fs0))] sz) (post cA u)) (va_A [(h0, .inr (ci, fs0))] sz)) mc ms (va_A [(h0, .inr (ci, fs0))] sz)
section CT
variable {p : Program} {l : Launch} {e : Env} {R : Room} {s : State} {m : MethodId} {args : Array Value} {below : List Frame} {meth : Method} {c : Code} {H : Heap} {locs : List Loc} {cells slots : Nat} {Qf : State → Prop}
variable {cc : ByteArray} {pc : Nat} {ls : Array Slot} {rest : List Value} {D : va_G} {cA : ClassId} {A : Nat → Prop} {ws : va_W} {H0 : Heap}
theorem x_newa (hx : p.tables.exec = Jvm.exec) (hb : c.code = cc) (hts : ∀ w ∈ ALL, w.before args s = true) (hK : va_K D classes [(cA, .int)] s) (hP : va_P D classes ws H) (hD : va_D A ws) (hS : va_S A H0 H locs) (hA : ∀ q, H0.size ≤ q → A q)
    {n : Int32} (N : Nat) (hn : ¬ n < 0) (hN : n.toNatClampNeg = N) (hbytes : N * 4 ≤ 536870912) (hcells : cells + 1 ≤ R.cells) (hslots : slots + N ≤ R.slots) (hdg : decode cc pc = .ok (.newarray .int, 2))
    (kk : ∀ (q : Nat) (H1 : Heap), va_P D classes (ws ++ [(q, .inl (cA, N, .inl (fun _ => 0)))]) H1 → va_D A (ws ++ [(q, .inl (cA, N, .inl (fun _ => 0)))]) → va_S A H0 H1 locs → W p l e R s m args below meth c H1 locs (cells + 1) (slots + N) Qf (F0 m (pc + 2) ls (.ref q :: rest))) : W p l e R s m args below meth c H locs cells slots Qf (F0 m pc ls (.int n :: rest)) := by
  refine va_newa (atype := .int) (ty := .int) hx hb (hts _ aw_int) rfl hK hP hD hS hA (N' := N) (a0 := (N, .inl (fun _ => 0))) (fun cA => rfl) hn hN hbytes hcells hslots hdg ?_
  intro q cA' H1 hK' hP' hD' hS'
  have e1 : s.vm.findClass ("[" ++ FieldType.int.toString) = some cA := (hK.2 0 _ rfl).2
  have e2 : s.vm.findClass ("[" ++ FieldType.int.toString) = some cA' := (hK'.2 1 _ rfl).2
  have e3 : cA' = cA := Option.some.inj (e2.symm.trans e1)
  subst e3
  exact kk q H1 hP' hD' hS'
/-- how a constructor is linked: by the class itself, or from a nest mate -/
def LinkC (own : String) (idx : Nat) (y : sY) : Prop := y.1.name = "<init>" ∧ plainName y.1.cls = true ∧ y.2.2.1 ≤ 21 ∧ y.2.2.2 = none ∧ notMH y.1.cls ∧ (parseMethodDescriptor y.1.desc).map (fun d => d.parameters.length) = some 0 ∧ Cond.code y.1 y.2.1 y.2.2.1 y.2.2.2 ∈ ALL ∧ Cond.initialized y.1.cls ∈ ALL ∧ Cond.instanceMethod y.1 ∈ ALL ∧ (Cond.methodLink own idx y.1 ∈ ALL ∨ ∃ host, Cond.methodLinkNest own idx y.1 host ∈ NW2)
theorem x_ctor {y : sY} {own : String} {idx d mc ms ci nL : Nat} {fs0 : List Value} {post : ClassId → (Nat → Nat) → va_W} {wr : va_W} {h0 : Nat} (hc : Ctor y d mc ms ci fs0 post) (hL : LinkC own idx y)
    (hx : p.tables.exec = Jvm.exec) (hb : c.code = cc) (hml : c.maxLocals = nL) (hown : s.vm.findClass own = some m.cls) (hts : ∀ w ∈ ALL, w.before args s = true) (hN : ∀ w ∈ NW, va_Nw w s) (hN2 : ∀ w ∈ NW2, va_Nw w s)
    (hK : va_K D classes [(cA, .int)] s) (hP : va_P D classes (wr ++ [(h0, .inr (ci, fs0))]) H) (hD : va_D A (wr ++ [(h0, .inr (ci, fs0))])) (hS : va_S A H0 H locs) (hA : ∀ q, H0.size ≤ q → A q) (hsz : ls.size = nL) (hcat : (rest.map fun v => v.category).sum ≤ 8)
    (hR : d + 1 ≤ R.frames ∧ 40 * d + 80 ≤ R.locals) (hcells : cells + mc ≤ R.cells ∧ slots + ms ≤ R.slots) (hdg : decode cc pc = .ok (.invokespecial idx, 3))
    (kk : ∀ (u : Nat → Nat) (H1 : Heap) (locs1 : List Loc), u 0 = h0 → va_P D classes (wr ++ post cA u) H1 → va_D A (wr ++ post cA u) → va_S A H0 H1 locs1 → W p l e R s m args below meth c H1 locs1 (cells + mc) (slots + ms) Qf (F0 m (pc + 3) ls rest)) : W p l e R s m args below meth c H locs cells slots Qf (F0 m pc ls (.ref h0 :: rest)) := by
  obtain ⟨y1, y2, y3, yr, y4, y5, y6, y7, y8, y9⟩ := hL
  have hl0 : (wr ++ [(h0, (.inr (ci, fs0) : va_E))])[wr.length]? = some (h0, .inr (ci, fs0)) := by simp
  have hP1 : va_P D classes [(h0, .inr (ci, fs0))] H := hP.sub [wr.length] (by simp)
  have hD1 : va_D (fun _ => True) [(h0, (.inr (ci, fs0) : va_E))] := ⟨fun i j p q hi hj _ => by
    have := (List.getElem?_eq_some_iff.mp hi).1
    have := (List.getElem?_eq_some_iff.mp hj).1
    simp at *
    omega, fun _ _ _ => trivial⟩
  have hsub : ∀ q, va_A [(h0, (.inr (ci, fs0) : va_E))] H.size q → A q := by
    intro q hq
    rcases hq with ⟨k, en, hk⟩ | hq
    · have hm := List.mem_of_getElem? hk
      simp only [List.mem_singleton, Prod.mk.injEq] at hm
      rw [hm.1]
      exact hD.2 _ _ hl0
    · exact hA q (Nat.le_trans hS.1 hq)
  have hpre : ∀ U : State, U.heap = H → s.WarmedH U.vm → (va_Pc [.ref h0] (fun U => U.heap.size = H.size ∧ va_P D classes [(h0, .inr (ci, fs0))] U.heap ∧ va_K D classes [(cA, .int)] U ∧ va_D (fun _ => True) [(h0, .inr (ci, fs0))] ∧ (∀ w ∈ NW, va_Nw w U) ∧ ∀ w ∈ NW2, va_Nw w U)) ([Value.ref h0]).toArray U := fun U hU hW => ⟨rfl, by rw [hU], by rw [hU]; exact hP1, va_K.moved hW.alike hK, hD1, fun w hw => NW_warm hW w hw (hN w hw), fun w hw => NW2_warm hW w hw (hN2 w hw)⟩
  have hbl : FrameBlind (va_Pc [.ref h0] (fun U => U.heap.size = H.size ∧ va_P D classes [(h0, .inr (ci, fs0))] U.heap ∧ va_K D classes [(cA, .int)] U ∧ va_D (fun _ => True) [(h0, .inr (ci, fs0))] ∧ (∀ w ∈ NW, va_Nw w U) ∧ ∀ w ∈ NW2, va_Nw w U)) := by
    rintro a U g mk ⟨h1, h2, h3, h4, h5, h6, h7⟩
    exact ⟨h1, h2, h3, va_K.moved (u := U) (U := U.calling g mk a) (Vm.Alike.refl U.vm) h4, h5, fun w hw => va_Nw.same (NW_tab w hw) (u := U) (U := U.calling g mk a) rfl (h6 w hw), fun w hw => va_Nw.same (NW2_tab w hw) (u := U) (U := U.calling g mk a) rfl (h7 w hw)⟩
  have hG : GoodIn ALL (wsY y) := goodALL fun w hw => (List.mem_cons.mp hw).elim (fun e => e ▸ y6) id
  have hRm : (rmC d mc ms).frames + 1 ≤ R.frames ∧ 8 + (y.2.2.1 + 11) + (rmC d mc ms).locals ≤ R.locals := ⟨hR.1, by show 8 + (_ + 11) + (40 * d + 40) ≤ R.locals; omega⟩
  have hws : wsY y = Cond.code y.1 y.2.1 y.2.2.1 none :: ALL := by unfold wsY; rw [yr]
  have hrun : va_Run p l e R s m args below meth c H locs cells slots mc ms (F0 m pc ls (.ref h0 :: rest)) rest (va_Qv (fun u : Nat → Nat => u 0 = h0) (fun u t => va_P D classes (post cA u) t.heap ∧ va_D (va_A [(h0, .inr (ci, fs0))] H.size) (post cA u)) (va_A [(h0, .inr (ci, fs0))] H.size) ([Value.ref h0]).toArray) (va_A [(h0, .inr (ci, fs0))] H.size) := by
    rcases y9 with hl | ⟨host, hl⟩
    · exact va_runI (As := []) (rest := rest) ⟨hx, hb, hml, hown, hts⟩ (hc l D cA h0 H.size) (cwI 0 hts hG hws rfl rfl (hts _ y7) (hts _ hl) (hts _ y8) y1 ⟨y4.1, y4.2, y5⟩ hRm) ⟨hbl, hpre⟩ rfl rfl hsz rfl (lv_room hcat) hdg hcells
    · exact va_runIN (As := []) (rest := rest) ⟨hx, hb, hml, hown, hts⟩ (hc l D cA h0 H.size) ⟨va_cnB 0 hts hG hws rfl rfl (hN2 _ hl) (hts _ y7) ⟨y4.1, y4.2, y5⟩ hRm, y1, hts _ y8⟩ ⟨hbl, hpre⟩ rfl rfl hsz rfl (lv_room hcat) hdg hcells
  refine va_callv hrun hS (fun q _ h => hsub q h) hsub (fun u t H1 locs1 ht hvm hu hB hz1 hk1 hS1 => ?_)
  obtain ⟨hPp, hDp⟩ := hB
  rw [ht] at hPp
  have hap : ∀ (i : Nat) (q : Nat × va_E), wr[i]? = some q → q.1 < H.size ∧ ¬ va_A [(h0, (.inr (ci, fs0) : va_E))] H.size q.1 := by
    intro i q hi
    have hil := (List.getElem?_eq_some_iff.mp hi).1
    have hi2 : (wr ++ [(h0, (.inr (ci, fs0) : va_E))])[i]? = some q := by rw [List.getElem?_append_left hil]; exact hi
    have hlt := (hP i q hi2).lt
    refine ⟨hlt, ?_⟩
    rintro (⟨k, en, hk⟩ | hq)
    · have hm := List.mem_of_getElem? hk
      simp only [List.mem_singleton, Prod.mk.injEq] at hm
      have := hD.1 i wr.length q _ hi2 hl0 hm.1
      omega
    · omega
  refine kk u H1 locs1 hu (va_P.app (fun k q hq => ?_) hPp) (va_D.app ⟨fun i j x y hi hj hxy => ?_, fun k q hq => ?_⟩ (hDp.weaken (fun k q _ h => hsub q.1 h)) (fun i j x y hi hj hxy => ?_)) hS1
  · have hil := (List.getElem?_eq_some_iff.mp hq).1
    have hi2 : (wr ++ [(h0, (.inr (ci, fs0) : va_E))])[k]? = some q := by rw [List.getElem?_append_left hil]; exact hq
    exact (hP k q hi2).kept (hk1 q.1 (hap k q hq).1 (hap k q hq).2)
  · have hil := (List.getElem?_eq_some_iff.mp hi).1
    have hjl := (List.getElem?_eq_some_iff.mp hj).1
    exact hD.1 i j x y (by rw [List.getElem?_append_left hil]; exact hi) (by rw [List.getElem?_append_left hjl]; exact hj) hxy
  · have hil := (List.getElem?_eq_some_iff.mp hq).1
    exact hD.2 k q (by rw [List.getElem?_append_left hil]; exact hq)
  · exact (hap i x hi).2 (by rw [hxy]; exact hDp.2 j y hj)
/-- the start of a constructor's walk -/
theorem ctor_of {y : sY} {d mc ms ci : Nat} {fs0 : List Value} {post : ClassId → (Nat → Nat) → va_W} (hy : plainName y.1.cls = true) (hL : y.2.2.1 = 1) (hret : y.2.2.2 = none)
    (body : ∀ (l : Launch) (D : va_G) (cA : ClassId) (h0 : Nat) (A : Nat → Prop) (p : Program) (e : Env) (s : State) (m : MethodId) (below : List Frame) (meth : Method) (c : Code) (ls : Array Slot), p.tables.exec = Jvm.exec → c.code = y.2.1 → c.maxLocals = 1 → s.vm.findClass y.1.cls = some m.cls → meth.sig.returnType = none → meth.locks = false → meth.name = y.1.name → (∀ w ∈ ALL, w.before #[Value.ref h0] s = true) → (∀ w ∈ NW, va_Nw w s) → (∀ w ∈ NW2, va_Nw w s) → va_K D classes [(cA, .int)] s →
      (∀ q : Nat, s.heap.size ≤ q → A q) → va_P D classes [(h0, .inr (ci, fs0))] s.heap → va_D A [(h0, .inr (ci, fs0))] → va_S A s.heap s.heap [] → lv_has ls 1 [(0, .ref h0)] →
      W p l e (rmC d mc ms) s m #[Value.ref h0] below meth c s.heap [] 0 0 (MQ below (va_Qv (fun u : Nat → Nat => u 0 = h0) (fun u t => va_P D classes (post cA u) t.heap ∧ va_D A (post cA u)) A) #[Value.ref h0] s mc ms A) (F0 m 0 ls [])) : Ctor y d mc ms ci fs0 post := by
  intro l D cA h0 sz
  refine Met.ofW (cc := y.2.1) (maxL := y.2.2.1) (ret := y.2.2.2) (ws' := ALL) hy rfl ?_
  intro p e s m args below meth c s₁ B hml hv
  obtain ⟨rfl, hsz, hP, hK, hD0, hN, hN2⟩ := hv
  have hts := atoms_spec (ws := wsY y) B.pre
  subst hsz
  have hl := lv_entry ([.ref h0]) (n := 1) (Nat.le_of_ble_eq_true rfl)
  rw [hL, lg_entry_eq]
  exact body l D cA h0 _ p e s m below meth c _ B.exec B.bytes (hml.trans hL) (findClass_of_methodNamed B.named) (B.returns.trans hret) B.notSynchronized (name_of_methodNamed B.named B.method).1 (fun w hw => hts w (List.mem_cons_of_mem _ hw)) hN hN2 hK (fun q hq => Or.inr hq) hP hD0.self va_S.rf hl
end CT
end
section
/-! a call of a method of ours from a walk over the machine -/
section SMC
variable {p : Program} {l : Launch} {e : Env} {R : Room} {s : State} {m : MethodId} {args : Array Value} {below : List Frame} {meth : Method} {c : Code} {H : Heap} {locs : List Loc} {cells slots : Nat} {Qf : State → Prop}
variable {cc : ByteArray} {pc nL : Nat} {ls : Array Slot} {rest : List Value} {D : va_G} {cA : ClassId} {A : Nat → Prop} {H0 : Heap} {Y : List kd} {ad : Nat → Nat} {σ : sS}
theorem sm_call {own : String} {q : sE} {d b : Nat} {as0 : List sv} {Q' : Option sv → sS → Prop} {st0 : List Value} (hE : eOK Y own q) (hq : q.2.1 = 0) (hb0 : Y[b]? = some (.inl q.2.2.1)) (hcj : CJ Y d q.2.2.2.1 (.inr (.inr (b, .inl q.2.2.1)) :: as0) σ Q') (hY : lok Y) (hwt : wtS Y as0)
    (hx : p.tables.exec = Jvm.exec) (hb : c.code = cc) (hml : c.maxLocals = nL) (hown : s.vm.findClass own = some m.cls) (hts : ∀ w ∈ ALL, w.before args s = true) (hN : ∀ w ∈ NW, va_Nw w s) (hK : va_K D classes [(cA, .int)] s)
    (hP : va_P D classes (wl cA ad σ Y) H) (hD : va_D A (wl cA ad σ Y)) (hS : va_S A H0 H locs) (hA : ∀ q : Nat, H0.size ≤ q → A q) (hsz : ls.size = nL) (hcat : (rest.map fun v => v.category).sum ≤ 8) (hna : as0.length = q.2.2.2.2.1) (hwd : wsum (.inr (.inr (b, .inl q.2.2.1)) :: as0) ≤ q.2.2.2.1.2.2.1)
    (hR : d + 1 ≤ R.frames ∧ 40 * d + 80 ≤ R.locals) (hcells : cells ≤ R.cells ∧ slots ≤ R.slots) (hdg : decode cc pc = .ok (.invokevirtual q.1, 3)) (hst : st0 = (as0.map (cv ad)).reverse ++ .ref (ad b) :: rest)
    (kk : ∀ (r : Option sv) (σ' : sS) (H1 : Heap) (locs1 : List Loc), Q' r σ' → va_P D classes (wl cA ad σ' Y) H1 → H.size ≤ H1.size → (∀ q : Nat, q < H.size → ¬ va_A (wl cA ad σ Y) H.size q → H1[q]? = H[q]?) → va_S A H0 H1 locs1 → W p l e R s m args below meth c H1 locs1 cells slots Qf (F0 m (pc + 3) ls ((r.map (cv ad)).toList ++ rest))) :
    W p l e R s m args below meth c H locs cells slots Qf (F0 m pc ls st0) := by
  subst hst
  have hsub : ∀ z, va_A (wl cA ad σ Y) H.size z → A z := by
    intro z hz
    rcases hz with ⟨k, en, hk⟩ | hz
    · exact hD.2 k _ hk
    · exact hA z (Nat.le_trans hS.1 hz)
  unfold eOK at hE
  rw [hq] at hE
  obtain ⟨⟨y1, y2, y3, y4, y5, -⟩, C, T, N, e0, e1, e2, e3, e4, e5⟩ := hE
  have hwa : wtS Y (.inr (.inr (b, .inl q.2.2.1)) :: as0) := wtS_cons hb0 hwt
  have hM := met_of hcj y1 hY hwa l D cA ad H.size (by rw [wsum_sl]; exact hwd)
  have hr := va_runV (p := p) (e := e) (R := R) (s := s) (m := m) (args := args) (below := below) (meth := meth) (c := c) (H := H) (locs := locs) (cells := cells) (slots := slots) (rest := rest) (g := F0 m pc ls ((as0.map (cv ad)).reverse ++ .ref (ad b) :: rest)) (b := ad b) (As := as0.map (cv ad)) ⟨hx, hb, hml, hown, hts⟩ hM (cwV _ hts (goodALL fun w hw => by
        rcases List.mem_append.mp hw with hw | hw
        · simp only [List.mem_cons, List.not_mem_nil, or_false] at hw
          rcases hw with rfl | rfl | rfl | rfl
          · exact e2
          · exact e3
          · exact e4
          · exact e5
        · exact (List.mem_cons.mp hw).elim (fun e => e ▸ y2) id) rfl rfl rfl ⟨e1, y4.1, y4.2, y5⟩ ⟨by show d + 1 ≤ R.frames; omega, by show 8 + (_ + 11) + (40 * d + 40) ≤ R.locals; omega⟩) ⟨sPc_blind, va_recv hK hP e0 (wl_get hb0), fun U hU hW => ⟨rfl, by rw [hU], by rw [hU]; exact hP, va_K.moved hW.alike hK, hD.weaken (fun _ _ _ _ => trivial), fun w hw => NW_warm hW w hw (hN w hw)⟩⟩ rfl (by rw [List.length_map]; exact hna) hsz rfl (lv_room hcat) hdg ⟨hcells.1, hcells.2⟩
  intro T hT X
  obtain ⟨v, st₀, t, T', L, h0, X', hLL, e7, e8, ⟨⟨r, σ', hv, hw, hqq, hp⟩, hz, hk⟩, stp⟩ := hr T hT X
  cases hv
  rw [h0] at hz hk
  obtain ⟨t2, a1, b1⟩ := kk r σ' T'.heap (locs ++ L) hqq (by rw [e7]; exact hp) (by rw [e7]; exact hz) (fun z h1 h2 => by rw [e7]; exact hk z h1 h2)
    ⟨Nat.le_trans hS.1 (by rw [e7]; exact hz), fun z h1 h2 => by rw [e7, hk z (Nat.lt_of_lt_of_le h1 hS.1) (fun zz => h2 (hsub z zz))]; exact hS.2.1 z h1 h2, fun z hz => by
      rcases List.mem_append.mp hz with h | h
      · exact hS.2.2 z h
      · exact hsub _ (hLL z h)⟩ T' rfl X'
  exact ⟨t2, stp t2 a1, b1⟩
/-- a call of the static method set on one array of a walk's list -/
theorem x_set {own : String} {idx n a k q0 : Nat} {i v : Int32} {f : Nat → Int32} {ws : va_W} {x : MethodName} {host : String} (hE : eOK [.inr n] own (idx, 1, 0, y_GF_set, 3, x, host, pr_set)) (hn : n < 2 ^ 31) (hi0 : ¬ i < 0) (hik : i.toNatClampNeg = k) (hkn : k < n) (hq0 : ws[q0]? = some (a, .inl (cA, n, .inl f)))
    (hx : p.tables.exec = Jvm.exec) (hb : c.code = cc) (hml : c.maxLocals = nL) (hown : s.vm.findClass own = some m.cls) (hts : ∀ w ∈ ALL, w.before args s = true) (hN : ∀ w ∈ NW, va_Nw w s) (hK : va_K D classes [(cA, .int)] s)
    (hP : va_P D classes ws H) (hD : va_D A ws) (hS : va_S A H0 H locs) (hA : ∀ q : Nat, H0.size ≤ q → A q) (hsz : ls.size = nL) (hcat : (rest.map fun v => v.category).sum ≤ 8)
    (hR : 1 ≤ R.frames ∧ 80 ≤ R.locals) (hcells : cells ≤ R.cells ∧ slots ≤ R.slots) (hdg : decode cc pc = .ok (.invokestatic idx, 3))
    (kk : ∀ (H1 : Heap) (locs1 : List Loc), va_P D classes (ws.set q0 (a, .inl (cA, n, .inl (upd f k v)))) H1 → va_D A (ws.set q0 (a, .inl (cA, n, .inl (upd f k v)))) → va_S A H0 H1 locs1 → W p l e R s m args below meth c H1 locs1 cells slots Qf (F0 m (pc + 3) ls rest)) :
    W p l e R s m args below meth c H locs cells slots Qf (F0 m pc ls (.int v :: .int i :: .ref a :: rest)) := by
  have hY : lok [(.inr n : kd)] := ⟨(by decide : 1 < 2 ^ 31), fun b ci hb => by
    cases b with
    | zero => simp at hb
    | succ b => simp at hb⟩
  have hwt : wtS [(.inr n : kd)] [sR 0 (.inr n), sI i, sI v] := wtS_cons rfl (wtS_cons trivial (wtS_cons trivial (fun v hv => by cases hv)))
  have hcj : CJ [(.inr n : kd)] 0 y_GF_set [sR 0 (.inr n), sI i, sI v] (fun _ => f) (fun r σ' => r = none ∧ σ' = wr (fun _ => f) 0 n i v) := by
    refine prk_set _ _ _ _ _ ?_ hwt 0 _ ⟨rfl, rfl⟩
    show cond (Nat.blt n 2147483648) _ _ = _
    rw [show Nat.blt n 2147483648 = true from Nat.ble_eq_true_of_le hn]
    rfl
  have hsub : ∀ z, va_A (wl cA (fun _ => a) (fun _ => f) [(.inr n : kd)]) H.size z → A z := by
    intro z hz
    rcases hz with ⟨j, en, hj⟩ | hz
    · have hm := List.mem_of_getElem? hj
      simp only [wl, List.mapIdx_cons, List.mapIdx_nil, List.mem_singleton, Prod.mk.injEq] at hm
      rw [hm.1]
      exact hD.2 q0 _ hq0
    · exact hA z (Nat.le_trans hS.1 hz)
  have hP0 : va_P D classes (wl cA (fun _ => a) (fun _ => f) [(.inr n : kd)]) H := hP.sub [q0] (by simp [hq0, wl, ent])
  have hD0 : va_D (fun _ => True) (wl cA (fun _ => a) (fun _ => f) [(.inr n : kd)]) := ⟨fun i j p q hi hj _ => by
    have h1 := (List.getElem?_eq_some_iff.mp hi).1
    have h2 := (List.getElem?_eq_some_iff.mp hj).1
    simp [wl] at h1 h2
    omega, fun _ _ _ => trivial⟩
  obtain ⟨⟨y1, y2, y3, y4, y5, -⟩, e1, e2, e3⟩ := hE
  have hM := met_of hcj y1 hY hwt l D cA (fun _ => a) H.size (by rw [wsum_sl]; exact (by decide : wsum [sR 0 (.inr 0), sI 0, sI 0] ≤ 3))
  have hr := va_runSN (p := p) (e := e) (R := R) (s := s) (m := m) (args := args) (below := below) (meth := meth) (c := c) (H := H) (locs := locs) (cells := cells) (slots := slots) (rest := rest) (g := F0 m pc ls (.int v :: .int i :: .ref a :: rest)) (As := [.ref a, .int i, .int v]) ⟨hx, hb, hml, hown, hts⟩ hM ⟨va_cnB _ hts (goodALL fun w hw => (List.mem_cons.mp hw).elim (fun e => e ▸ y2) id) rfl rfl rfl (hN _ e1) (hts _ e3) ⟨y4.1, y4.2, y5⟩ ⟨by show 0 + 1 ≤ R.frames; omega, by show 8 + (_ + 11) + (40 * 0 + 40) ≤ R.locals; have : y_GF_set.2.2.1 = 3 := rfl; omega⟩, hts _ e2, trivial⟩ ⟨sPc_blind, fun U hU hW => ⟨rfl, by rw [hU], by rw [hU]; exact hP0, va_K.moved hW.alike hK, hD0, fun w hw => NW_warm hW w hw (hN w hw)⟩⟩ rfl rfl hsz rfl (lv_room hcat) hdg ⟨hcells.1, hcells.2⟩
  intro T hT X
  obtain ⟨vv, st₀, t, T', L, h0, X', hLL, e7, e8, ⟨⟨r, σ', hv, hw, hqq, hp⟩, hz, hk⟩, stp⟩ := hr T hT X
  cases hv
  obtain ⟨rfl, rfl⟩ := hqq
  rw [h0] at hz hk
  have hfin : va_P D classes (ws.set q0 (a, .inl (cA, n, .inl (upd f k v)))) T'.heap := by
    intro j y hj
    by_cases hjq : j = q0
    · subst hjq
      have hlt := (List.getElem?_eq_some_iff.mp hq0).1
      rw [List.getElem?_set_self hlt] at hj
      cases hj
      have h9 := hp 0 _ (wl_get (k := .inr n) rfl)
      rw [← e7] at h9
      have e10 : wr (fun _ => f) 0 n i v 0 = upd f k v := by
        unfold wr
        rw [if_neg hi0, if_neg (by omega), hik]
        simp [up]
      simpa [ent, e10] using h9
    · rw [List.getElem?_set_ne (fun h => hjq h.symm)] at hj
      have h8 := hP j y hj
      refine h8.kept ?_
      rw [e7]
      refine hk y.1 h8.lt ?_
      rintro (⟨k2, en, hk2⟩ | hq)
      · have hm := List.mem_of_getElem? hk2
        simp only [wl, List.mapIdx_cons, List.mapIdx_nil, List.mem_singleton, Prod.mk.injEq] at hm
        exact hjq (hD.1 j q0 y _ hj hq0 hm.1)
      · have := h8.lt
        omega
  obtain ⟨t2, a1, b1⟩ := kk T'.heap (locs ++ L) hfin (hD.set hq0)
    ⟨Nat.le_trans hS.1 (by rw [e7]; exact hz), fun z h1 h2 => by rw [e7, hk z (Nat.lt_of_lt_of_le h1 hS.1) (fun zz => h2 (hsub z zz))]; exact hS.2.1 z h1 h2, fun z hz => by
      rcases List.mem_append.mp hz with h | h
      · exact hS.2.2 z h
      · exact hsub _ (hLL z h)⟩ T' rfl X'
  exact ⟨t2, stp t2 a1, b1⟩
end SMC
end
section
/-! the constructors of the class -/
def y_TR_init : sY := (⟨"GathersAllFaults$Tree", "<init>", "()V"⟩, prog_6_method_1_code, 1, none)
def y_PL_init : sY := (⟨"GathersAllFaults$Plan", "<init>", "()V"⟩, prog_4_method_1_code, 1, none)
def y_RD_init : sY := (⟨"GathersAllFaults$Reader", "<init>", "()V"⟩, prog_5_method_1_code, 1, none)
def y_GA_init : sY := (⟨"GathersAllFaults$Gatherer", "<init>", "()V"⟩, prog_3_method_1_code, 1, none)
def y_VR_init : sY := (⟨"GathersAllFaults$ValueReader", "<init>", "()V"⟩, prog_7_method_1_code, 1, none)
def y_CR_init : sY := (⟨"GathersAllFaults$CheckReader", "<init>", "()V"⟩, prog_2_method_1_code, 1, none)
def y_GF_init : sY := (⟨"GathersAllFaults", "<init>", "()V"⟩, prog_1_method_1_code, 1, none)
theorem df0 : ∀ j, j < 11 → defaultValue (ty0_ j) = vp_V [.null, .int 0, .int 0, .int 0, .null, .null, .int 0, .int 0, .int 0, .int 0, .int 0] j := by decide +kernel
theorem df1 : ∀ j, j < 5 → defaultValue (ty1_ j) = vp_V [.null, .null, .null, .int 0, .int 0] j := by decide +kernel
theorem df2 : ∀ j, j < 15 → defaultValue (ty2_ j) = vp_V [.null, .null, .null, .null, .null, .null, .null, .null, .null, .null, .null, .null, .null, .int 0, .int 0] j := by decide +kernel
theorem df3 : ∀ j, j < 7 → defaultValue (ty3_ j) = vp_V [.null, .null, .null, .null, .null, .null, .int 0] j := by decide +kernel
theorem df4 : ∀ j, j < 6 → defaultValue (ty4_ j) = vp_V [.null, .int 0, .int 0, .int 0, .null, .int 0] j := by decide +kernel
theorem df5 : ∀ j, j < 14 → defaultValue (ty5_ j) = vp_V [.null, .null, .null, .null, .null, .null, .int 0, .null, .int 0, .null, .null, .null, .int 0, .int 0] j := by decide +kernel
theorem lk_GF_9 : LinkC "GathersAllFaults" 9 y_TR_init := ⟨rfl, by decide +kernel, by decide, rfl, ⟨by decide +kernel, by decide +kernel⟩, by decide +kernel, ALL_in 25 (by decide +kernel) rfl, ALL_in 2 (by decide +kernel) rfl, ALL_in 24 (by decide +kernel) rfl, Or.inl (ALL_in 23 (by decide +kernel) rfl)⟩
theorem lk_GF_21 : LinkC "GathersAllFaults" 21 y_GA_init := ⟨rfl, by decide +kernel, by decide, rfl, ⟨by decide +kernel, by decide +kernel⟩, by decide +kernel, ALL_in 71 (by decide +kernel) rfl, ALL_in 3 (by decide +kernel) rfl, ALL_in 70 (by decide +kernel) rfl, Or.inr ⟨"GathersAllFaults", List.mem_of_getElem? (i := 0) rfl⟩⟩
theorem lk_GF_28 : LinkC "GathersAllFaults" 28 y_VR_init := ⟨rfl, by decide +kernel, by decide, rfl, ⟨by decide +kernel, by decide +kernel⟩, by decide +kernel, ALL_in 172 (by decide +kernel) rfl, ALL_in 6 (by decide +kernel) rfl, ALL_in 171 (by decide +kernel) rfl, Or.inr ⟨"GathersAllFaults", List.mem_of_getElem? (i := 1) rfl⟩⟩
theorem lk_GF_35 : LinkC "GathersAllFaults" 35 y_CR_init := ⟨rfl, by decide +kernel, by decide, rfl, ⟨by decide +kernel, by decide +kernel⟩, by decide +kernel, ALL_in 215 (by decide +kernel) rfl, ALL_in 7 (by decide +kernel) rfl, ALL_in 214 (by decide +kernel) rfl, Or.inr ⟨"GathersAllFaults", List.mem_of_getElem? (i := 3) rfl⟩⟩
theorem lk_GF_55 : LinkC "GathersAllFaults" 55 y_PL_init := ⟨rfl, by decide +kernel, by decide, rfl, ⟨by decide +kernel, by decide +kernel⟩, by decide +kernel, ALL_in 77 (by decide +kernel) rfl, ALL_in 4 (by decide +kernel) rfl, ALL_in 76 (by decide +kernel) rfl, Or.inl (ALL_in 247 (by decide +kernel) rfl)⟩
theorem lk_GA_11 : LinkC "GathersAllFaults$Gatherer" 11 y_PL_init := ⟨rfl, by decide +kernel, by decide, rfl, ⟨by decide +kernel, by decide +kernel⟩, by decide +kernel, ALL_in 77 (by decide +kernel) rfl, ALL_in 4 (by decide +kernel) rfl, ALL_in 76 (by decide +kernel) rfl, Or.inl (ALL_in 75 (by decide +kernel) rfl)⟩
theorem lk_GA_20 : LinkC "GathersAllFaults$Gatherer" 20 y_TR_init := ⟨rfl, by decide +kernel, by decide, rfl, ⟨by decide +kernel, by decide +kernel⟩, by decide +kernel, ALL_in 25 (by decide +kernel) rfl, ALL_in 2 (by decide +kernel) rfl, ALL_in 24 (by decide +kernel) rfl, Or.inl (ALL_in 148 (by decide +kernel) rfl)⟩
theorem lk_VR_3 : LinkC "GathersAllFaults$ValueReader" 3 y_RD_init := ⟨rfl, by decide +kernel, by decide, rfl, ⟨by decide +kernel, by decide +kernel⟩, by decide +kernel, ALL_in 175 (by decide +kernel) rfl, ALL_in 5 (by decide +kernel) rfl, ALL_in 174 (by decide +kernel) rfl, Or.inr ⟨"GathersAllFaults", List.mem_of_getElem? (i := 2) rfl⟩⟩
theorem lk_VR_11 : LinkC "GathersAllFaults$ValueReader" 11 y_TR_init := ⟨rfl, by decide +kernel, by decide, rfl, ⟨by decide +kernel, by decide +kernel⟩, by decide +kernel, ALL_in 25 (by decide +kernel) rfl, ALL_in 2 (by decide +kernel) rfl, ALL_in 24 (by decide +kernel) rfl, Or.inl (ALL_in 178 (by decide +kernel) rfl)⟩
theorem lk_CR_3 : LinkC "GathersAllFaults$CheckReader" 3 y_RD_init := ⟨rfl, by decide +kernel, by decide, rfl, ⟨by decide +kernel, by decide +kernel⟩, by decide +kernel, ALL_in 175 (by decide +kernel) rfl, ALL_in 5 (by decide +kernel) rfl, ALL_in 174 (by decide +kernel) rfl, Or.inr ⟨"GathersAllFaults", List.mem_of_getElem? (i := 4) rfl⟩⟩
theorem lk_CR_11 : LinkC "GathersAllFaults$CheckReader" 11 y_PL_init := ⟨rfl, by decide +kernel, by decide, rfl, ⟨by decide +kernel, by decide +kernel⟩, by decide +kernel, ALL_in 77 (by decide +kernel) rfl, ALL_in 4 (by decide +kernel) rfl, ALL_in 76 (by decide +kernel) rfl, Or.inl (ALL_in 218 (by decide +kernel) rfl)⟩
def pw_TR (cA : ClassId) (u : Nat → Nat) : va_W := [((u 0), .inr (3, [.ref (u 1), .ref (u 2), .ref (u 3), .ref (u 4), .ref (u 5), .ref (u 6), .int 1])), ((u 1), .inl (cA, 20, .inl (fun _ => 0))), ((u 2), .inl (cA, 20, .inl (fun _ => 0))), ((u 3), .inl (cA, 20, .inl (fun _ => 0))), ((u 4), .inl (cA, 20, .inl (fun _ => 0))), ((u 5), .inl (cA, 20, .inl (upd (fun _ => 0) 0 1))), ((u 6), .inl (cA, 20, .inl (fun _ => 0)))]
set_option maxHeartbeats 4000000 in
set_option maxRecDepth 100000 in
theorem k_TR : Ctor y_TR_init 1 6 120 3 [.null, .null, .null, .null, .null, .null, .int 0] pw_TR := by
  refine ctor_of (by decide +kernel) rfl rfl ?_
  intro l D cA h0 A p e s m below meth c ls hx hb hml hown hr hlk hin hts hN hN2 hKK hA hP hD hS hl
  have hAA := hA
  refine lv_aload_n hx hb (by decide +kernel : decode prog_6_method_1_code 0 = .ok (.aload_n 0, 1)) rfl (lv_at hl 0 rfl) ?_
  refine W.objInit hx hb hown (hts _ (ALL_in 26 (by decide +kernel) rfl)) (hts _ (ALL_in 19 (by decide +kernel) rfl)) (hts _ (ALL_in 20 (by decide +kernel) rfl)) rfl (by rw [hml]; exact hl.1) rfl (by decide +kernel : decode prog_6_method_1_code 1 = .ok (.invokespecial 3, 3)) (Nat.le_of_ble_eq_true rfl) (Nat.le_of_ble_eq_true rfl) ?_
  refine W.eq (g2 := F0 m 4 ls []) rfl ?_
  refine lv_aload_n hx hb (by decide +kernel : decode prog_6_method_1_code 4 = .ok (.aload_n 0, 1)) rfl (lv_at hl 0 rfl) ?_
  refine lv_bipush (v := 20) hx hb (by decide +kernel : decode prog_6_method_1_code 5 = .ok (.bipush 20, 2)) (by decide) ?_
  refine x_newa hx hb hts hKK hP hD hS hA 20 (by decide) (by decide) (Nat.le_of_ble_eq_true rfl) (Nat.le_of_ble_eq_true rfl) (Nat.le_of_ble_eq_true rfl) (by decide +kernel : decode prog_6_method_1_code 7 = .ok (.newarray .int, 2)) (fun q1 H hP hD hS => ?_)
  have hP : va_P D classes ([(h0, .inr (3, [.null, .null, .null, .null, .null, .null, .int 0])), (q1, .inl (cA, 20, .inl (fun _ => 0)))]) H := hP
  have hD : va_D A ([(h0, .inr (3, [.null, .null, .null, .null, .null, .null, .int 0])), (q1, .inl (cA, 20, .inl (fun _ => 0)))]) := hD
  refine va_putF (D := D) (ci := 3) (v := .ref q1) (ty := .array .int) (C := R3_) (T := T3_) (N := 7) hx hb hts ws3_in ty3_ ty3_ok nm3_ hown hKK hP hD hS 0 rfl rfl 0 (by decide) (hts _ (ALL_in 30 (by decide +kernel) rfl)) (fun _ h9 => h9) rfl hin rfl (by decide +kernel) rfl rfl (Nat.le_of_ble_eq_true rfl) (by decide +kernel : decode prog_6_method_1_code 9 = .ok (.putfield 9, 3)) (fun H locs hP hD hS => ?_)
  have hP : va_P D classes ([(h0, .inr (3, [.ref q1, .null, .null, .null, .null, .null, .int 0])), (q1, .inl (cA, 20, .inl (fun _ => 0)))]) H := hP
  have hD : va_D A ([(h0, .inr (3, [.ref q1, .null, .null, .null, .null, .null, .int 0])), (q1, .inl (cA, 20, .inl (fun _ => 0)))]) := hD
  refine lv_aload_n hx hb (by decide +kernel : decode prog_6_method_1_code 12 = .ok (.aload_n 0, 1)) rfl (lv_at hl 0 rfl) ?_
  refine lv_bipush (v := 20) hx hb (by decide +kernel : decode prog_6_method_1_code 13 = .ok (.bipush 20, 2)) (by decide) ?_
  refine x_newa hx hb hts hKK hP hD hS hA 20 (by decide) (by decide) (Nat.le_of_ble_eq_true rfl) (Nat.le_of_ble_eq_true rfl) (Nat.le_of_ble_eq_true rfl) (by decide +kernel : decode prog_6_method_1_code 15 = .ok (.newarray .int, 2)) (fun q2 H hP hD hS => ?_)
  have hP : va_P D classes ([(h0, .inr (3, [.ref q1, .null, .null, .null, .null, .null, .int 0])), (q1, .inl (cA, 20, .inl (fun _ => 0))), (q2, .inl (cA, 20, .inl (fun _ => 0)))]) H := hP
  have hD : va_D A ([(h0, .inr (3, [.ref q1, .null, .null, .null, .null, .null, .int 0])), (q1, .inl (cA, 20, .inl (fun _ => 0))), (q2, .inl (cA, 20, .inl (fun _ => 0)))]) := hD
  refine va_putF (D := D) (ci := 3) (v := .ref q2) (ty := .array .int) (C := R3_) (T := T3_) (N := 7) hx hb hts ws3_in ty3_ ty3_ok nm3_ hown hKK hP hD hS 0 rfl rfl 1 (by decide) (hts _ (ALL_in 34 (by decide +kernel) rfl)) (fun _ h9 => h9) rfl hin rfl (by decide +kernel) rfl rfl (Nat.le_of_ble_eq_true rfl) (by decide +kernel : decode prog_6_method_1_code 17 = .ok (.putfield 15, 3)) (fun H locs hP hD hS => ?_)
  have hP : va_P D classes ([(h0, .inr (3, [.ref q1, .ref q2, .null, .null, .null, .null, .int 0])), (q1, .inl (cA, 20, .inl (fun _ => 0))), (q2, .inl (cA, 20, .inl (fun _ => 0)))]) H := hP
  have hD : va_D A ([(h0, .inr (3, [.ref q1, .ref q2, .null, .null, .null, .null, .int 0])), (q1, .inl (cA, 20, .inl (fun _ => 0))), (q2, .inl (cA, 20, .inl (fun _ => 0)))]) := hD
  refine lv_aload_n hx hb (by decide +kernel : decode prog_6_method_1_code 20 = .ok (.aload_n 0, 1)) rfl (lv_at hl 0 rfl) ?_
  refine lv_bipush (v := 20) hx hb (by decide +kernel : decode prog_6_method_1_code 21 = .ok (.bipush 20, 2)) (by decide) ?_
  refine x_newa hx hb hts hKK hP hD hS hA 20 (by decide) (by decide) (Nat.le_of_ble_eq_true rfl) (Nat.le_of_ble_eq_true rfl) (Nat.le_of_ble_eq_true rfl) (by decide +kernel : decode prog_6_method_1_code 23 = .ok (.newarray .int, 2)) (fun q3 H hP hD hS => ?_)
  have hP : va_P D classes ([(h0, .inr (3, [.ref q1, .ref q2, .null, .null, .null, .null, .int 0])), (q1, .inl (cA, 20, .inl (fun _ => 0))), (q2, .inl (cA, 20, .inl (fun _ => 0))), (q3, .inl (cA, 20, .inl (fun _ => 0)))]) H := hP
  have hD : va_D A ([(h0, .inr (3, [.ref q1, .ref q2, .null, .null, .null, .null, .int 0])), (q1, .inl (cA, 20, .inl (fun _ => 0))), (q2, .inl (cA, 20, .inl (fun _ => 0))), (q3, .inl (cA, 20, .inl (fun _ => 0)))]) := hD
  refine va_putF (D := D) (ci := 3) (v := .ref q3) (ty := .array .int) (C := R3_) (T := T3_) (N := 7) hx hb hts ws3_in ty3_ ty3_ok nm3_ hown hKK hP hD hS 0 rfl rfl 2 (by decide) (hts _ (ALL_in 37 (by decide +kernel) rfl)) (fun _ h9 => h9) rfl hin rfl (by decide +kernel) rfl rfl (Nat.le_of_ble_eq_true rfl) (by decide +kernel : decode prog_6_method_1_code 25 = .ok (.putfield 18, 3)) (fun H locs hP hD hS => ?_)
  have hP : va_P D classes ([(h0, .inr (3, [.ref q1, .ref q2, .ref q3, .null, .null, .null, .int 0])), (q1, .inl (cA, 20, .inl (fun _ => 0))), (q2, .inl (cA, 20, .inl (fun _ => 0))), (q3, .inl (cA, 20, .inl (fun _ => 0)))]) H := hP
  have hD : va_D A ([(h0, .inr (3, [.ref q1, .ref q2, .ref q3, .null, .null, .null, .int 0])), (q1, .inl (cA, 20, .inl (fun _ => 0))), (q2, .inl (cA, 20, .inl (fun _ => 0))), (q3, .inl (cA, 20, .inl (fun _ => 0)))]) := hD
  refine lv_aload_n hx hb (by decide +kernel : decode prog_6_method_1_code 28 = .ok (.aload_n 0, 1)) rfl (lv_at hl 0 rfl) ?_
  refine lv_bipush (v := 20) hx hb (by decide +kernel : decode prog_6_method_1_code 29 = .ok (.bipush 20, 2)) (by decide) ?_
  refine x_newa hx hb hts hKK hP hD hS hA 20 (by decide) (by decide) (Nat.le_of_ble_eq_true rfl) (Nat.le_of_ble_eq_true rfl) (Nat.le_of_ble_eq_true rfl) (by decide +kernel : decode prog_6_method_1_code 31 = .ok (.newarray .int, 2)) (fun q4 H hP hD hS => ?_)
  have hP : va_P D classes ([(h0, .inr (3, [.ref q1, .ref q2, .ref q3, .null, .null, .null, .int 0])), (q1, .inl (cA, 20, .inl (fun _ => 0))), (q2, .inl (cA, 20, .inl (fun _ => 0))), (q3, .inl (cA, 20, .inl (fun _ => 0))), (q4, .inl (cA, 20, .inl (fun _ => 0)))]) H := hP
  have hD : va_D A ([(h0, .inr (3, [.ref q1, .ref q2, .ref q3, .null, .null, .null, .int 0])), (q1, .inl (cA, 20, .inl (fun _ => 0))), (q2, .inl (cA, 20, .inl (fun _ => 0))), (q3, .inl (cA, 20, .inl (fun _ => 0))), (q4, .inl (cA, 20, .inl (fun _ => 0)))]) := hD
  refine va_putF (D := D) (ci := 3) (v := .ref q4) (ty := .array .int) (C := R3_) (T := T3_) (N := 7) hx hb hts ws3_in ty3_ ty3_ok nm3_ hown hKK hP hD hS 0 rfl rfl 3 (by decide) (hts _ (ALL_in 40 (by decide +kernel) rfl)) (fun _ h9 => h9) rfl hin rfl (by decide +kernel) rfl rfl (Nat.le_of_ble_eq_true rfl) (by decide +kernel : decode prog_6_method_1_code 33 = .ok (.putfield 21, 3)) (fun H locs hP hD hS => ?_)
  have hP : va_P D classes ([(h0, .inr (3, [.ref q1, .ref q2, .ref q3, .ref q4, .null, .null, .int 0])), (q1, .inl (cA, 20, .inl (fun _ => 0))), (q2, .inl (cA, 20, .inl (fun _ => 0))), (q3, .inl (cA, 20, .inl (fun _ => 0))), (q4, .inl (cA, 20, .inl (fun _ => 0)))]) H := hP
  have hD : va_D A ([(h0, .inr (3, [.ref q1, .ref q2, .ref q3, .ref q4, .null, .null, .int 0])), (q1, .inl (cA, 20, .inl (fun _ => 0))), (q2, .inl (cA, 20, .inl (fun _ => 0))), (q3, .inl (cA, 20, .inl (fun _ => 0))), (q4, .inl (cA, 20, .inl (fun _ => 0)))]) := hD
  refine lv_aload_n hx hb (by decide +kernel : decode prog_6_method_1_code 36 = .ok (.aload_n 0, 1)) rfl (lv_at hl 0 rfl) ?_
  refine lv_bipush (v := 20) hx hb (by decide +kernel : decode prog_6_method_1_code 37 = .ok (.bipush 20, 2)) (by decide) ?_
  refine x_newa hx hb hts hKK hP hD hS hA 20 (by decide) (by decide) (Nat.le_of_ble_eq_true rfl) (Nat.le_of_ble_eq_true rfl) (Nat.le_of_ble_eq_true rfl) (by decide +kernel : decode prog_6_method_1_code 39 = .ok (.newarray .int, 2)) (fun q5 H hP hD hS => ?_)
  have hP : va_P D classes ([(h0, .inr (3, [.ref q1, .ref q2, .ref q3, .ref q4, .null, .null, .int 0])), (q1, .inl (cA, 20, .inl (fun _ => 0))), (q2, .inl (cA, 20, .inl (fun _ => 0))), (q3, .inl (cA, 20, .inl (fun _ => 0))), (q4, .inl (cA, 20, .inl (fun _ => 0))), (q5, .inl (cA, 20, .inl (fun _ => 0)))]) H := hP
  have hD : va_D A ([(h0, .inr (3, [.ref q1, .ref q2, .ref q3, .ref q4, .null, .null, .int 0])), (q1, .inl (cA, 20, .inl (fun _ => 0))), (q2, .inl (cA, 20, .inl (fun _ => 0))), (q3, .inl (cA, 20, .inl (fun _ => 0))), (q4, .inl (cA, 20, .inl (fun _ => 0))), (q5, .inl (cA, 20, .inl (fun _ => 0)))]) := hD
  refine va_putF (D := D) (ci := 3) (v := .ref q5) (ty := .array .int) (C := R3_) (T := T3_) (N := 7) hx hb hts ws3_in ty3_ ty3_ok nm3_ hown hKK hP hD hS 0 rfl rfl 4 (by decide) (hts _ (ALL_in 42 (by decide +kernel) rfl)) (fun _ h9 => h9) rfl hin rfl (by decide +kernel) rfl rfl (Nat.le_of_ble_eq_true rfl) (by decide +kernel : decode prog_6_method_1_code 41 = .ok (.putfield 24, 3)) (fun H locs hP hD hS => ?_)
  have hP : va_P D classes ([(h0, .inr (3, [.ref q1, .ref q2, .ref q3, .ref q4, .ref q5, .null, .int 0])), (q1, .inl (cA, 20, .inl (fun _ => 0))), (q2, .inl (cA, 20, .inl (fun _ => 0))), (q3, .inl (cA, 20, .inl (fun _ => 0))), (q4, .inl (cA, 20, .inl (fun _ => 0))), (q5, .inl (cA, 20, .inl (fun _ => 0)))]) H := hP
  have hD : va_D A ([(h0, .inr (3, [.ref q1, .ref q2, .ref q3, .ref q4, .ref q5, .null, .int 0])), (q1, .inl (cA, 20, .inl (fun _ => 0))), (q2, .inl (cA, 20, .inl (fun _ => 0))), (q3, .inl (cA, 20, .inl (fun _ => 0))), (q4, .inl (cA, 20, .inl (fun _ => 0))), (q5, .inl (cA, 20, .inl (fun _ => 0)))]) := hD
  refine lv_aload_n hx hb (by decide +kernel : decode prog_6_method_1_code 44 = .ok (.aload_n 0, 1)) rfl (lv_at hl 0 rfl) ?_
  refine lv_bipush (v := 20) hx hb (by decide +kernel : decode prog_6_method_1_code 45 = .ok (.bipush 20, 2)) (by decide) ?_
  refine x_newa hx hb hts hKK hP hD hS hA 20 (by decide) (by decide) (Nat.le_of_ble_eq_true rfl) (Nat.le_of_ble_eq_true rfl) (Nat.le_of_ble_eq_true rfl) (by decide +kernel : decode prog_6_method_1_code 47 = .ok (.newarray .int, 2)) (fun q6 H hP hD hS => ?_)
  have hP : va_P D classes ([(h0, .inr (3, [.ref q1, .ref q2, .ref q3, .ref q4, .ref q5, .null, .int 0])), (q1, .inl (cA, 20, .inl (fun _ => 0))), (q2, .inl (cA, 20, .inl (fun _ => 0))), (q3, .inl (cA, 20, .inl (fun _ => 0))), (q4, .inl (cA, 20, .inl (fun _ => 0))), (q5, .inl (cA, 20, .inl (fun _ => 0))), (q6, .inl (cA, 20, .inl (fun _ => 0)))]) H := hP
  have hD : va_D A ([(h0, .inr (3, [.ref q1, .ref q2, .ref q3, .ref q4, .ref q5, .null, .int 0])), (q1, .inl (cA, 20, .inl (fun _ => 0))), (q2, .inl (cA, 20, .inl (fun _ => 0))), (q3, .inl (cA, 20, .inl (fun _ => 0))), (q4, .inl (cA, 20, .inl (fun _ => 0))), (q5, .inl (cA, 20, .inl (fun _ => 0))), (q6, .inl (cA, 20, .inl (fun _ => 0)))]) := hD
  refine va_putF (D := D) (ci := 3) (v := .ref q6) (ty := .array .int) (C := R3_) (T := T3_) (N := 7) hx hb hts ws3_in ty3_ ty3_ok nm3_ hown hKK hP hD hS 0 rfl rfl 5 (by decide) (hts _ (ALL_in 45 (by decide +kernel) rfl)) (fun _ h9 => h9) rfl hin rfl (by decide +kernel) rfl rfl (Nat.le_of_ble_eq_true rfl) (by decide +kernel : decode prog_6_method_1_code 49 = .ok (.putfield 27, 3)) (fun H locs hP hD hS => ?_)
  have hP : va_P D classes ([(h0, .inr (3, [.ref q1, .ref q2, .ref q3, .ref q4, .ref q5, .ref q6, .int 0])), (q1, .inl (cA, 20, .inl (fun _ => 0))), (q2, .inl (cA, 20, .inl (fun _ => 0))), (q3, .inl (cA, 20, .inl (fun _ => 0))), (q4, .inl (cA, 20, .inl (fun _ => 0))), (q5, .inl (cA, 20, .inl (fun _ => 0))), (q6, .inl (cA, 20, .inl (fun _ => 0)))]) H := hP
  have hD : va_D A ([(h0, .inr (3, [.ref q1, .ref q2, .ref q3, .ref q4, .ref q5, .ref q6, .int 0])), (q1, .inl (cA, 20, .inl (fun _ => 0))), (q2, .inl (cA, 20, .inl (fun _ => 0))), (q3, .inl (cA, 20, .inl (fun _ => 0))), (q4, .inl (cA, 20, .inl (fun _ => 0))), (q5, .inl (cA, 20, .inl (fun _ => 0))), (q6, .inl (cA, 20, .inl (fun _ => 0)))]) := hD
  refine lv_aload_n hx hb (by decide +kernel : decode prog_6_method_1_code 52 = .ok (.aload_n 0, 1)) rfl (lv_at hl 0 rfl) ?_
  refine lv_iconst (v := 1) hx hb (by decide +kernel : decode prog_6_method_1_code 53 = .ok (.iconst 1, 1)) (by decide) ?_
  refine va_put (D := D) (ci := 3) (v := .int 1) (ty := .int) (C := R3_) (T := T3_) (N := 7) hx hb hts ws3_in ty3_ ty3_ok nm3_ hown hKK hP hD hS 0 rfl rfl 6 (by decide) (hts _ (ALL_in 48 (by decide +kernel) rfl)) (fun _ h9 => h9) rfl (by decide +kernel) rfl rfl (Nat.le_of_ble_eq_true rfl) (by decide +kernel : decode prog_6_method_1_code 54 = .ok (.putfield 30, 3)) (fun H locs hP hD hS => ?_)
  have hP : va_P D classes ([(h0, .inr (3, [.ref q1, .ref q2, .ref q3, .ref q4, .ref q5, .ref q6, .int 1])), (q1, .inl (cA, 20, .inl (fun _ => 0))), (q2, .inl (cA, 20, .inl (fun _ => 0))), (q3, .inl (cA, 20, .inl (fun _ => 0))), (q4, .inl (cA, 20, .inl (fun _ => 0))), (q5, .inl (cA, 20, .inl (fun _ => 0))), (q6, .inl (cA, 20, .inl (fun _ => 0)))]) H := hP
  have hD : va_D A ([(h0, .inr (3, [.ref q1, .ref q2, .ref q3, .ref q4, .ref q5, .ref q6, .int 1])), (q1, .inl (cA, 20, .inl (fun _ => 0))), (q2, .inl (cA, 20, .inl (fun _ => 0))), (q3, .inl (cA, 20, .inl (fun _ => 0))), (q4, .inl (cA, 20, .inl (fun _ => 0))), (q5, .inl (cA, 20, .inl (fun _ => 0))), (q6, .inl (cA, 20, .inl (fun _ => 0)))]) := hD
  refine lv_aload_n hx hb (by decide +kernel : decode prog_6_method_1_code 57 = .ok (.aload_n 0, 1)) rfl (lv_at hl 0 rfl) ?_
  refine va_get (D := D) (ci := 3) (v := .ref q5) (C := R3_) (T := T3_) (N := 7) hx hb hts ws3_in hown hKK hP 0 rfl rfl 4 (by decide) (hts _ (ALL_in 42 (by decide +kernel) rfl)) (fun _ h9 => h9) rfl (by decide +kernel : decode prog_6_method_1_code 58 = .ok (.getfield 24, 3)) ?_
  refine lv_iconst (v := 0) hx hb (by decide +kernel : decode prog_6_method_1_code 61 = .ok (.iconst 0, 1)) (by decide) ?_
  refine lv_iconst (v := 1) hx hb (by decide +kernel : decode prog_6_method_1_code 62 = .ok (.iconst 1, 1)) (by decide) ?_
  refine x_set (ct_TR_2 [.inr 20]) (by decide) (by decide) (by decide) (Nat.lt_of_succ_le (Nat.le_of_ble_eq_true rfl) : 0 < 20) (q0 := 5) rfl hx hb hml hown hts hN hKK hP hD hS hA hl.1 (Nat.le_of_ble_eq_true rfl) ⟨Nat.le_of_ble_eq_true rfl, Nat.le_of_ble_eq_true rfl⟩ ⟨Nat.le_of_ble_eq_true rfl, Nat.le_of_ble_eq_true rfl⟩ (by decide +kernel : decode prog_6_method_1_code 63 = .ok (.invokestatic 34, 3)) (fun H locs hP hD hS => ?_)
  have hP : va_P D classes ([(h0, .inr (3, [.ref q1, .ref q2, .ref q3, .ref q4, .ref q5, .ref q6, .int 1])), (q1, .inl (cA, 20, .inl (fun _ => 0))), (q2, .inl (cA, 20, .inl (fun _ => 0))), (q3, .inl (cA, 20, .inl (fun _ => 0))), (q4, .inl (cA, 20, .inl (fun _ => 0))), (q5, .inl (cA, 20, .inl (upd (fun _ => 0) 0 1))), (q6, .inl (cA, 20, .inl (fun _ => 0)))]) H := hP
  have hD : va_D A ([(h0, .inr (3, [.ref q1, .ref q2, .ref q3, .ref q4, .ref q5, .ref q6, .int 1])), (q1, .inl (cA, 20, .inl (fun _ => 0))), (q2, .inl (cA, 20, .inl (fun _ => 0))), (q3, .inl (cA, 20, .inl (fun _ => 0))), (q4, .inl (cA, 20, .inl (fun _ => 0))), (q5, .inl (cA, 20, .inl (upd (fun _ => 0) 0 1))), (q6, .inl (cA, 20, .inl (fun _ => 0)))]) := hD
  refine W.widen (k := 6) (n := 120) (Nat.le_of_ble_eq_true rfl) (Nat.le_of_ble_eq_true rfl) ?_
  exact W.vret hx hb hr (fun t ht hW => ⟨⟨(fun i => cond (Nat.blt i 1) (h0) (cond (Nat.blt i 2) (q1) (cond (Nat.blt i 3) (q2) (cond (Nat.blt i 4) (q3) (cond (Nat.blt i 5) (q4) (cond (Nat.blt i 6) (q5) (q6))))))), rfl, rfl, by rw [ht]; exact hP, hD⟩, hS.F ht⟩) hS.2.2 (by decide +kernel : decode prog_6_method_1_code 66 = .ok (.return_, 1)) hlk
def pw_PL (cA : ClassId) (u : Nat → Nat) : va_W := [((u 0), .inr (2, [.ref (u 1), .ref (u 2), .ref (u 3), .ref (u 4), .ref (u 5), .ref (u 6), .ref (u 7), .ref (u 8), .ref (u 9), .ref (u 10), .ref (u 11), .ref (u 12), .ref (u 13), .int 1, .int 0])), ((u 1), .inl (cA, 24, .inl (upd (fun _ => 0) 0 42))), ((u 2), .inl (cA, 24, .inl (fun _ => 0))), ((u 3), .inl (cA, 24, .inl (fun _ => 0))), ((u 4), .inl (cA, 24, .inl (upd (fun _ => 0) 0 1))), ((u 5), .inl (cA, 24, .inl (fun _ => 0))), ((u 6), .inl (cA, 24, .inl (fun _ => 0))), ((u 7), .inl (cA, 24, .inl (fun _ => 0))), ((u 8), .inl (cA, 24, .inl (fun _ => 0))), ((u 9), .inl (cA, 24, .inl (fun _ => 0))), ((u 10), .inl (cA, 24, .inl (fun _ => 0))), ((u 11), .inl (cA, 32, .inl (fun _ => 0))), ((u 12), .inl (cA, 32, .inl (fun _ => 0))), ((u 13), .inl (cA, 32, .inl (fun _ => 0)))]
set_option maxHeartbeats 4000000 in
set_option maxRecDepth 100000 in
theorem k_PL : Ctor y_PL_init 1 13 336 2 [.null, .null, .null, .null, .null, .null, .null, .null, .null, .null, .null, .null, .null, .int 0, .int 0] pw_PL := by
  refine ctor_of (by decide +kernel) rfl rfl ?_
  intro l D cA h0 A p e s m below meth c ls hx hb hml hown hr hlk hin hts hN hN2 hKK hA hP hD hS hl
  have hAA := hA
  refine lv_aload_n hx hb (by decide +kernel : decode prog_4_method_1_code 0 = .ok (.aload_n 0, 1)) rfl (lv_at hl 0 rfl) ?_
  refine W.objInit hx hb hown (hts _ (ALL_in 78 (by decide +kernel) rfl)) (hts _ (ALL_in 19 (by decide +kernel) rfl)) (hts _ (ALL_in 20 (by decide +kernel) rfl)) rfl (by rw [hml]; exact hl.1) rfl (by decide +kernel : decode prog_4_method_1_code 1 = .ok (.invokespecial 3, 3)) (Nat.le_of_ble_eq_true rfl) (Nat.le_of_ble_eq_true rfl) ?_
  refine W.eq (g2 := F0 m 4 ls []) rfl ?_
  refine lv_aload_n hx hb (by decide +kernel : decode prog_4_method_1_code 4 = .ok (.aload_n 0, 1)) rfl (lv_at hl 0 rfl) ?_
  refine lv_bipush (v := 24) hx hb (by decide +kernel : decode prog_4_method_1_code 5 = .ok (.bipush 24, 2)) (by decide) ?_
  refine x_newa hx hb hts hKK hP hD hS hA 24 (by decide) (by decide) (Nat.le_of_ble_eq_true rfl) (Nat.le_of_ble_eq_true rfl) (Nat.le_of_ble_eq_true rfl) (by decide +kernel : decode prog_4_method_1_code 7 = .ok (.newarray .int, 2)) (fun q1 H hP hD hS => ?_)
  have hP : va_P D classes ([(h0, .inr (2, [.null, .null, .null, .null, .null, .null, .null, .null, .null, .null, .null, .null, .null, .int 0, .int 0])), (q1, .inl (cA, 24, .inl (fun _ => 0)))]) H := hP
  have hD : va_D A ([(h0, .inr (2, [.null, .null, .null, .null, .null, .null, .null, .null, .null, .null, .null, .null, .null, .int 0, .int 0])), (q1, .inl (cA, 24, .inl (fun _ => 0)))]) := hD
  refine va_putF (D := D) (ci := 2) (v := .ref q1) (ty := .array .int) (C := R2_) (T := T2_) (N := 15) hx hb hts ws2_in ty2_ ty2_ok nm2_ hown hKK hP hD hS 0 rfl rfl 0 (by decide) (hts _ (ALL_in 80 (by decide +kernel) rfl)) (fun _ h9 => h9) rfl hin rfl (by decide +kernel) rfl rfl (Nat.le_of_ble_eq_true rfl) (by decide +kernel : decode prog_4_method_1_code 9 = .ok (.putfield 9, 3)) (fun H locs hP hD hS => ?_)
  have hP : va_P D classes ([(h0, .inr (2, [.ref q1, .null, .null, .null, .null, .null, .null, .null, .null, .null, .null, .null, .null, .int 0, .int 0])), (q1, .inl (cA, 24, .inl (fun _ => 0)))]) H := hP
  have hD : va_D A ([(h0, .inr (2, [.ref q1, .null, .null, .null, .null, .null, .null, .null, .null, .null, .null, .null, .null, .int 0, .int 0])), (q1, .inl (cA, 24, .inl (fun _ => 0)))]) := hD
  refine lv_aload_n hx hb (by decide +kernel : decode prog_4_method_1_code 12 = .ok (.aload_n 0, 1)) rfl (lv_at hl 0 rfl) ?_
  refine lv_bipush (v := 24) hx hb (by decide +kernel : decode prog_4_method_1_code 13 = .ok (.bipush 24, 2)) (by decide) ?_
  refine x_newa hx hb hts hKK hP hD hS hA 24 (by decide) (by decide) (Nat.le_of_ble_eq_true rfl) (Nat.le_of_ble_eq_true rfl) (Nat.le_of_ble_eq_true rfl) (by decide +kernel : decode prog_4_method_1_code 15 = .ok (.newarray .int, 2)) (fun q2 H hP hD hS => ?_)
  have hP : va_P D classes ([(h0, .inr (2, [.ref q1, .null, .null, .null, .null, .null, .null, .null, .null, .null, .null, .null, .null, .int 0, .int 0])), (q1, .inl (cA, 24, .inl (fun _ => 0))), (q2, .inl (cA, 24, .inl (fun _ => 0)))]) H := hP
  have hD : va_D A ([(h0, .inr (2, [.ref q1, .null, .null, .null, .null, .null, .null, .null, .null, .null, .null, .null, .null, .int 0, .int 0])), (q1, .inl (cA, 24, .inl (fun _ => 0))), (q2, .inl (cA, 24, .inl (fun _ => 0)))]) := hD
  refine va_putF (D := D) (ci := 2) (v := .ref q2) (ty := .array .int) (C := R2_) (T := T2_) (N := 15) hx hb hts ws2_in ty2_ ty2_ok nm2_ hown hKK hP hD hS 0 rfl rfl 1 (by decide) (hts _ (ALL_in 83 (by decide +kernel) rfl)) (fun _ h9 => h9) rfl hin rfl (by decide +kernel) rfl rfl (Nat.le_of_ble_eq_true rfl) (by decide +kernel : decode prog_4_method_1_code 17 = .ok (.putfield 15, 3)) (fun H locs hP hD hS => ?_)
  have hP : va_P D classes ([(h0, .inr (2, [.ref q1, .ref q2, .null, .null, .null, .null, .null, .null, .null, .null, .null, .null, .null, .int 0, .int 0])), (q1, .inl (cA, 24, .inl (fun _ => 0))), (q2, .inl (cA, 24, .inl (fun _ => 0)))]) H := hP
  have hD : va_D A ([(h0, .inr (2, [.ref q1, .ref q2, .null, .null, .null, .null, .null, .null, .null, .null, .null, .null, .null, .int 0, .int 0])), (q1, .inl (cA, 24, .inl (fun _ => 0))), (q2, .inl (cA, 24, .inl (fun _ => 0)))]) := hD
  refine lv_aload_n hx hb (by decide +kernel : decode prog_4_method_1_code 20 = .ok (.aload_n 0, 1)) rfl (lv_at hl 0 rfl) ?_
  refine lv_bipush (v := 24) hx hb (by decide +kernel : decode prog_4_method_1_code 21 = .ok (.bipush 24, 2)) (by decide) ?_
  refine x_newa hx hb hts hKK hP hD hS hA 24 (by decide) (by decide) (Nat.le_of_ble_eq_true rfl) (Nat.le_of_ble_eq_true rfl) (Nat.le_of_ble_eq_true rfl) (by decide +kernel : decode prog_4_method_1_code 23 = .ok (.newarray .int, 2)) (fun q3 H hP hD hS => ?_)
  have hP : va_P D classes ([(h0, .inr (2, [.ref q1, .ref q2, .null, .null, .null, .null, .null, .null, .null, .null, .null, .null, .null, .int 0, .int 0])), (q1, .inl (cA, 24, .inl (fun _ => 0))), (q2, .inl (cA, 24, .inl (fun _ => 0))), (q3, .inl (cA, 24, .inl (fun _ => 0)))]) H := hP
  have hD : va_D A ([(h0, .inr (2, [.ref q1, .ref q2, .null, .null, .null, .null, .null, .null, .null, .null, .null, .null, .null, .int 0, .int 0])), (q1, .inl (cA, 24, .inl (fun _ => 0))), (q2, .inl (cA, 24, .inl (fun _ => 0))), (q3, .inl (cA, 24, .inl (fun _ => 0)))]) := hD
  refine va_putF (D := D) (ci := 2) (v := .ref q3) (ty := .array .int) (C := R2_) (T := T2_) (N := 15) hx hb hts ws2_in ty2_ ty2_ok nm2_ hown hKK hP hD hS 0 rfl rfl 2 (by decide) (hts _ (ALL_in 85 (by decide +kernel) rfl)) (fun _ h9 => h9) rfl hin rfl (by decide +kernel) rfl rfl (Nat.le_of_ble_eq_true rfl) (by decide +kernel : decode prog_4_method_1_code 25 = .ok (.putfield 18, 3)) (fun H locs hP hD hS => ?_)
  have hP : va_P D classes ([(h0, .inr (2, [.ref q1, .ref q2, .ref q3, .null, .null, .null, .null, .null, .null, .null, .null, .null, .null, .int 0, .int 0])), (q1, .inl (cA, 24, .inl (fun _ => 0))), (q2, .inl (cA, 24, .inl (fun _ => 0))), (q3, .inl (cA, 24, .inl (fun _ => 0)))]) H := hP
  have hD : va_D A ([(h0, .inr (2, [.ref q1, .ref q2, .ref q3, .null, .null, .null, .null, .null, .null, .null, .null, .null, .null, .int 0, .int 0])), (q1, .inl (cA, 24, .inl (fun _ => 0))), (q2, .inl (cA, 24, .inl (fun _ => 0))), (q3, .inl (cA, 24, .inl (fun _ => 0)))]) := hD
  refine lv_aload_n hx hb (by decide +kernel : decode prog_4_method_1_code 28 = .ok (.aload_n 0, 1)) rfl (lv_at hl 0 rfl) ?_
  refine lv_bipush (v := 24) hx hb (by decide +kernel : decode prog_4_method_1_code 29 = .ok (.bipush 24, 2)) (by decide) ?_
  refine x_newa hx hb hts hKK hP hD hS hA 24 (by decide) (by decide) (Nat.le_of_ble_eq_true rfl) (Nat.le_of_ble_eq_true rfl) (Nat.le_of_ble_eq_true rfl) (by decide +kernel : decode prog_4_method_1_code 31 = .ok (.newarray .int, 2)) (fun q4 H hP hD hS => ?_)
  have hP : va_P D classes ([(h0, .inr (2, [.ref q1, .ref q2, .ref q3, .null, .null, .null, .null, .null, .null, .null, .null, .null, .null, .int 0, .int 0])), (q1, .inl (cA, 24, .inl (fun _ => 0))), (q2, .inl (cA, 24, .inl (fun _ => 0))), (q3, .inl (cA, 24, .inl (fun _ => 0))), (q4, .inl (cA, 24, .inl (fun _ => 0)))]) H := hP
  have hD : va_D A ([(h0, .inr (2, [.ref q1, .ref q2, .ref q3, .null, .null, .null, .null, .null, .null, .null, .null, .null, .null, .int 0, .int 0])), (q1, .inl (cA, 24, .inl (fun _ => 0))), (q2, .inl (cA, 24, .inl (fun _ => 0))), (q3, .inl (cA, 24, .inl (fun _ => 0))), (q4, .inl (cA, 24, .inl (fun _ => 0)))]) := hD
  refine va_putF (D := D) (ci := 2) (v := .ref q4) (ty := .array .int) (C := R2_) (T := T2_) (N := 15) hx hb hts ws2_in ty2_ ty2_ok nm2_ hown hKK hP hD hS 0 rfl rfl 3 (by decide) (hts _ (ALL_in 87 (by decide +kernel) rfl)) (fun _ h9 => h9) rfl hin rfl (by decide +kernel) rfl rfl (Nat.le_of_ble_eq_true rfl) (by decide +kernel : decode prog_4_method_1_code 33 = .ok (.putfield 21, 3)) (fun H locs hP hD hS => ?_)
  have hP : va_P D classes ([(h0, .inr (2, [.ref q1, .ref q2, .ref q3, .ref q4, .null, .null, .null, .null, .null, .null, .null, .null, .null, .int 0, .int 0])), (q1, .inl (cA, 24, .inl (fun _ => 0))), (q2, .inl (cA, 24, .inl (fun _ => 0))), (q3, .inl (cA, 24, .inl (fun _ => 0))), (q4, .inl (cA, 24, .inl (fun _ => 0)))]) H := hP
  have hD : va_D A ([(h0, .inr (2, [.ref q1, .ref q2, .ref q3, .ref q4, .null, .null, .null, .null, .null, .null, .null, .null, .null, .int 0, .int 0])), (q1, .inl (cA, 24, .inl (fun _ => 0))), (q2, .inl (cA, 24, .inl (fun _ => 0))), (q3, .inl (cA, 24, .inl (fun _ => 0))), (q4, .inl (cA, 24, .inl (fun _ => 0)))]) := hD
  refine lv_aload_n hx hb (by decide +kernel : decode prog_4_method_1_code 36 = .ok (.aload_n 0, 1)) rfl (lv_at hl 0 rfl) ?_
  refine lv_bipush (v := 24) hx hb (by decide +kernel : decode prog_4_method_1_code 37 = .ok (.bipush 24, 2)) (by decide) ?_
  refine x_newa hx hb hts hKK hP hD hS hA 24 (by decide) (by decide) (Nat.le_of_ble_eq_true rfl) (Nat.le_of_ble_eq_true rfl) (Nat.le_of_ble_eq_true rfl) (by decide +kernel : decode prog_4_method_1_code 39 = .ok (.newarray .int, 2)) (fun q5 H hP hD hS => ?_)
  have hP : va_P D classes ([(h0, .inr (2, [.ref q1, .ref q2, .ref q3, .ref q4, .null, .null, .null, .null, .null, .null, .null, .null, .null, .int 0, .int 0])), (q1, .inl (cA, 24, .inl (fun _ => 0))), (q2, .inl (cA, 24, .inl (fun _ => 0))), (q3, .inl (cA, 24, .inl (fun _ => 0))), (q4, .inl (cA, 24, .inl (fun _ => 0))), (q5, .inl (cA, 24, .inl (fun _ => 0)))]) H := hP
  have hD : va_D A ([(h0, .inr (2, [.ref q1, .ref q2, .ref q3, .ref q4, .null, .null, .null, .null, .null, .null, .null, .null, .null, .int 0, .int 0])), (q1, .inl (cA, 24, .inl (fun _ => 0))), (q2, .inl (cA, 24, .inl (fun _ => 0))), (q3, .inl (cA, 24, .inl (fun _ => 0))), (q4, .inl (cA, 24, .inl (fun _ => 0))), (q5, .inl (cA, 24, .inl (fun _ => 0)))]) := hD
  refine va_putF (D := D) (ci := 2) (v := .ref q5) (ty := .array .int) (C := R2_) (T := T2_) (N := 15) hx hb hts ws2_in ty2_ ty2_ok nm2_ hown hKK hP hD hS 0 rfl rfl 4 (by decide) (hts _ (ALL_in 90 (by decide +kernel) rfl)) (fun _ h9 => h9) rfl hin rfl (by decide +kernel) rfl rfl (Nat.le_of_ble_eq_true rfl) (by decide +kernel : decode prog_4_method_1_code 41 = .ok (.putfield 24, 3)) (fun H locs hP hD hS => ?_)
  have hP : va_P D classes ([(h0, .inr (2, [.ref q1, .ref q2, .ref q3, .ref q4, .ref q5, .null, .null, .null, .null, .null, .null, .null, .null, .int 0, .int 0])), (q1, .inl (cA, 24, .inl (fun _ => 0))), (q2, .inl (cA, 24, .inl (fun _ => 0))), (q3, .inl (cA, 24, .inl (fun _ => 0))), (q4, .inl (cA, 24, .inl (fun _ => 0))), (q5, .inl (cA, 24, .inl (fun _ => 0)))]) H := hP
  have hD : va_D A ([(h0, .inr (2, [.ref q1, .ref q2, .ref q3, .ref q4, .ref q5, .null, .null, .null, .null, .null, .null, .null, .null, .int 0, .int 0])), (q1, .inl (cA, 24, .inl (fun _ => 0))), (q2, .inl (cA, 24, .inl (fun _ => 0))), (q3, .inl (cA, 24, .inl (fun _ => 0))), (q4, .inl (cA, 24, .inl (fun _ => 0))), (q5, .inl (cA, 24, .inl (fun _ => 0)))]) := hD
  refine lv_aload_n hx hb (by decide +kernel : decode prog_4_method_1_code 44 = .ok (.aload_n 0, 1)) rfl (lv_at hl 0 rfl) ?_
  refine lv_bipush (v := 24) hx hb (by decide +kernel : decode prog_4_method_1_code 45 = .ok (.bipush 24, 2)) (by decide) ?_
  refine x_newa hx hb hts hKK hP hD hS hA 24 (by decide) (by decide) (Nat.le_of_ble_eq_true rfl) (Nat.le_of_ble_eq_true rfl) (Nat.le_of_ble_eq_true rfl) (by decide +kernel : decode prog_4_method_1_code 47 = .ok (.newarray .int, 2)) (fun q6 H hP hD hS => ?_)
  have hP : va_P D classes ([(h0, .inr (2, [.ref q1, .ref q2, .ref q3, .ref q4, .ref q5, .null, .null, .null, .null, .null, .null, .null, .null, .int 0, .int 0])), (q1, .inl (cA, 24, .inl (fun _ => 0))), (q2, .inl (cA, 24, .inl (fun _ => 0))), (q3, .inl (cA, 24, .inl (fun _ => 0))), (q4, .inl (cA, 24, .inl (fun _ => 0))), (q5, .inl (cA, 24, .inl (fun _ => 0))), (q6, .inl (cA, 24, .inl (fun _ => 0)))]) H := hP
  have hD : va_D A ([(h0, .inr (2, [.ref q1, .ref q2, .ref q3, .ref q4, .ref q5, .null, .null, .null, .null, .null, .null, .null, .null, .int 0, .int 0])), (q1, .inl (cA, 24, .inl (fun _ => 0))), (q2, .inl (cA, 24, .inl (fun _ => 0))), (q3, .inl (cA, 24, .inl (fun _ => 0))), (q4, .inl (cA, 24, .inl (fun _ => 0))), (q5, .inl (cA, 24, .inl (fun _ => 0))), (q6, .inl (cA, 24, .inl (fun _ => 0)))]) := hD
  refine va_putF (D := D) (ci := 2) (v := .ref q6) (ty := .array .int) (C := R2_) (T := T2_) (N := 15) hx hb hts ws2_in ty2_ ty2_ok nm2_ hown hKK hP hD hS 0 rfl rfl 5 (by decide) (hts _ (ALL_in 93 (by decide +kernel) rfl)) (fun _ h9 => h9) rfl hin rfl (by decide +kernel) rfl rfl (Nat.le_of_ble_eq_true rfl) (by decide +kernel : decode prog_4_method_1_code 49 = .ok (.putfield 27, 3)) (fun H locs hP hD hS => ?_)
  have hP : va_P D classes ([(h0, .inr (2, [.ref q1, .ref q2, .ref q3, .ref q4, .ref q5, .ref q6, .null, .null, .null, .null, .null, .null, .null, .int 0, .int 0])), (q1, .inl (cA, 24, .inl (fun _ => 0))), (q2, .inl (cA, 24, .inl (fun _ => 0))), (q3, .inl (cA, 24, .inl (fun _ => 0))), (q4, .inl (cA, 24, .inl (fun _ => 0))), (q5, .inl (cA, 24, .inl (fun _ => 0))), (q6, .inl (cA, 24, .inl (fun _ => 0)))]) H := hP
  have hD : va_D A ([(h0, .inr (2, [.ref q1, .ref q2, .ref q3, .ref q4, .ref q5, .ref q6, .null, .null, .null, .null, .null, .null, .null, .int 0, .int 0])), (q1, .inl (cA, 24, .inl (fun _ => 0))), (q2, .inl (cA, 24, .inl (fun _ => 0))), (q3, .inl (cA, 24, .inl (fun _ => 0))), (q4, .inl (cA, 24, .inl (fun _ => 0))), (q5, .inl (cA, 24, .inl (fun _ => 0))), (q6, .inl (cA, 24, .inl (fun _ => 0)))]) := hD
  refine lv_aload_n hx hb (by decide +kernel : decode prog_4_method_1_code 52 = .ok (.aload_n 0, 1)) rfl (lv_at hl 0 rfl) ?_
  refine lv_bipush (v := 24) hx hb (by decide +kernel : decode prog_4_method_1_code 53 = .ok (.bipush 24, 2)) (by decide) ?_
  refine x_newa hx hb hts hKK hP hD hS hA 24 (by decide) (by decide) (Nat.le_of_ble_eq_true rfl) (Nat.le_of_ble_eq_true rfl) (Nat.le_of_ble_eq_true rfl) (by decide +kernel : decode prog_4_method_1_code 55 = .ok (.newarray .int, 2)) (fun q7 H hP hD hS => ?_)
  have hP : va_P D classes ([(h0, .inr (2, [.ref q1, .ref q2, .ref q3, .ref q4, .ref q5, .ref q6, .null, .null, .null, .null, .null, .null, .null, .int 0, .int 0])), (q1, .inl (cA, 24, .inl (fun _ => 0))), (q2, .inl (cA, 24, .inl (fun _ => 0))), (q3, .inl (cA, 24, .inl (fun _ => 0))), (q4, .inl (cA, 24, .inl (fun _ => 0))), (q5, .inl (cA, 24, .inl (fun _ => 0))), (q6, .inl (cA, 24, .inl (fun _ => 0))), (q7, .inl (cA, 24, .inl (fun _ => 0)))]) H := hP
  have hD : va_D A ([(h0, .inr (2, [.ref q1, .ref q2, .ref q3, .ref q4, .ref q5, .ref q6, .null, .null, .null, .null, .null, .null, .null, .int 0, .int 0])), (q1, .inl (cA, 24, .inl (fun _ => 0))), (q2, .inl (cA, 24, .inl (fun _ => 0))), (q3, .inl (cA, 24, .inl (fun _ => 0))), (q4, .inl (cA, 24, .inl (fun _ => 0))), (q5, .inl (cA, 24, .inl (fun _ => 0))), (q6, .inl (cA, 24, .inl (fun _ => 0))), (q7, .inl (cA, 24, .inl (fun _ => 0)))]) := hD
  refine va_putF (D := D) (ci := 2) (v := .ref q7) (ty := .array .int) (C := R2_) (T := T2_) (N := 15) hx hb hts ws2_in ty2_ ty2_ok nm2_ hown hKK hP hD hS 0 rfl rfl 6 (by decide) (hts _ (ALL_in 96 (by decide +kernel) rfl)) (fun _ h9 => h9) rfl hin rfl (by decide +kernel) rfl rfl (Nat.le_of_ble_eq_true rfl) (by decide +kernel : decode prog_4_method_1_code 57 = .ok (.putfield 30, 3)) (fun H locs hP hD hS => ?_)
  have hP : va_P D classes ([(h0, .inr (2, [.ref q1, .ref q2, .ref q3, .ref q4, .ref q5, .ref q6, .ref q7, .null, .null, .null, .null, .null, .null, .int 0, .int 0])), (q1, .inl (cA, 24, .inl (fun _ => 0))), (q2, .inl (cA, 24, .inl (fun _ => 0))), (q3, .inl (cA, 24, .inl (fun _ => 0))), (q4, .inl (cA, 24, .inl (fun _ => 0))), (q5, .inl (cA, 24, .inl (fun _ => 0))), (q6, .inl (cA, 24, .inl (fun _ => 0))), (q7, .inl (cA, 24, .inl (fun _ => 0)))]) H := hP
  have hD : va_D A ([(h0, .inr (2, [.ref q1, .ref q2, .ref q3, .ref q4, .ref q5, .ref q6, .ref q7, .null, .null, .null, .null, .null, .null, .int 0, .int 0])), (q1, .inl (cA, 24, .inl (fun _ => 0))), (q2, .inl (cA, 24, .inl (fun _ => 0))), (q3, .inl (cA, 24, .inl (fun _ => 0))), (q4, .inl (cA, 24, .inl (fun _ => 0))), (q5, .inl (cA, 24, .inl (fun _ => 0))), (q6, .inl (cA, 24, .inl (fun _ => 0))), (q7, .inl (cA, 24, .inl (fun _ => 0)))]) := hD
  refine lv_aload_n hx hb (by decide +kernel : decode prog_4_method_1_code 60 = .ok (.aload_n 0, 1)) rfl (lv_at hl 0 rfl) ?_
  refine lv_bipush (v := 24) hx hb (by decide +kernel : decode prog_4_method_1_code 61 = .ok (.bipush 24, 2)) (by decide) ?_
  refine x_newa hx hb hts hKK hP hD hS hA 24 (by decide) (by decide) (Nat.le_of_ble_eq_true rfl) (Nat.le_of_ble_eq_true rfl) (Nat.le_of_ble_eq_true rfl) (by decide +kernel : decode prog_4_method_1_code 63 = .ok (.newarray .int, 2)) (fun q8 H hP hD hS => ?_)
  have hP : va_P D classes ([(h0, .inr (2, [.ref q1, .ref q2, .ref q3, .ref q4, .ref q5, .ref q6, .ref q7, .null, .null, .null, .null, .null, .null, .int 0, .int 0])), (q1, .inl (cA, 24, .inl (fun _ => 0))), (q2, .inl (cA, 24, .inl (fun _ => 0))), (q3, .inl (cA, 24, .inl (fun _ => 0))), (q4, .inl (cA, 24, .inl (fun _ => 0))), (q5, .inl (cA, 24, .inl (fun _ => 0))), (q6, .inl (cA, 24, .inl (fun _ => 0))), (q7, .inl (cA, 24, .inl (fun _ => 0))), (q8, .inl (cA, 24, .inl (fun _ => 0)))]) H := hP
  have hD : va_D A ([(h0, .inr (2, [.ref q1, .ref q2, .ref q3, .ref q4, .ref q5, .ref q6, .ref q7, .null, .null, .null, .null, .null, .null, .int 0, .int 0])), (q1, .inl (cA, 24, .inl (fun _ => 0))), (q2, .inl (cA, 24, .inl (fun _ => 0))), (q3, .inl (cA, 24, .inl (fun _ => 0))), (q4, .inl (cA, 24, .inl (fun _ => 0))), (q5, .inl (cA, 24, .inl (fun _ => 0))), (q6, .inl (cA, 24, .inl (fun _ => 0))), (q7, .inl (cA, 24, .inl (fun _ => 0))), (q8, .inl (cA, 24, .inl (fun _ => 0)))]) := hD
  refine va_putF (D := D) (ci := 2) (v := .ref q8) (ty := .array .int) (C := R2_) (T := T2_) (N := 15) hx hb hts ws2_in ty2_ ty2_ok nm2_ hown hKK hP hD hS 0 rfl rfl 7 (by decide) (hts _ (ALL_in 99 (by decide +kernel) rfl)) (fun _ h9 => h9) rfl hin rfl (by decide +kernel) rfl rfl (Nat.le_of_ble_eq_true rfl) (by decide +kernel : decode prog_4_method_1_code 65 = .ok (.putfield 33, 3)) (fun H locs hP hD hS => ?_)
  have hP : va_P D classes ([(h0, .inr (2, [.ref q1, .ref q2, .ref q3, .ref q4, .ref q5, .ref q6, .ref q7, .ref q8, .null, .null, .null, .null, .null, .int 0, .int 0])), (q1, .inl (cA, 24, .inl (fun _ => 0))), (q2, .inl (cA, 24, .inl (fun _ => 0))), (q3, .inl (cA, 24, .inl (fun _ => 0))), (q4, .inl (cA, 24, .inl (fun _ => 0))), (q5, .inl (cA, 24, .inl (fun _ => 0))), (q6, .inl (cA, 24, .inl (fun _ => 0))), (q7, .inl (cA, 24, .inl (fun _ => 0))), (q8, .inl (cA, 24, .inl (fun _ => 0)))]) H := hP
  have hD : va_D A ([(h0, .inr (2, [.ref q1, .ref q2, .ref q3, .ref q4, .ref q5, .ref q6, .ref q7, .ref q8, .null, .null, .null, .null, .null, .int 0, .int 0])), (q1, .inl (cA, 24, .inl (fun _ => 0))), (q2, .inl (cA, 24, .inl (fun _ => 0))), (q3, .inl (cA, 24, .inl (fun _ => 0))), (q4, .inl (cA, 24, .inl (fun _ => 0))), (q5, .inl (cA, 24, .inl (fun _ => 0))), (q6, .inl (cA, 24, .inl (fun _ => 0))), (q7, .inl (cA, 24, .inl (fun _ => 0))), (q8, .inl (cA, 24, .inl (fun _ => 0)))]) := hD
  refine lv_aload_n hx hb (by decide +kernel : decode prog_4_method_1_code 68 = .ok (.aload_n 0, 1)) rfl (lv_at hl 0 rfl) ?_
  refine lv_bipush (v := 24) hx hb (by decide +kernel : decode prog_4_method_1_code 69 = .ok (.bipush 24, 2)) (by decide) ?_
  refine x_newa hx hb hts hKK hP hD hS hA 24 (by decide) (by decide) (Nat.le_of_ble_eq_true rfl) (Nat.le_of_ble_eq_true rfl) (Nat.le_of_ble_eq_true rfl) (by decide +kernel : decode prog_4_method_1_code 71 = .ok (.newarray .int, 2)) (fun q9 H hP hD hS => ?_)
  have hP : va_P D classes ([(h0, .inr (2, [.ref q1, .ref q2, .ref q3, .ref q4, .ref q5, .ref q6, .ref q7, .ref q8, .null, .null, .null, .null, .null, .int 0, .int 0])), (q1, .inl (cA, 24, .inl (fun _ => 0))), (q2, .inl (cA, 24, .inl (fun _ => 0))), (q3, .inl (cA, 24, .inl (fun _ => 0))), (q4, .inl (cA, 24, .inl (fun _ => 0))), (q5, .inl (cA, 24, .inl (fun _ => 0))), (q6, .inl (cA, 24, .inl (fun _ => 0))), (q7, .inl (cA, 24, .inl (fun _ => 0))), (q8, .inl (cA, 24, .inl (fun _ => 0))), (q9, .inl (cA, 24, .inl (fun _ => 0)))]) H := hP
  have hD : va_D A ([(h0, .inr (2, [.ref q1, .ref q2, .ref q3, .ref q4, .ref q5, .ref q6, .ref q7, .ref q8, .null, .null, .null, .null, .null, .int 0, .int 0])), (q1, .inl (cA, 24, .inl (fun _ => 0))), (q2, .inl (cA, 24, .inl (fun _ => 0))), (q3, .inl (cA, 24, .inl (fun _ => 0))), (q4, .inl (cA, 24, .inl (fun _ => 0))), (q5, .inl (cA, 24, .inl (fun _ => 0))), (q6, .inl (cA, 24, .inl (fun _ => 0))), (q7, .inl (cA, 24, .inl (fun _ => 0))), (q8, .inl (cA, 24, .inl (fun _ => 0))), (q9, .inl (cA, 24, .inl (fun _ => 0)))]) := hD
  refine va_putF (D := D) (ci := 2) (v := .ref q9) (ty := .array .int) (C := R2_) (T := T2_) (N := 15) hx hb hts ws2_in ty2_ ty2_ok nm2_ hown hKK hP hD hS 0 rfl rfl 8 (by decide) (hts _ (ALL_in 101 (by decide +kernel) rfl)) (fun _ h9 => h9) rfl hin rfl (by decide +kernel) rfl rfl (Nat.le_of_ble_eq_true rfl) (by decide +kernel : decode prog_4_method_1_code 73 = .ok (.putfield 36, 3)) (fun H locs hP hD hS => ?_)
  have hP : va_P D classes ([(h0, .inr (2, [.ref q1, .ref q2, .ref q3, .ref q4, .ref q5, .ref q6, .ref q7, .ref q8, .ref q9, .null, .null, .null, .null, .int 0, .int 0])), (q1, .inl (cA, 24, .inl (fun _ => 0))), (q2, .inl (cA, 24, .inl (fun _ => 0))), (q3, .inl (cA, 24, .inl (fun _ => 0))), (q4, .inl (cA, 24, .inl (fun _ => 0))), (q5, .inl (cA, 24, .inl (fun _ => 0))), (q6, .inl (cA, 24, .inl (fun _ => 0))), (q7, .inl (cA, 24, .inl (fun _ => 0))), (q8, .inl (cA, 24, .inl (fun _ => 0))), (q9, .inl (cA, 24, .inl (fun _ => 0)))]) H := hP
  have hD : va_D A ([(h0, .inr (2, [.ref q1, .ref q2, .ref q3, .ref q4, .ref q5, .ref q6, .ref q7, .ref q8, .ref q9, .null, .null, .null, .null, .int 0, .int 0])), (q1, .inl (cA, 24, .inl (fun _ => 0))), (q2, .inl (cA, 24, .inl (fun _ => 0))), (q3, .inl (cA, 24, .inl (fun _ => 0))), (q4, .inl (cA, 24, .inl (fun _ => 0))), (q5, .inl (cA, 24, .inl (fun _ => 0))), (q6, .inl (cA, 24, .inl (fun _ => 0))), (q7, .inl (cA, 24, .inl (fun _ => 0))), (q8, .inl (cA, 24, .inl (fun _ => 0))), (q9, .inl (cA, 24, .inl (fun _ => 0)))]) := hD
  refine lv_aload_n hx hb (by decide +kernel : decode prog_4_method_1_code 76 = .ok (.aload_n 0, 1)) rfl (lv_at hl 0 rfl) ?_
  refine lv_bipush (v := 24) hx hb (by decide +kernel : decode prog_4_method_1_code 77 = .ok (.bipush 24, 2)) (by decide) ?_
  refine x_newa hx hb hts hKK hP hD hS hA 24 (by decide) (by decide) (Nat.le_of_ble_eq_true rfl) (Nat.le_of_ble_eq_true rfl) (Nat.le_of_ble_eq_true rfl) (by decide +kernel : decode prog_4_method_1_code 79 = .ok (.newarray .int, 2)) (fun q10 H hP hD hS => ?_)
  have hP : va_P D classes ([(h0, .inr (2, [.ref q1, .ref q2, .ref q3, .ref q4, .ref q5, .ref q6, .ref q7, .ref q8, .ref q9, .null, .null, .null, .null, .int 0, .int 0])), (q1, .inl (cA, 24, .inl (fun _ => 0))), (q2, .inl (cA, 24, .inl (fun _ => 0))), (q3, .inl (cA, 24, .inl (fun _ => 0))), (q4, .inl (cA, 24, .inl (fun _ => 0))), (q5, .inl (cA, 24, .inl (fun _ => 0))), (q6, .inl (cA, 24, .inl (fun _ => 0))), (q7, .inl (cA, 24, .inl (fun _ => 0))), (q8, .inl (cA, 24, .inl (fun _ => 0))), (q9, .inl (cA, 24, .inl (fun _ => 0))), (q10, .inl (cA, 24, .inl (fun _ => 0)))]) H := hP
  have hD : va_D A ([(h0, .inr (2, [.ref q1, .ref q2, .ref q3, .ref q4, .ref q5, .ref q6, .ref q7, .ref q8, .ref q9, .null, .null, .null, .null, .int 0, .int 0])), (q1, .inl (cA, 24, .inl (fun _ => 0))), (q2, .inl (cA, 24, .inl (fun _ => 0))), (q3, .inl (cA, 24, .inl (fun _ => 0))), (q4, .inl (cA, 24, .inl (fun _ => 0))), (q5, .inl (cA, 24, .inl (fun _ => 0))), (q6, .inl (cA, 24, .inl (fun _ => 0))), (q7, .inl (cA, 24, .inl (fun _ => 0))), (q8, .inl (cA, 24, .inl (fun _ => 0))), (q9, .inl (cA, 24, .inl (fun _ => 0))), (q10, .inl (cA, 24, .inl (fun _ => 0)))]) := hD
  refine va_putF (D := D) (ci := 2) (v := .ref q10) (ty := .array .int) (C := R2_) (T := T2_) (N := 15) hx hb hts ws2_in ty2_ ty2_ok nm2_ hown hKK hP hD hS 0 rfl rfl 9 (by decide) (hts _ (ALL_in 103 (by decide +kernel) rfl)) (fun _ h9 => h9) rfl hin rfl (by decide +kernel) rfl rfl (Nat.le_of_ble_eq_true rfl) (by decide +kernel : decode prog_4_method_1_code 81 = .ok (.putfield 39, 3)) (fun H locs hP hD hS => ?_)
  have hP : va_P D classes ([(h0, .inr (2, [.ref q1, .ref q2, .ref q3, .ref q4, .ref q5, .ref q6, .ref q7, .ref q8, .ref q9, .ref q10, .null, .null, .null, .int 0, .int 0])), (q1, .inl (cA, 24, .inl (fun _ => 0))), (q2, .inl (cA, 24, .inl (fun _ => 0))), (q3, .inl (cA, 24, .inl (fun _ => 0))), (q4, .inl (cA, 24, .inl (fun _ => 0))), (q5, .inl (cA, 24, .inl (fun _ => 0))), (q6, .inl (cA, 24, .inl (fun _ => 0))), (q7, .inl (cA, 24, .inl (fun _ => 0))), (q8, .inl (cA, 24, .inl (fun _ => 0))), (q9, .inl (cA, 24, .inl (fun _ => 0))), (q10, .inl (cA, 24, .inl (fun _ => 0)))]) H := hP
  have hD : va_D A ([(h0, .inr (2, [.ref q1, .ref q2, .ref q3, .ref q4, .ref q5, .ref q6, .ref q7, .ref q8, .ref q9, .ref q10, .null, .null, .null, .int 0, .int 0])), (q1, .inl (cA, 24, .inl (fun _ => 0))), (q2, .inl (cA, 24, .inl (fun _ => 0))), (q3, .inl (cA, 24, .inl (fun _ => 0))), (q4, .inl (cA, 24, .inl (fun _ => 0))), (q5, .inl (cA, 24, .inl (fun _ => 0))), (q6, .inl (cA, 24, .inl (fun _ => 0))), (q7, .inl (cA, 24, .inl (fun _ => 0))), (q8, .inl (cA, 24, .inl (fun _ => 0))), (q9, .inl (cA, 24, .inl (fun _ => 0))), (q10, .inl (cA, 24, .inl (fun _ => 0)))]) := hD
  refine lv_aload_n hx hb (by decide +kernel : decode prog_4_method_1_code 84 = .ok (.aload_n 0, 1)) rfl (lv_at hl 0 rfl) ?_
  refine lv_bipush (v := 32) hx hb (by decide +kernel : decode prog_4_method_1_code 85 = .ok (.bipush 32, 2)) (by decide) ?_
  refine x_newa hx hb hts hKK hP hD hS hA 32 (by decide) (by decide) (Nat.le_of_ble_eq_true rfl) (Nat.le_of_ble_eq_true rfl) (Nat.le_of_ble_eq_true rfl) (by decide +kernel : decode prog_4_method_1_code 87 = .ok (.newarray .int, 2)) (fun q11 H hP hD hS => ?_)
  have hP : va_P D classes ([(h0, .inr (2, [.ref q1, .ref q2, .ref q3, .ref q4, .ref q5, .ref q6, .ref q7, .ref q8, .ref q9, .ref q10, .null, .null, .null, .int 0, .int 0])), (q1, .inl (cA, 24, .inl (fun _ => 0))), (q2, .inl (cA, 24, .inl (fun _ => 0))), (q3, .inl (cA, 24, .inl (fun _ => 0))), (q4, .inl (cA, 24, .inl (fun _ => 0))), (q5, .inl (cA, 24, .inl (fun _ => 0))), (q6, .inl (cA, 24, .inl (fun _ => 0))), (q7, .inl (cA, 24, .inl (fun _ => 0))), (q8, .inl (cA, 24, .inl (fun _ => 0))), (q9, .inl (cA, 24, .inl (fun _ => 0))), (q10, .inl (cA, 24, .inl (fun _ => 0))), (q11, .inl (cA, 32, .inl (fun _ => 0)))]) H := hP
  have hD : va_D A ([(h0, .inr (2, [.ref q1, .ref q2, .ref q3, .ref q4, .ref q5, .ref q6, .ref q7, .ref q8, .ref q9, .ref q10, .null, .null, .null, .int 0, .int 0])), (q1, .inl (cA, 24, .inl (fun _ => 0))), (q2, .inl (cA, 24, .inl (fun _ => 0))), (q3, .inl (cA, 24, .inl (fun _ => 0))), (q4, .inl (cA, 24, .inl (fun _ => 0))), (q5, .inl (cA, 24, .inl (fun _ => 0))), (q6, .inl (cA, 24, .inl (fun _ => 0))), (q7, .inl (cA, 24, .inl (fun _ => 0))), (q8, .inl (cA, 24, .inl (fun _ => 0))), (q9, .inl (cA, 24, .inl (fun _ => 0))), (q10, .inl (cA, 24, .inl (fun _ => 0))), (q11, .inl (cA, 32, .inl (fun _ => 0)))]) := hD
  refine va_putF (D := D) (ci := 2) (v := .ref q11) (ty := .array .int) (C := R2_) (T := T2_) (N := 15) hx hb hts ws2_in ty2_ ty2_ok nm2_ hown hKK hP hD hS 0 rfl rfl 10 (by decide) (hts _ (ALL_in 105 (by decide +kernel) rfl)) (fun _ h9 => h9) rfl hin rfl (by decide +kernel) rfl rfl (Nat.le_of_ble_eq_true rfl) (by decide +kernel : decode prog_4_method_1_code 89 = .ok (.putfield 42, 3)) (fun H locs hP hD hS => ?_)
  have hP : va_P D classes ([(h0, .inr (2, [.ref q1, .ref q2, .ref q3, .ref q4, .ref q5, .ref q6, .ref q7, .ref q8, .ref q9, .ref q10, .ref q11, .null, .null, .int 0, .int 0])), (q1, .inl (cA, 24, .inl (fun _ => 0))), (q2, .inl (cA, 24, .inl (fun _ => 0))), (q3, .inl (cA, 24, .inl (fun _ => 0))), (q4, .inl (cA, 24, .inl (fun _ => 0))), (q5, .inl (cA, 24, .inl (fun _ => 0))), (q6, .inl (cA, 24, .inl (fun _ => 0))), (q7, .inl (cA, 24, .inl (fun _ => 0))), (q8, .inl (cA, 24, .inl (fun _ => 0))), (q9, .inl (cA, 24, .inl (fun _ => 0))), (q10, .inl (cA, 24, .inl (fun _ => 0))), (q11, .inl (cA, 32, .inl (fun _ => 0)))]) H := hP
  have hD : va_D A ([(h0, .inr (2, [.ref q1, .ref q2, .ref q3, .ref q4, .ref q5, .ref q6, .ref q7, .ref q8, .ref q9, .ref q10, .ref q11, .null, .null, .int 0, .int 0])), (q1, .inl (cA, 24, .inl (fun _ => 0))), (q2, .inl (cA, 24, .inl (fun _ => 0))), (q3, .inl (cA, 24, .inl (fun _ => 0))), (q4, .inl (cA, 24, .inl (fun _ => 0))), (q5, .inl (cA, 24, .inl (fun _ => 0))), (q6, .inl (cA, 24, .inl (fun _ => 0))), (q7, .inl (cA, 24, .inl (fun _ => 0))), (q8, .inl (cA, 24, .inl (fun _ => 0))), (q9, .inl (cA, 24, .inl (fun _ => 0))), (q10, .inl (cA, 24, .inl (fun _ => 0))), (q11, .inl (cA, 32, .inl (fun _ => 0)))]) := hD
  refine lv_aload_n hx hb (by decide +kernel : decode prog_4_method_1_code 92 = .ok (.aload_n 0, 1)) rfl (lv_at hl 0 rfl) ?_
  refine lv_bipush (v := 32) hx hb (by decide +kernel : decode prog_4_method_1_code 93 = .ok (.bipush 32, 2)) (by decide) ?_
  refine x_newa hx hb hts hKK hP hD hS hA 32 (by decide) (by decide) (Nat.le_of_ble_eq_true rfl) (Nat.le_of_ble_eq_true rfl) (Nat.le_of_ble_eq_true rfl) (by decide +kernel : decode prog_4_method_1_code 95 = .ok (.newarray .int, 2)) (fun q12 H hP hD hS => ?_)
  have hP : va_P D classes ([(h0, .inr (2, [.ref q1, .ref q2, .ref q3, .ref q4, .ref q5, .ref q6, .ref q7, .ref q8, .ref q9, .ref q10, .ref q11, .null, .null, .int 0, .int 0])), (q1, .inl (cA, 24, .inl (fun _ => 0))), (q2, .inl (cA, 24, .inl (fun _ => 0))), (q3, .inl (cA, 24, .inl (fun _ => 0))), (q4, .inl (cA, 24, .inl (fun _ => 0))), (q5, .inl (cA, 24, .inl (fun _ => 0))), (q6, .inl (cA, 24, .inl (fun _ => 0))), (q7, .inl (cA, 24, .inl (fun _ => 0))), (q8, .inl (cA, 24, .inl (fun _ => 0))), (q9, .inl (cA, 24, .inl (fun _ => 0))), (q10, .inl (cA, 24, .inl (fun _ => 0))), (q11, .inl (cA, 32, .inl (fun _ => 0))), (q12, .inl (cA, 32, .inl (fun _ => 0)))]) H := hP
  have hD : va_D A ([(h0, .inr (2, [.ref q1, .ref q2, .ref q3, .ref q4, .ref q5, .ref q6, .ref q7, .ref q8, .ref q9, .ref q10, .ref q11, .null, .null, .int 0, .int 0])), (q1, .inl (cA, 24, .inl (fun _ => 0))), (q2, .inl (cA, 24, .inl (fun _ => 0))), (q3, .inl (cA, 24, .inl (fun _ => 0))), (q4, .inl (cA, 24, .inl (fun _ => 0))), (q5, .inl (cA, 24, .inl (fun _ => 0))), (q6, .inl (cA, 24, .inl (fun _ => 0))), (q7, .inl (cA, 24, .inl (fun _ => 0))), (q8, .inl (cA, 24, .inl (fun _ => 0))), (q9, .inl (cA, 24, .inl (fun _ => 0))), (q10, .inl (cA, 24, .inl (fun _ => 0))), (q11, .inl (cA, 32, .inl (fun _ => 0))), (q12, .inl (cA, 32, .inl (fun _ => 0)))]) := hD
  refine va_putF (D := D) (ci := 2) (v := .ref q12) (ty := .array .int) (C := R2_) (T := T2_) (N := 15) hx hb hts ws2_in ty2_ ty2_ok nm2_ hown hKK hP hD hS 0 rfl rfl 11 (by decide) (hts _ (ALL_in 107 (by decide +kernel) rfl)) (fun _ h9 => h9) rfl hin rfl (by decide +kernel) rfl rfl (Nat.le_of_ble_eq_true rfl) (by decide +kernel : decode prog_4_method_1_code 97 = .ok (.putfield 45, 3)) (fun H locs hP hD hS => ?_)
  have hP : va_P D classes ([(h0, .inr (2, [.ref q1, .ref q2, .ref q3, .ref q4, .ref q5, .ref q6, .ref q7, .ref q8, .ref q9, .ref q10, .ref q11, .ref q12, .null, .int 0, .int 0])), (q1, .inl (cA, 24, .inl (fun _ => 0))), (q2, .inl (cA, 24, .inl (fun _ => 0))), (q3, .inl (cA, 24, .inl (fun _ => 0))), (q4, .inl (cA, 24, .inl (fun _ => 0))), (q5, .inl (cA, 24, .inl (fun _ => 0))), (q6, .inl (cA, 24, .inl (fun _ => 0))), (q7, .inl (cA, 24, .inl (fun _ => 0))), (q8, .inl (cA, 24, .inl (fun _ => 0))), (q9, .inl (cA, 24, .inl (fun _ => 0))), (q10, .inl (cA, 24, .inl (fun _ => 0))), (q11, .inl (cA, 32, .inl (fun _ => 0))), (q12, .inl (cA, 32, .inl (fun _ => 0)))]) H := hP
  have hD : va_D A ([(h0, .inr (2, [.ref q1, .ref q2, .ref q3, .ref q4, .ref q5, .ref q6, .ref q7, .ref q8, .ref q9, .ref q10, .ref q11, .ref q12, .null, .int 0, .int 0])), (q1, .inl (cA, 24, .inl (fun _ => 0))), (q2, .inl (cA, 24, .inl (fun _ => 0))), (q3, .inl (cA, 24, .inl (fun _ => 0))), (q4, .inl (cA, 24, .inl (fun _ => 0))), (q5, .inl (cA, 24, .inl (fun _ => 0))), (q6, .inl (cA, 24, .inl (fun _ => 0))), (q7, .inl (cA, 24, .inl (fun _ => 0))), (q8, .inl (cA, 24, .inl (fun _ => 0))), (q9, .inl (cA, 24, .inl (fun _ => 0))), (q10, .inl (cA, 24, .inl (fun _ => 0))), (q11, .inl (cA, 32, .inl (fun _ => 0))), (q12, .inl (cA, 32, .inl (fun _ => 0)))]) := hD
  refine lv_aload_n hx hb (by decide +kernel : decode prog_4_method_1_code 100 = .ok (.aload_n 0, 1)) rfl (lv_at hl 0 rfl) ?_
  refine lv_bipush (v := 32) hx hb (by decide +kernel : decode prog_4_method_1_code 101 = .ok (.bipush 32, 2)) (by decide) ?_
  refine x_newa hx hb hts hKK hP hD hS hA 32 (by decide) (by decide) (Nat.le_of_ble_eq_true rfl) (Nat.le_of_ble_eq_true rfl) (Nat.le_of_ble_eq_true rfl) (by decide +kernel : decode prog_4_method_1_code 103 = .ok (.newarray .int, 2)) (fun q13 H hP hD hS => ?_)
  have hP : va_P D classes ([(h0, .inr (2, [.ref q1, .ref q2, .ref q3, .ref q4, .ref q5, .ref q6, .ref q7, .ref q8, .ref q9, .ref q10, .ref q11, .ref q12, .null, .int 0, .int 0])), (q1, .inl (cA, 24, .inl (fun _ => 0))), (q2, .inl (cA, 24, .inl (fun _ => 0))), (q3, .inl (cA, 24, .inl (fun _ => 0))), (q4, .inl (cA, 24, .inl (fun _ => 0))), (q5, .inl (cA, 24, .inl (fun _ => 0))), (q6, .inl (cA, 24, .inl (fun _ => 0))), (q7, .inl (cA, 24, .inl (fun _ => 0))), (q8, .inl (cA, 24, .inl (fun _ => 0))), (q9, .inl (cA, 24, .inl (fun _ => 0))), (q10, .inl (cA, 24, .inl (fun _ => 0))), (q11, .inl (cA, 32, .inl (fun _ => 0))), (q12, .inl (cA, 32, .inl (fun _ => 0))), (q13, .inl (cA, 32, .inl (fun _ => 0)))]) H := hP
  have hD : va_D A ([(h0, .inr (2, [.ref q1, .ref q2, .ref q3, .ref q4, .ref q5, .ref q6, .ref q7, .ref q8, .ref q9, .ref q10, .ref q11, .ref q12, .null, .int 0, .int 0])), (q1, .inl (cA, 24, .inl (fun _ => 0))), (q2, .inl (cA, 24, .inl (fun _ => 0))), (q3, .inl (cA, 24, .inl (fun _ => 0))), (q4, .inl (cA, 24, .inl (fun _ => 0))), (q5, .inl (cA, 24, .inl (fun _ => 0))), (q6, .inl (cA, 24, .inl (fun _ => 0))), (q7, .inl (cA, 24, .inl (fun _ => 0))), (q8, .inl (cA, 24, .inl (fun _ => 0))), (q9, .inl (cA, 24, .inl (fun _ => 0))), (q10, .inl (cA, 24, .inl (fun _ => 0))), (q11, .inl (cA, 32, .inl (fun _ => 0))), (q12, .inl (cA, 32, .inl (fun _ => 0))), (q13, .inl (cA, 32, .inl (fun _ => 0)))]) := hD
  refine va_putF (D := D) (ci := 2) (v := .ref q13) (ty := .array .int) (C := R2_) (T := T2_) (N := 15) hx hb hts ws2_in ty2_ ty2_ok nm2_ hown hKK hP hD hS 0 rfl rfl 12 (by decide) (hts _ (ALL_in 109 (by decide +kernel) rfl)) (fun _ h9 => h9) rfl hin rfl (by decide +kernel) rfl rfl (Nat.le_of_ble_eq_true rfl) (by decide +kernel : decode prog_4_method_1_code 105 = .ok (.putfield 48, 3)) (fun H locs hP hD hS => ?_)
  have hP : va_P D classes ([(h0, .inr (2, [.ref q1, .ref q2, .ref q3, .ref q4, .ref q5, .ref q6, .ref q7, .ref q8, .ref q9, .ref q10, .ref q11, .ref q12, .ref q13, .int 0, .int 0])), (q1, .inl (cA, 24, .inl (fun _ => 0))), (q2, .inl (cA, 24, .inl (fun _ => 0))), (q3, .inl (cA, 24, .inl (fun _ => 0))), (q4, .inl (cA, 24, .inl (fun _ => 0))), (q5, .inl (cA, 24, .inl (fun _ => 0))), (q6, .inl (cA, 24, .inl (fun _ => 0))), (q7, .inl (cA, 24, .inl (fun _ => 0))), (q8, .inl (cA, 24, .inl (fun _ => 0))), (q9, .inl (cA, 24, .inl (fun _ => 0))), (q10, .inl (cA, 24, .inl (fun _ => 0))), (q11, .inl (cA, 32, .inl (fun _ => 0))), (q12, .inl (cA, 32, .inl (fun _ => 0))), (q13, .inl (cA, 32, .inl (fun _ => 0)))]) H := hP
  have hD : va_D A ([(h0, .inr (2, [.ref q1, .ref q2, .ref q3, .ref q4, .ref q5, .ref q6, .ref q7, .ref q8, .ref q9, .ref q10, .ref q11, .ref q12, .ref q13, .int 0, .int 0])), (q1, .inl (cA, 24, .inl (fun _ => 0))), (q2, .inl (cA, 24, .inl (fun _ => 0))), (q3, .inl (cA, 24, .inl (fun _ => 0))), (q4, .inl (cA, 24, .inl (fun _ => 0))), (q5, .inl (cA, 24, .inl (fun _ => 0))), (q6, .inl (cA, 24, .inl (fun _ => 0))), (q7, .inl (cA, 24, .inl (fun _ => 0))), (q8, .inl (cA, 24, .inl (fun _ => 0))), (q9, .inl (cA, 24, .inl (fun _ => 0))), (q10, .inl (cA, 24, .inl (fun _ => 0))), (q11, .inl (cA, 32, .inl (fun _ => 0))), (q12, .inl (cA, 32, .inl (fun _ => 0))), (q13, .inl (cA, 32, .inl (fun _ => 0)))]) := hD
  refine lv_aload_n hx hb (by decide +kernel : decode prog_4_method_1_code 108 = .ok (.aload_n 0, 1)) rfl (lv_at hl 0 rfl) ?_
  refine lv_iconst (v := 1) hx hb (by decide +kernel : decode prog_4_method_1_code 109 = .ok (.iconst 1, 1)) (by decide) ?_
  refine va_put (D := D) (ci := 2) (v := .int 1) (ty := .int) (C := R2_) (T := T2_) (N := 15) hx hb hts ws2_in ty2_ ty2_ok nm2_ hown hKK hP hD hS 0 rfl rfl 13 (by decide) (hts _ (ALL_in 111 (by decide +kernel) rfl)) (fun _ h9 => h9) rfl (by decide +kernel) rfl rfl (Nat.le_of_ble_eq_true rfl) (by decide +kernel : decode prog_4_method_1_code 110 = .ok (.putfield 51, 3)) (fun H locs hP hD hS => ?_)
  have hP : va_P D classes ([(h0, .inr (2, [.ref q1, .ref q2, .ref q3, .ref q4, .ref q5, .ref q6, .ref q7, .ref q8, .ref q9, .ref q10, .ref q11, .ref q12, .ref q13, .int 1, .int 0])), (q1, .inl (cA, 24, .inl (fun _ => 0))), (q2, .inl (cA, 24, .inl (fun _ => 0))), (q3, .inl (cA, 24, .inl (fun _ => 0))), (q4, .inl (cA, 24, .inl (fun _ => 0))), (q5, .inl (cA, 24, .inl (fun _ => 0))), (q6, .inl (cA, 24, .inl (fun _ => 0))), (q7, .inl (cA, 24, .inl (fun _ => 0))), (q8, .inl (cA, 24, .inl (fun _ => 0))), (q9, .inl (cA, 24, .inl (fun _ => 0))), (q10, .inl (cA, 24, .inl (fun _ => 0))), (q11, .inl (cA, 32, .inl (fun _ => 0))), (q12, .inl (cA, 32, .inl (fun _ => 0))), (q13, .inl (cA, 32, .inl (fun _ => 0)))]) H := hP
  have hD : va_D A ([(h0, .inr (2, [.ref q1, .ref q2, .ref q3, .ref q4, .ref q5, .ref q6, .ref q7, .ref q8, .ref q9, .ref q10, .ref q11, .ref q12, .ref q13, .int 1, .int 0])), (q1, .inl (cA, 24, .inl (fun _ => 0))), (q2, .inl (cA, 24, .inl (fun _ => 0))), (q3, .inl (cA, 24, .inl (fun _ => 0))), (q4, .inl (cA, 24, .inl (fun _ => 0))), (q5, .inl (cA, 24, .inl (fun _ => 0))), (q6, .inl (cA, 24, .inl (fun _ => 0))), (q7, .inl (cA, 24, .inl (fun _ => 0))), (q8, .inl (cA, 24, .inl (fun _ => 0))), (q9, .inl (cA, 24, .inl (fun _ => 0))), (q10, .inl (cA, 24, .inl (fun _ => 0))), (q11, .inl (cA, 32, .inl (fun _ => 0))), (q12, .inl (cA, 32, .inl (fun _ => 0))), (q13, .inl (cA, 32, .inl (fun _ => 0)))]) := hD
  refine lv_aload_n hx hb (by decide +kernel : decode prog_4_method_1_code 113 = .ok (.aload_n 0, 1)) rfl (lv_at hl 0 rfl) ?_
  refine va_get (D := D) (ci := 2) (v := .ref q1) (C := R2_) (T := T2_) (N := 15) hx hb hts ws2_in hown hKK hP 0 rfl rfl 0 (by decide) (hts _ (ALL_in 80 (by decide +kernel) rfl)) (fun _ h9 => h9) rfl (by decide +kernel : decode prog_4_method_1_code 114 = .ok (.getfield 9, 3)) ?_
  refine lv_iconst (v := 0) hx hb (by decide +kernel : decode prog_4_method_1_code 117 = .ok (.iconst 0, 1)) (by decide) ?_
  refine lv_bipush (v := 42) hx hb (by decide +kernel : decode prog_4_method_1_code 118 = .ok (.bipush 42, 2)) (by decide) ?_
  refine x_set (ct_PL_0 [.inr 24]) (by decide) (by decide) (by decide) (Nat.lt_of_succ_le (Nat.le_of_ble_eq_true rfl) : 0 < 24) (q0 := 1) rfl hx hb hml hown hts hN hKK hP hD hS hA hl.1 (Nat.le_of_ble_eq_true rfl) ⟨Nat.le_of_ble_eq_true rfl, Nat.le_of_ble_eq_true rfl⟩ ⟨Nat.le_of_ble_eq_true rfl, Nat.le_of_ble_eq_true rfl⟩ (by decide +kernel : decode prog_4_method_1_code 120 = .ok (.invokestatic 55, 3)) (fun H locs hP hD hS => ?_)
  have hP : va_P D classes ([(h0, .inr (2, [.ref q1, .ref q2, .ref q3, .ref q4, .ref q5, .ref q6, .ref q7, .ref q8, .ref q9, .ref q10, .ref q11, .ref q12, .ref q13, .int 1, .int 0])), (q1, .inl (cA, 24, .inl (upd (fun _ => 0) 0 42))), (q2, .inl (cA, 24, .inl (fun _ => 0))), (q3, .inl (cA, 24, .inl (fun _ => 0))), (q4, .inl (cA, 24, .inl (fun _ => 0))), (q5, .inl (cA, 24, .inl (fun _ => 0))), (q6, .inl (cA, 24, .inl (fun _ => 0))), (q7, .inl (cA, 24, .inl (fun _ => 0))), (q8, .inl (cA, 24, .inl (fun _ => 0))), (q9, .inl (cA, 24, .inl (fun _ => 0))), (q10, .inl (cA, 24, .inl (fun _ => 0))), (q11, .inl (cA, 32, .inl (fun _ => 0))), (q12, .inl (cA, 32, .inl (fun _ => 0))), (q13, .inl (cA, 32, .inl (fun _ => 0)))]) H := hP
  have hD : va_D A ([(h0, .inr (2, [.ref q1, .ref q2, .ref q3, .ref q4, .ref q5, .ref q6, .ref q7, .ref q8, .ref q9, .ref q10, .ref q11, .ref q12, .ref q13, .int 1, .int 0])), (q1, .inl (cA, 24, .inl (upd (fun _ => 0) 0 42))), (q2, .inl (cA, 24, .inl (fun _ => 0))), (q3, .inl (cA, 24, .inl (fun _ => 0))), (q4, .inl (cA, 24, .inl (fun _ => 0))), (q5, .inl (cA, 24, .inl (fun _ => 0))), (q6, .inl (cA, 24, .inl (fun _ => 0))), (q7, .inl (cA, 24, .inl (fun _ => 0))), (q8, .inl (cA, 24, .inl (fun _ => 0))), (q9, .inl (cA, 24, .inl (fun _ => 0))), (q10, .inl (cA, 24, .inl (fun _ => 0))), (q11, .inl (cA, 32, .inl (fun _ => 0))), (q12, .inl (cA, 32, .inl (fun _ => 0))), (q13, .inl (cA, 32, .inl (fun _ => 0)))]) := hD
  refine lv_aload_n hx hb (by decide +kernel : decode prog_4_method_1_code 123 = .ok (.aload_n 0, 1)) rfl (lv_at hl 0 rfl) ?_
  refine va_get (D := D) (ci := 2) (v := .ref q4) (C := R2_) (T := T2_) (N := 15) hx hb hts ws2_in hown hKK hP 0 rfl rfl 3 (by decide) (hts _ (ALL_in 87 (by decide +kernel) rfl)) (fun _ h9 => h9) rfl (by decide +kernel : decode prog_4_method_1_code 124 = .ok (.getfield 21, 3)) ?_
  refine lv_iconst (v := 0) hx hb (by decide +kernel : decode prog_4_method_1_code 127 = .ok (.iconst 0, 1)) (by decide) ?_
  refine lv_iconst (v := 1) hx hb (by decide +kernel : decode prog_4_method_1_code 128 = .ok (.iconst 1, 1)) (by decide) ?_
  refine x_set (ct_PL_0 [.inr 24]) (by decide) (by decide) (by decide) (Nat.lt_of_succ_le (Nat.le_of_ble_eq_true rfl) : 0 < 24) (q0 := 4) rfl hx hb hml hown hts hN hKK hP hD hS hA hl.1 (Nat.le_of_ble_eq_true rfl) ⟨Nat.le_of_ble_eq_true rfl, Nat.le_of_ble_eq_true rfl⟩ ⟨Nat.le_of_ble_eq_true rfl, Nat.le_of_ble_eq_true rfl⟩ (by decide +kernel : decode prog_4_method_1_code 129 = .ok (.invokestatic 55, 3)) (fun H locs hP hD hS => ?_)
  have hP : va_P D classes ([(h0, .inr (2, [.ref q1, .ref q2, .ref q3, .ref q4, .ref q5, .ref q6, .ref q7, .ref q8, .ref q9, .ref q10, .ref q11, .ref q12, .ref q13, .int 1, .int 0])), (q1, .inl (cA, 24, .inl (upd (fun _ => 0) 0 42))), (q2, .inl (cA, 24, .inl (fun _ => 0))), (q3, .inl (cA, 24, .inl (fun _ => 0))), (q4, .inl (cA, 24, .inl (upd (fun _ => 0) 0 1))), (q5, .inl (cA, 24, .inl (fun _ => 0))), (q6, .inl (cA, 24, .inl (fun _ => 0))), (q7, .inl (cA, 24, .inl (fun _ => 0))), (q8, .inl (cA, 24, .inl (fun _ => 0))), (q9, .inl (cA, 24, .inl (fun _ => 0))), (q10, .inl (cA, 24, .inl (fun _ => 0))), (q11, .inl (cA, 32, .inl (fun _ => 0))), (q12, .inl (cA, 32, .inl (fun _ => 0))), (q13, .inl (cA, 32, .inl (fun _ => 0)))]) H := hP
  have hD : va_D A ([(h0, .inr (2, [.ref q1, .ref q2, .ref q3, .ref q4, .ref q5, .ref q6, .ref q7, .ref q8, .ref q9, .ref q10, .ref q11, .ref q12, .ref q13, .int 1, .int 0])), (q1, .inl (cA, 24, .inl (upd (fun _ => 0) 0 42))), (q2, .inl (cA, 24, .inl (fun _ => 0))), (q3, .inl (cA, 24, .inl (fun _ => 0))), (q4, .inl (cA, 24, .inl (upd (fun _ => 0) 0 1))), (q5, .inl (cA, 24, .inl (fun _ => 0))), (q6, .inl (cA, 24, .inl (fun _ => 0))), (q7, .inl (cA, 24, .inl (fun _ => 0))), (q8, .inl (cA, 24, .inl (fun _ => 0))), (q9, .inl (cA, 24, .inl (fun _ => 0))), (q10, .inl (cA, 24, .inl (fun _ => 0))), (q11, .inl (cA, 32, .inl (fun _ => 0))), (q12, .inl (cA, 32, .inl (fun _ => 0))), (q13, .inl (cA, 32, .inl (fun _ => 0)))]) := hD
  refine W.widen (k := 13) (n := 336) (Nat.le_of_ble_eq_true rfl) (Nat.le_of_ble_eq_true rfl) ?_
  exact W.vret hx hb hr (fun t ht hW => ⟨⟨(fun i => cond (Nat.blt i 1) (h0) (cond (Nat.blt i 2) (q1) (cond (Nat.blt i 3) (q2) (cond (Nat.blt i 4) (q3) (cond (Nat.blt i 5) (q4) (cond (Nat.blt i 6) (q5) (cond (Nat.blt i 7) (q6) (cond (Nat.blt i 8) (q7) (cond (Nat.blt i 9) (q8) (cond (Nat.blt i 10) (q9) (cond (Nat.blt i 11) (q10) (cond (Nat.blt i 12) (q11) (cond (Nat.blt i 13) (q12) (q13)))))))))))))), rfl, rfl, by rw [ht]; exact hP, hD⟩, hS.F ht⟩) hS.2.2 (by decide +kernel : decode prog_4_method_1_code 132 = .ok (.return_, 1)) hlk
def pw_RDV (cA : ClassId) (u : Nat → Nat) : va_W := [((u 0), .inr (4, [.ref (u 1), .int 0, .int 0, .int 0, .null, .int 0])), ((u 1), .inl (cA, 96, .inl (fun _ => 0)))]
set_option maxHeartbeats 4000000 in
set_option maxRecDepth 100000 in
theorem k_RDV : Ctor y_RD_init 1 1 96 4 [.null, .int 0, .int 0, .int 0, .null, .int 0] pw_RDV := by
  refine ctor_of (by decide +kernel) rfl rfl ?_
  intro l D cA h0 A p e s m below meth c ls hx hb hml hown hr hlk hin hts hN hN2 hKK hA hP hD hS hl
  have hAA := hA
  refine lv_aload_n hx hb (by decide +kernel : decode prog_5_method_1_code 0 = .ok (.aload_n 0, 1)) rfl (lv_at hl 0 rfl) ?_
  refine W.objInit hx hb hown (hts _ (ALL_in 176 (by decide +kernel) rfl)) (hts _ (ALL_in 19 (by decide +kernel) rfl)) (hts _ (ALL_in 20 (by decide +kernel) rfl)) rfl (by rw [hml]; exact hl.1) rfl (by decide +kernel : decode prog_5_method_1_code 1 = .ok (.invokespecial 3, 3)) (Nat.le_of_ble_eq_true rfl) (Nat.le_of_ble_eq_true rfl) ?_
  refine W.eq (g2 := F0 m 4 ls []) rfl ?_
  refine lv_aload_n hx hb (by decide +kernel : decode prog_5_method_1_code 4 = .ok (.aload_n 0, 1)) rfl (lv_at hl 0 rfl) ?_
  refine lv_bipush (v := 96) hx hb (by decide +kernel : decode prog_5_method_1_code 5 = .ok (.bipush 96, 2)) (by decide) ?_
  refine x_newa hx hb hts hKK hP hD hS hA 96 (by decide) (by decide) (Nat.le_of_ble_eq_true rfl) (Nat.le_of_ble_eq_true rfl) (Nat.le_of_ble_eq_true rfl) (by decide +kernel : decode prog_5_method_1_code 7 = .ok (.newarray .int, 2)) (fun q1 H hP hD hS => ?_)
  have hP : va_P D classes ([(h0, .inr (4, [.null, .int 0, .int 0, .int 0, .null, .int 0])), (q1, .inl (cA, 96, .inl (fun _ => 0)))]) H := hP
  have hD : va_D A ([(h0, .inr (4, [.null, .int 0, .int 0, .int 0, .null, .int 0])), (q1, .inl (cA, 96, .inl (fun _ => 0)))]) := hD
  refine va_putF (D := D) (ci := 4) (v := .ref q1) (ty := .array .int) (C := R4_) (T := T4_) (N := 6) hx hb hts ws4_in ty4_ ty4_ok nm4_ hown hKK hP hD hS 0 rfl rfl 0 (by decide) (hts _ (ALL_in 182 (by decide +kernel) rfl)) (fun _ h9 => h9) rfl hin rfl (by decide +kernel) rfl rfl (Nat.le_of_ble_eq_true rfl) (by decide +kernel : decode prog_5_method_1_code 9 = .ok (.putfield 9, 3)) (fun H locs hP hD hS => ?_)
  have hP : va_P D classes ([(h0, .inr (4, [.ref q1, .int 0, .int 0, .int 0, .null, .int 0])), (q1, .inl (cA, 96, .inl (fun _ => 0)))]) H := hP
  have hD : va_D A ([(h0, .inr (4, [.ref q1, .int 0, .int 0, .int 0, .null, .int 0])), (q1, .inl (cA, 96, .inl (fun _ => 0)))]) := hD
  refine W.widen (k := 1) (n := 96) (Nat.le_of_ble_eq_true rfl) (Nat.le_of_ble_eq_true rfl) ?_
  exact W.vret hx hb hr (fun t ht hW => ⟨⟨(fun i => cond (Nat.blt i 1) (h0) (q1)), rfl, rfl, by rw [ht]; exact hP, hD⟩, hS.F ht⟩) hS.2.2 (by decide +kernel : decode prog_5_method_1_code 12 = .ok (.return_, 1)) hlk
def pw_RDC (cA : ClassId) (u : Nat → Nat) : va_W := [((u 0), .inr (0, [.ref (u 1), .int 0, .int 0, .int 0, .null, .null, .int 0, .int 0, .int 0, .int 0, .int 0])), ((u 1), .inl (cA, 96, .inl (fun _ => 0)))]
set_option maxHeartbeats 4000000 in
set_option maxRecDepth 100000 in
theorem k_RDC : Ctor y_RD_init 1 1 96 0 [.null, .int 0, .int 0, .int 0, .null, .null, .int 0, .int 0, .int 0, .int 0, .int 0] pw_RDC := by
  refine ctor_of (by decide +kernel) rfl rfl ?_
  intro l D cA h0 A p e s m below meth c ls hx hb hml hown hr hlk hin hts hN hN2 hKK hA hP hD hS hl
  have hAA := hA
  refine lv_aload_n hx hb (by decide +kernel : decode prog_5_method_1_code 0 = .ok (.aload_n 0, 1)) rfl (lv_at hl 0 rfl) ?_
  refine W.objInit hx hb hown (hts _ (ALL_in 176 (by decide +kernel) rfl)) (hts _ (ALL_in 19 (by decide +kernel) rfl)) (hts _ (ALL_in 20 (by decide +kernel) rfl)) rfl (by rw [hml]; exact hl.1) rfl (by decide +kernel : decode prog_5_method_1_code 1 = .ok (.invokespecial 3, 3)) (Nat.le_of_ble_eq_true rfl) (Nat.le_of_ble_eq_true rfl) ?_
  refine W.eq (g2 := F0 m 4 ls []) rfl ?_
  refine lv_aload_n hx hb (by decide +kernel : decode prog_5_method_1_code 4 = .ok (.aload_n 0, 1)) rfl (lv_at hl 0 rfl) ?_
  refine lv_bipush (v := 96) hx hb (by decide +kernel : decode prog_5_method_1_code 5 = .ok (.bipush 96, 2)) (by decide) ?_
  refine x_newa hx hb hts hKK hP hD hS hA 96 (by decide) (by decide) (Nat.le_of_ble_eq_true rfl) (Nat.le_of_ble_eq_true rfl) (Nat.le_of_ble_eq_true rfl) (by decide +kernel : decode prog_5_method_1_code 7 = .ok (.newarray .int, 2)) (fun q1 H hP hD hS => ?_)
  have hP : va_P D classes ([(h0, .inr (0, [.null, .int 0, .int 0, .int 0, .null, .null, .int 0, .int 0, .int 0, .int 0, .int 0])), (q1, .inl (cA, 96, .inl (fun _ => 0)))]) H := hP
  have hD : va_D A ([(h0, .inr (0, [.null, .int 0, .int 0, .int 0, .null, .null, .int 0, .int 0, .int 0, .int 0, .int 0])), (q1, .inl (cA, 96, .inl (fun _ => 0)))]) := hD
  refine va_putF (D := D) (ci := 0) (v := .ref q1) (ty := .array .int) (C := R0_) (T := T0_) (N := 11) hx hb hts ws0_in ty0_ ty0_ok nm0_ hown hKK hP hD hS 0 rfl rfl 0 (by decide) (hts _ (ALL_in 182 (by decide +kernel) rfl)) (fun _ h9 => h9) rfl hin rfl (by decide +kernel) rfl rfl (Nat.le_of_ble_eq_true rfl) (by decide +kernel : decode prog_5_method_1_code 9 = .ok (.putfield 9, 3)) (fun H locs hP hD hS => ?_)
  have hP : va_P D classes ([(h0, .inr (0, [.ref q1, .int 0, .int 0, .int 0, .null, .null, .int 0, .int 0, .int 0, .int 0, .int 0])), (q1, .inl (cA, 96, .inl (fun _ => 0)))]) H := hP
  have hD : va_D A ([(h0, .inr (0, [.ref q1, .int 0, .int 0, .int 0, .null, .null, .int 0, .int 0, .int 0, .int 0, .int 0])), (q1, .inl (cA, 96, .inl (fun _ => 0)))]) := hD
  refine W.widen (k := 1) (n := 96) (Nat.le_of_ble_eq_true rfl) (Nat.le_of_ble_eq_true rfl) ?_
  exact W.vret hx hb hr (fun t ht hW => ⟨⟨(fun i => cond (Nat.blt i 1) (h0) (q1)), rfl, rfl, by rw [ht]; exact hP, hD⟩, hS.F ht⟩) hS.2.2 (by decide +kernel : decode prog_5_method_1_code 12 = .ok (.return_, 1)) hlk
def pw_GA (cA : ClassId) (u : Nat → Nat) : va_W := [((u 0), .inr (1, [.ref (u 1), .ref (u 15), .ref (u 22), .int 0, .int 0]))] ++ pw_PL cA (fun i => u (i + 1)) ++ pw_TR cA (fun i => u (i + 15)) ++ [((u 22), .inl (cA, 6144, .inl (fun _ => 0)))]
set_option maxHeartbeats 4000000 in
set_option maxRecDepth 100000 in
theorem k_GA : Ctor y_GA_init 2 22 6622 1 [.null, .null, .null, .int 0, .int 0] pw_GA := by
  refine ctor_of (by decide +kernel) rfl rfl ?_
  intro l D cA h0 A p e s m below meth c ls hx hb hml hown hr hlk hin hts hN hN2 hKK hA hP hD hS hl
  have hAA := hA
  refine lv_aload_n hx hb (by decide +kernel : decode prog_3_method_1_code 0 = .ok (.aload_n 0, 1)) rfl (lv_at hl 0 rfl) ?_
  refine W.objInit hx hb hown (hts _ (ALL_in 72 (by decide +kernel) rfl)) (hts _ (ALL_in 19 (by decide +kernel) rfl)) (hts _ (ALL_in 20 (by decide +kernel) rfl)) rfl (by rw [hml]; exact hl.1) rfl (by decide +kernel : decode prog_3_method_1_code 1 = .ok (.invokespecial 3, 3)) (Nat.le_of_ble_eq_true rfl) (Nat.le_of_ble_eq_true rfl) ?_
  refine W.eq (g2 := F0 m 4 ls []) rfl ?_
  refine lv_aload_n hx hb (by decide +kernel : decode prog_3_method_1_code 4 = .ok (.aload_n 0, 1)) rfl (lv_at hl 0 rfl) ?_
  refine va_new (ci := 2) (fs := [.null, .null, .null, .null, .null, .null, .null, .null, .null, .null, .null, .null, .null, .int 0, .int 0]) (C := R2_) (T := T2_) (N := 15) hx hb hts ws2_in ty2_ ty2_ok hown (hts _ (ALL_in 73 (by decide +kernel) rfl)) (hts _ (ALL_in 74 (by decide +kernel) rfl)) (hts _ (ALL_in 4 (by decide +kernel) rfl)) hKK hP hD hS hA rfl df2 (Nat.le_of_ble_eq_true rfl) (Nat.le_of_ble_eq_true rfl) (by decide +kernel : decode prog_3_method_1_code 5 = .ok (.new 9, 3)) (fun q1 H hP hD hS => ?_)
  have hP : va_P D classes ([(h0, .inr (1, [.null, .null, .null, .int 0, .int 0]))] ++ [(q1, .inr (2, [.null, .null, .null, .null, .null, .null, .null, .null, .null, .null, .null, .null, .null, .int 0, .int 0]))]) H := hP
  have hD : va_D A ([(h0, .inr (1, [.null, .null, .null, .int 0, .int 0]))] ++ [(q1, .inr (2, [.null, .null, .null, .null, .null, .null, .null, .null, .null, .null, .null, .null, .null, .int 0, .int 0]))]) := hD
  refine lv_dup hx hb (by decide +kernel : decode prog_3_method_1_code 8 = .ok (.dup, 1)) rfl ?_
  refine x_ctor (wr := [(h0, .inr (1, [.null, .null, .null, .int 0, .int 0]))]) k_PL lk_GA_11 hx hb hml hown hts hN hN2 hKK hP hD hS hA hl.1 (Nat.le_of_ble_eq_true rfl) ⟨Nat.le_of_ble_eq_true rfl, Nat.le_of_ble_eq_true rfl⟩ ⟨Nat.le_of_ble_eq_true rfl, Nat.le_of_ble_eq_true rfl⟩ (by decide +kernel : decode prog_3_method_1_code 9 = .ok (.invokespecial 11, 3)) (fun u1 H locs hu hP2 hD2 hS2 => ?_)
  clear hP hD hS
  subst hu
  have hP := hP2
  have hD := hD2
  have hS := hS2
  clear hP2 hD2 hS2
  have hP : va_P D classes ([(h0, .inr (1, [.null, .null, .null, .int 0, .int 0]))] ++ pw_PL cA u1) H := hP
  have hD : va_D A ([(h0, .inr (1, [.null, .null, .null, .int 0, .int 0]))] ++ pw_PL cA u1) := hD
  refine va_putF (D := D) (ci := 1) (v := .ref (u1 0)) (ty := .object "GathersAllFaults$Plan") (C := R1_) (T := T1_) (N := 5) hx hb hts ws1_in ty1_ ty1_ok nm1_ hown hKK hP hD hS 0 rfl rfl 0 (by decide) (hts _ (ALL_in 149 (by decide +kernel) rfl)) (fun _ h9 => h9) rfl hin rfl (by decide +kernel) rfl rfl (Nat.le_of_ble_eq_true rfl) (by decide +kernel : decode prog_3_method_1_code 12 = .ok (.putfield 12, 3)) (fun H locs hP hD hS => ?_)
  have hP : va_P D classes ([(h0, .inr (1, [.ref (u1 0), .null, .null, .int 0, .int 0]))] ++ pw_PL cA u1) H := hP
  have hD : va_D A ([(h0, .inr (1, [.ref (u1 0), .null, .null, .int 0, .int 0]))] ++ pw_PL cA u1) := hD
  refine lv_aload_n hx hb (by decide +kernel : decode prog_3_method_1_code 15 = .ok (.aload_n 0, 1)) rfl (lv_at hl 0 rfl) ?_
  refine va_new (ci := 3) (fs := [.null, .null, .null, .null, .null, .null, .int 0]) (C := R3_) (T := T3_) (N := 7) hx hb hts ws3_in ty3_ ty3_ok hown (hts _ (ALL_in 147 (by decide +kernel) rfl)) (hts _ (ALL_in 22 (by decide +kernel) rfl)) (hts _ (ALL_in 2 (by decide +kernel) rfl)) hKK hP hD hS hA rfl df3 (Nat.le_of_ble_eq_true rfl) (Nat.le_of_ble_eq_true rfl) (by decide +kernel : decode prog_3_method_1_code 16 = .ok (.new 18, 3)) (fun q2 H hP hD hS => ?_)
  have hP : va_P D classes ([(h0, .inr (1, [.ref (u1 0), .null, .null, .int 0, .int 0]))] ++ pw_PL cA u1 ++ [(q2, .inr (3, [.null, .null, .null, .null, .null, .null, .int 0]))]) H := hP
  have hD : va_D A ([(h0, .inr (1, [.ref (u1 0), .null, .null, .int 0, .int 0]))] ++ pw_PL cA u1 ++ [(q2, .inr (3, [.null, .null, .null, .null, .null, .null, .int 0]))]) := hD
  refine lv_dup hx hb (by decide +kernel : decode prog_3_method_1_code 19 = .ok (.dup, 1)) rfl ?_
  refine x_ctor (wr := [(h0, .inr (1, [.ref (u1 0), .null, .null, .int 0, .int 0]))] ++ pw_PL cA u1) k_TR lk_GA_20 hx hb hml hown hts hN hN2 hKK hP hD hS hA hl.1 (Nat.le_of_ble_eq_true rfl) ⟨Nat.le_of_ble_eq_true rfl, Nat.le_of_ble_eq_true rfl⟩ ⟨Nat.le_of_ble_eq_true rfl, Nat.le_of_ble_eq_true rfl⟩ (by decide +kernel : decode prog_3_method_1_code 20 = .ok (.invokespecial 20, 3)) (fun u2 H locs hu hP2 hD2 hS2 => ?_)
  clear hP hD hS
  subst hu
  have hP := hP2
  have hD := hD2
  have hS := hS2
  clear hP2 hD2 hS2
  have hP : va_P D classes ([(h0, .inr (1, [.ref (u1 0), .null, .null, .int 0, .int 0]))] ++ pw_PL cA u1 ++ pw_TR cA u2) H := hP
  have hD : va_D A ([(h0, .inr (1, [.ref (u1 0), .null, .null, .int 0, .int 0]))] ++ pw_PL cA u1 ++ pw_TR cA u2) := hD
  refine va_put (D := D) (ci := 1) (v := .ref (u2 0)) (ty := .object "GathersAllFaults$Tree") (C := R1_) (T := T1_) (N := 5) hx hb hts ws1_in ty1_ ty1_ok nm1_ hown hKK hP hD hS 0 rfl rfl 1 (by decide) (hts _ (ALL_in 151 (by decide +kernel) rfl)) (fun _ h9 => h9) rfl (by decide +kernel) rfl rfl (Nat.le_of_ble_eq_true rfl) (by decide +kernel : decode prog_3_method_1_code 23 = .ok (.putfield 21, 3)) (fun H locs hP hD hS => ?_)
  have hP : va_P D classes ([(h0, .inr (1, [.ref (u1 0), .ref (u2 0), .null, .int 0, .int 0]))] ++ pw_PL cA u1 ++ pw_TR cA u2) H := hP
  have hD : va_D A ([(h0, .inr (1, [.ref (u1 0), .ref (u2 0), .null, .int 0, .int 0]))] ++ pw_PL cA u1 ++ pw_TR cA u2) := hD
  refine lv_aload_n hx hb (by decide +kernel : decode prog_3_method_1_code 26 = .ok (.aload_n 0, 1)) rfl (lv_at hl 0 rfl) ?_
  refine lv_sipush (v := 6144) hx hb (by decide +kernel : decode prog_3_method_1_code 27 = .ok (.sipush 6144, 3)) (by decide) ?_
  refine x_newa hx hb hts hKK hP hD hS hA 6144 (by decide) (by decide) (Nat.le_of_ble_eq_true rfl) (Nat.le_of_ble_eq_true rfl) (Nat.le_of_ble_eq_true rfl) (by decide +kernel : decode prog_3_method_1_code 30 = .ok (.newarray .int, 2)) (fun q3 H hP hD hS => ?_)
  have hP : va_P D classes ([(h0, .inr (1, [.ref (u1 0), .ref (u2 0), .null, .int 0, .int 0]))] ++ pw_PL cA u1 ++ pw_TR cA u2 ++ [(q3, .inl (cA, 6144, .inl (fun _ => 0)))]) H := hP
  have hD : va_D A ([(h0, .inr (1, [.ref (u1 0), .ref (u2 0), .null, .int 0, .int 0]))] ++ pw_PL cA u1 ++ pw_TR cA u2 ++ [(q3, .inl (cA, 6144, .inl (fun _ => 0)))]) := hD
  refine va_putF (D := D) (ci := 1) (v := .ref q3) (ty := .array .int) (C := R1_) (T := T1_) (N := 5) hx hb hts ws1_in ty1_ ty1_ok nm1_ hown hKK hP hD hS 0 rfl rfl 2 (by decide) (hts _ (ALL_in 152 (by decide +kernel) rfl)) (fun _ h9 => h9) rfl hin rfl (by decide +kernel) rfl rfl (Nat.le_of_ble_eq_true rfl) (by decide +kernel : decode prog_3_method_1_code 32 = .ok (.putfield 25, 3)) (fun H locs hP hD hS => ?_)
  have hP : va_P D classes ([(h0, .inr (1, [.ref (u1 0), .ref (u2 0), .ref q3, .int 0, .int 0]))] ++ pw_PL cA u1 ++ pw_TR cA u2 ++ [(q3, .inl (cA, 6144, .inl (fun _ => 0)))]) H := hP
  have hD : va_D A ([(h0, .inr (1, [.ref (u1 0), .ref (u2 0), .ref q3, .int 0, .int 0]))] ++ pw_PL cA u1 ++ pw_TR cA u2 ++ [(q3, .inl (cA, 6144, .inl (fun _ => 0)))]) := hD
  refine W.widen (k := 22) (n := 6622) (Nat.le_of_ble_eq_true rfl) (Nat.le_of_ble_eq_true rfl) ?_
  exact W.vret hx hb hr (fun t ht hW => ⟨⟨(fun i => cond (Nat.blt i 1) (h0) (cond (Nat.blt i 15) (u1 (i - 1)) (cond (Nat.blt i 22) (u2 (i - 15)) (q3)))), rfl, rfl, by rw [ht]; exact hP, hD⟩, hS.F ht⟩) hS.2.2 (by decide +kernel : decode prog_3_method_1_code 35 = .ok (.return_, 1)) hlk
def pw_VR (cA : ClassId) (u : Nat → Nat) : va_W := [((u 0), .inr (4, [.ref (u 1), .int 0, .int 0, .int 0, .ref (u 2), .int 0])), ((u 1), .inl (cA, 96, .inl (fun _ => 0)))] ++ pw_TR cA (fun i => u (i + 2))
set_option maxHeartbeats 4000000 in
set_option maxRecDepth 100000 in
theorem k_VR : Ctor y_VR_init 2 8 223 4 [.null, .int 0, .int 0, .int 0, .null, .int 0] pw_VR := by
  refine ctor_of (by decide +kernel) rfl rfl ?_
  intro l D cA h0 A p e s m below meth c ls hx hb hml hown hr hlk hin hts hN hN2 hKK hA hP hD hS hl
  have hAA := hA
  refine lv_aload_n hx hb (by decide +kernel : decode prog_7_method_1_code 0 = .ok (.aload_n 0, 1)) rfl (lv_at hl 0 rfl) ?_
  refine x_ctor (wr := []) k_RDV lk_VR_3 hx hb hml hown hts hN hN2 hKK hP hD hS hA hl.1 (Nat.le_of_ble_eq_true rfl) ⟨Nat.le_of_ble_eq_true rfl, Nat.le_of_ble_eq_true rfl⟩ ⟨Nat.le_of_ble_eq_true rfl, Nat.le_of_ble_eq_true rfl⟩ (by decide +kernel : decode prog_7_method_1_code 1 = .ok (.invokespecial 3, 3)) (fun u1 H locs hu hP2 hD2 hS2 => ?_)
  clear hP hD hS
  subst hu
  have hP := hP2
  have hD := hD2
  have hS := hS2
  clear hP2 hD2 hS2
  have hP : va_P D classes ([((u1 0), .inr (4, [.ref (u1 1), .int 0, .int 0, .int 0, .null, .int 0])), ((u1 1), .inl (cA, 96, .inl (fun _ => 0)))]) H := hP
  have hD : va_D A ([((u1 0), .inr (4, [.ref (u1 1), .int 0, .int 0, .int 0, .null, .int 0])), ((u1 1), .inl (cA, 96, .inl (fun _ => 0)))]) := hD
  refine lv_aload_n hx hb (by decide +kernel : decode prog_7_method_1_code 4 = .ok (.aload_n 0, 1)) rfl (lv_at hl 0 rfl) ?_
  refine va_new (ci := 3) (fs := [.null, .null, .null, .null, .null, .null, .int 0]) (C := R3_) (T := T3_) (N := 7) hx hb hts ws3_in ty3_ ty3_ok hown (hts _ (ALL_in 177 (by decide +kernel) rfl)) (hts _ (ALL_in 22 (by decide +kernel) rfl)) (hts _ (ALL_in 2 (by decide +kernel) rfl)) hKK hP hD hS hA rfl df3 (Nat.le_of_ble_eq_true rfl) (Nat.le_of_ble_eq_true rfl) (by decide +kernel : decode prog_7_method_1_code 5 = .ok (.new 9, 3)) (fun q1 H hP hD hS => ?_)
  have hP : va_P D classes ([((u1 0), .inr (4, [.ref (u1 1), .int 0, .int 0, .int 0, .null, .int 0])), ((u1 1), .inl (cA, 96, .inl (fun _ => 0)))] ++ [(q1, .inr (3, [.null, .null, .null, .null, .null, .null, .int 0]))]) H := hP
  have hD : va_D A ([((u1 0), .inr (4, [.ref (u1 1), .int 0, .int 0, .int 0, .null, .int 0])), ((u1 1), .inl (cA, 96, .inl (fun _ => 0)))] ++ [(q1, .inr (3, [.null, .null, .null, .null, .null, .null, .int 0]))]) := hD
  refine lv_dup hx hb (by decide +kernel : decode prog_7_method_1_code 8 = .ok (.dup, 1)) rfl ?_
  refine x_ctor (wr := [((u1 0), .inr (4, [.ref (u1 1), .int 0, .int 0, .int 0, .null, .int 0])), ((u1 1), .inl (cA, 96, .inl (fun _ => 0)))]) k_TR lk_VR_11 hx hb hml hown hts hN hN2 hKK hP hD hS hA hl.1 (Nat.le_of_ble_eq_true rfl) ⟨Nat.le_of_ble_eq_true rfl, Nat.le_of_ble_eq_true rfl⟩ ⟨Nat.le_of_ble_eq_true rfl, Nat.le_of_ble_eq_true rfl⟩ (by decide +kernel : decode prog_7_method_1_code 9 = .ok (.invokespecial 11, 3)) (fun u2 H locs hu hP2 hD2 hS2 => ?_)
  clear hP hD hS
  subst hu
  have hP := hP2
  have hD := hD2
  have hS := hS2
  clear hP2 hD2 hS2
  have hP : va_P D classes ([((u1 0), .inr (4, [.ref (u1 1), .int 0, .int 0, .int 0, .null, .int 0])), ((u1 1), .inl (cA, 96, .inl (fun _ => 0)))] ++ pw_TR cA u2) H := hP
  have hD : va_D A ([((u1 0), .inr (4, [.ref (u1 1), .int 0, .int 0, .int 0, .null, .int 0])), ((u1 1), .inl (cA, 96, .inl (fun _ => 0)))] ++ pw_TR cA u2) := hD
  refine va_putF (D := D) (ci := 4) (v := .ref (u2 0)) (ty := .object "GathersAllFaults$Tree") (C := R4_) (T := T4_) (N := 6) hx hb hts ws4_in ty4_ ty4_ok nm4_ hown hKK hP hD hS 0 rfl rfl 4 (by decide) (hts _ (ALL_in 179 (by decide +kernel) rfl)) (fun _ h9 => h9) rfl hin rfl (by decide +kernel) rfl rfl (Nat.le_of_ble_eq_true rfl) (by decide +kernel : decode prog_7_method_1_code 12 = .ok (.putfield 12, 3)) (fun H locs hP hD hS => ?_)
  have hP : va_P D classes ([((u1 0), .inr (4, [.ref (u1 1), .int 0, .int 0, .int 0, .ref (u2 0), .int 0])), ((u1 1), .inl (cA, 96, .inl (fun _ => 0)))] ++ pw_TR cA u2) H := hP
  have hD : va_D A ([((u1 0), .inr (4, [.ref (u1 1), .int 0, .int 0, .int 0, .ref (u2 0), .int 0])), ((u1 1), .inl (cA, 96, .inl (fun _ => 0)))] ++ pw_TR cA u2) := hD
  refine W.widen (k := 8) (n := 223) (Nat.le_of_ble_eq_true rfl) (Nat.le_of_ble_eq_true rfl) ?_
  exact W.vret hx hb hr (fun t ht hW => ⟨⟨(fun i => cond (Nat.blt i 1) ((u1 0)) (cond (Nat.blt i 2) ((u1 1)) (u2 (i - 2)))), rfl, rfl, by rw [ht]; exact hP, hD⟩, hS.F ht⟩) hS.2.2 (by decide +kernel : decode prog_7_method_1_code 15 = .ok (.return_, 1)) hlk
def pw_CR (cA : ClassId) (u : Nat → Nat) : va_W := [((u 0), .inr (0, [.ref (u 1), .int 0, .int 0, .int 0, .ref (u 2), .ref (u 16), .int 0, .int 0, .int 0, .int 0, .int 0])), ((u 1), .inl (cA, 96, .inl (fun _ => 0)))] ++ pw_PL cA (fun i => u (i + 2)) ++ [((u 16), .inl (cA, 96, .inl (fun _ => 0)))]
set_option maxHeartbeats 4000000 in
set_option maxRecDepth 100000 in
theorem k_CR : Ctor y_CR_init 2 16 543 0 [.null, .int 0, .int 0, .int 0, .null, .null, .int 0, .int 0, .int 0, .int 0, .int 0] pw_CR := by
  refine ctor_of (by decide +kernel) rfl rfl ?_
  intro l D cA h0 A p e s m below meth c ls hx hb hml hown hr hlk hin hts hN hN2 hKK hA hP hD hS hl
  have hAA := hA
  refine lv_aload_n hx hb (by decide +kernel : decode prog_2_method_1_code 0 = .ok (.aload_n 0, 1)) rfl (lv_at hl 0 rfl) ?_
  refine x_ctor (wr := []) k_RDC lk_CR_3 hx hb hml hown hts hN hN2 hKK hP hD hS hA hl.1 (Nat.le_of_ble_eq_true rfl) ⟨Nat.le_of_ble_eq_true rfl, Nat.le_of_ble_eq_true rfl⟩ ⟨Nat.le_of_ble_eq_true rfl, Nat.le_of_ble_eq_true rfl⟩ (by decide +kernel : decode prog_2_method_1_code 1 = .ok (.invokespecial 3, 3)) (fun u1 H locs hu hP2 hD2 hS2 => ?_)
  clear hP hD hS
  subst hu
  have hP := hP2
  have hD := hD2
  have hS := hS2
  clear hP2 hD2 hS2
  have hP : va_P D classes ([((u1 0), .inr (0, [.ref (u1 1), .int 0, .int 0, .int 0, .null, .null, .int 0, .int 0, .int 0, .int 0, .int 0])), ((u1 1), .inl (cA, 96, .inl (fun _ => 0)))]) H := hP
  have hD : va_D A ([((u1 0), .inr (0, [.ref (u1 1), .int 0, .int 0, .int 0, .null, .null, .int 0, .int 0, .int 0, .int 0, .int 0])), ((u1 1), .inl (cA, 96, .inl (fun _ => 0)))]) := hD
  refine lv_aload_n hx hb (by decide +kernel : decode prog_2_method_1_code 4 = .ok (.aload_n 0, 1)) rfl (lv_at hl 0 rfl) ?_
  refine va_new (ci := 2) (fs := [.null, .null, .null, .null, .null, .null, .null, .null, .null, .null, .null, .null, .null, .int 0, .int 0]) (C := R2_) (T := T2_) (N := 15) hx hb hts ws2_in ty2_ ty2_ok hown (hts _ (ALL_in 217 (by decide +kernel) rfl)) (hts _ (ALL_in 74 (by decide +kernel) rfl)) (hts _ (ALL_in 4 (by decide +kernel) rfl)) hKK hP hD hS hA rfl df2 (Nat.le_of_ble_eq_true rfl) (Nat.le_of_ble_eq_true rfl) (by decide +kernel : decode prog_2_method_1_code 5 = .ok (.new 9, 3)) (fun q1 H hP hD hS => ?_)
  have hP : va_P D classes ([((u1 0), .inr (0, [.ref (u1 1), .int 0, .int 0, .int 0, .null, .null, .int 0, .int 0, .int 0, .int 0, .int 0])), ((u1 1), .inl (cA, 96, .inl (fun _ => 0)))] ++ [(q1, .inr (2, [.null, .null, .null, .null, .null, .null, .null, .null, .null, .null, .null, .null, .null, .int 0, .int 0]))]) H := hP
  have hD : va_D A ([((u1 0), .inr (0, [.ref (u1 1), .int 0, .int 0, .int 0, .null, .null, .int 0, .int 0, .int 0, .int 0, .int 0])), ((u1 1), .inl (cA, 96, .inl (fun _ => 0)))] ++ [(q1, .inr (2, [.null, .null, .null, .null, .null, .null, .null, .null, .null, .null, .null, .null, .null, .int 0, .int 0]))]) := hD
  refine lv_dup hx hb (by decide +kernel : decode prog_2_method_1_code 8 = .ok (.dup, 1)) rfl ?_
  refine x_ctor (wr := [((u1 0), .inr (0, [.ref (u1 1), .int 0, .int 0, .int 0, .null, .null, .int 0, .int 0, .int 0, .int 0, .int 0])), ((u1 1), .inl (cA, 96, .inl (fun _ => 0)))]) k_PL lk_CR_11 hx hb hml hown hts hN hN2 hKK hP hD hS hA hl.1 (Nat.le_of_ble_eq_true rfl) ⟨Nat.le_of_ble_eq_true rfl, Nat.le_of_ble_eq_true rfl⟩ ⟨Nat.le_of_ble_eq_true rfl, Nat.le_of_ble_eq_true rfl⟩ (by decide +kernel : decode prog_2_method_1_code 9 = .ok (.invokespecial 11, 3)) (fun u2 H locs hu hP2 hD2 hS2 => ?_)
  clear hP hD hS
  subst hu
  have hP := hP2
  have hD := hD2
  have hS := hS2
  clear hP2 hD2 hS2
  have hP : va_P D classes ([((u1 0), .inr (0, [.ref (u1 1), .int 0, .int 0, .int 0, .null, .null, .int 0, .int 0, .int 0, .int 0, .int 0])), ((u1 1), .inl (cA, 96, .inl (fun _ => 0)))] ++ pw_PL cA u2) H := hP
  have hD : va_D A ([((u1 0), .inr (0, [.ref (u1 1), .int 0, .int 0, .int 0, .null, .null, .int 0, .int 0, .int 0, .int 0, .int 0])), ((u1 1), .inl (cA, 96, .inl (fun _ => 0)))] ++ pw_PL cA u2) := hD
  refine va_putF (D := D) (ci := 0) (v := .ref (u2 0)) (ty := .object "GathersAllFaults$Plan") (C := R0_) (T := T0_) (N := 11) hx hb hts ws0_in ty0_ ty0_ok nm0_ hown hKK hP hD hS 0 rfl rfl 4 (by decide) (hts _ (ALL_in 219 (by decide +kernel) rfl)) (fun _ h9 => h9) rfl hin rfl (by decide +kernel) rfl rfl (Nat.le_of_ble_eq_true rfl) (by decide +kernel : decode prog_2_method_1_code 12 = .ok (.putfield 12, 3)) (fun H locs hP hD hS => ?_)
  have hP : va_P D classes ([((u1 0), .inr (0, [.ref (u1 1), .int 0, .int 0, .int 0, .ref (u2 0), .null, .int 0, .int 0, .int 0, .int 0, .int 0])), ((u1 1), .inl (cA, 96, .inl (fun _ => 0)))] ++ pw_PL cA u2) H := hP
  have hD : va_D A ([((u1 0), .inr (0, [.ref (u1 1), .int 0, .int 0, .int 0, .ref (u2 0), .null, .int 0, .int 0, .int 0, .int 0, .int 0])), ((u1 1), .inl (cA, 96, .inl (fun _ => 0)))] ++ pw_PL cA u2) := hD
  refine lv_aload_n hx hb (by decide +kernel : decode prog_2_method_1_code 15 = .ok (.aload_n 0, 1)) rfl (lv_at hl 0 rfl) ?_
  refine lv_bipush (v := 96) hx hb (by decide +kernel : decode prog_2_method_1_code 16 = .ok (.bipush 96, 2)) (by decide) ?_
  refine x_newa hx hb hts hKK hP hD hS hA 96 (by decide) (by decide) (Nat.le_of_ble_eq_true rfl) (Nat.le_of_ble_eq_true rfl) (Nat.le_of_ble_eq_true rfl) (by decide +kernel : decode prog_2_method_1_code 18 = .ok (.newarray .int, 2)) (fun q2 H hP hD hS => ?_)
  have hP : va_P D classes ([((u1 0), .inr (0, [.ref (u1 1), .int 0, .int 0, .int 0, .ref (u2 0), .null, .int 0, .int 0, .int 0, .int 0, .int 0])), ((u1 1), .inl (cA, 96, .inl (fun _ => 0)))] ++ pw_PL cA u2 ++ [(q2, .inl (cA, 96, .inl (fun _ => 0)))]) H := hP
  have hD : va_D A ([((u1 0), .inr (0, [.ref (u1 1), .int 0, .int 0, .int 0, .ref (u2 0), .null, .int 0, .int 0, .int 0, .int 0, .int 0])), ((u1 1), .inl (cA, 96, .inl (fun _ => 0)))] ++ pw_PL cA u2 ++ [(q2, .inl (cA, 96, .inl (fun _ => 0)))]) := hD
  refine va_putF (D := D) (ci := 0) (v := .ref q2) (ty := .array .int) (C := R0_) (T := T0_) (N := 11) hx hb hts ws0_in ty0_ ty0_ok nm0_ hown hKK hP hD hS 0 rfl rfl 5 (by decide) (hts _ (ALL_in 221 (by decide +kernel) rfl)) (fun _ h9 => h9) rfl hin rfl (by decide +kernel) rfl rfl (Nat.le_of_ble_eq_true rfl) (by decide +kernel : decode prog_2_method_1_code 20 = .ok (.putfield 18, 3)) (fun H locs hP hD hS => ?_)
  have hP : va_P D classes ([((u1 0), .inr (0, [.ref (u1 1), .int 0, .int 0, .int 0, .ref (u2 0), .ref q2, .int 0, .int 0, .int 0, .int 0, .int 0])), ((u1 1), .inl (cA, 96, .inl (fun _ => 0)))] ++ pw_PL cA u2 ++ [(q2, .inl (cA, 96, .inl (fun _ => 0)))]) H := hP
  have hD : va_D A ([((u1 0), .inr (0, [.ref (u1 1), .int 0, .int 0, .int 0, .ref (u2 0), .ref q2, .int 0, .int 0, .int 0, .int 0, .int 0])), ((u1 1), .inl (cA, 96, .inl (fun _ => 0)))] ++ pw_PL cA u2 ++ [(q2, .inl (cA, 96, .inl (fun _ => 0)))]) := hD
  refine W.widen (k := 16) (n := 543) (Nat.le_of_ble_eq_true rfl) (Nat.le_of_ble_eq_true rfl) ?_
  exact W.vret hx hb hr (fun t ht hW => ⟨⟨(fun i => cond (Nat.blt i 1) ((u1 0)) (cond (Nat.blt i 2) ((u1 1)) (cond (Nat.blt i 16) (u2 (i - 2)) (q2)))), rfl, rfl, by rw [ht]; exact hP, hD⟩, hS.F ht⟩) hS.2.2 (by decide +kernel : decode prog_2_method_1_code 23 = .ok (.return_, 1)) hlk
def pw_GF (cA : ClassId) (u : Nat → Nat) : va_W := [((u 0), .inr (5, [.ref (u 1), .ref (u 8), .ref (u 15), .ref (u 38), .ref (u 47), .ref (u 64), .int 0, .ref (u 65), .int 0, .ref (u 66), .ref (u 67), .ref (u 74), .int 0, .int 0]))] ++ pw_TR cA (fun i => u (i + 1)) ++ pw_TR cA (fun i => u (i + 8)) ++ pw_GA cA (fun i => u (i + 15)) ++ pw_VR cA (fun i => u (i + 38)) ++ pw_CR cA (fun i => u (i + 47)) ++ [((u 64), .inl (cA, 96, .inl (fun _ => 0))), ((u 65), .inl (cA, 32, .inl (fun _ => 0))), ((u 66), .inl (cA, 7, .inl (fun _ => 0)))] ++ pw_TR cA (fun i => u (i + 67)) ++ pw_PL cA (fun i => u (i + 74))
set_option maxHeartbeats 4000000 in
set_option maxRecDepth 100000 in
theorem k_GF : Ctor y_GF_init 3 87 8277 5 [.null, .null, .null, .null, .null, .null, .int 0, .null, .int 0, .null, .null, .null, .int 0, .int 0] pw_GF := by
  refine ctor_of (by decide +kernel) rfl rfl ?_
  intro l D cA h0 A p e s m below meth c ls hx hb hml hown hr hlk hin hts hN hN2 hKK hA hP hD hS hl
  have hAA := hA
  refine lv_aload_n hx hb (by decide +kernel : decode prog_1_method_1_code 0 = .ok (.aload_n 0, 1)) rfl (lv_at hl 0 rfl) ?_
  refine W.objInit hx hb hown (hts _ (ALL_in 18 (by decide +kernel) rfl)) (hts _ (ALL_in 19 (by decide +kernel) rfl)) (hts _ (ALL_in 20 (by decide +kernel) rfl)) rfl (by rw [hml]; exact hl.1) rfl (by decide +kernel : decode prog_1_method_1_code 1 = .ok (.invokespecial 1, 3)) (Nat.le_of_ble_eq_true rfl) (Nat.le_of_ble_eq_true rfl) ?_
  refine W.eq (g2 := F0 m 4 ls []) rfl ?_
  refine lv_aload_n hx hb (by decide +kernel : decode prog_1_method_1_code 4 = .ok (.aload_n 0, 1)) rfl (lv_at hl 0 rfl) ?_
  refine va_new (ci := 3) (fs := [.null, .null, .null, .null, .null, .null, .int 0]) (C := R3_) (T := T3_) (N := 7) hx hb hts ws3_in ty3_ ty3_ok hown (hts _ (ALL_in 21 (by decide +kernel) rfl)) (hts _ (ALL_in 22 (by decide +kernel) rfl)) (hts _ (ALL_in 2 (by decide +kernel) rfl)) hKK hP hD hS hA rfl df3 (Nat.le_of_ble_eq_true rfl) (Nat.le_of_ble_eq_true rfl) (by decide +kernel : decode prog_1_method_1_code 5 = .ok (.new 7, 3)) (fun q1 H hP hD hS => ?_)
  have hP : va_P D classes ([(h0, .inr (5, [.null, .null, .null, .null, .null, .null, .int 0, .null, .int 0, .null, .null, .null, .int 0, .int 0]))] ++ [(q1, .inr (3, [.null, .null, .null, .null, .null, .null, .int 0]))]) H := hP
  have hD : va_D A ([(h0, .inr (5, [.null, .null, .null, .null, .null, .null, .int 0, .null, .int 0, .null, .null, .null, .int 0, .int 0]))] ++ [(q1, .inr (3, [.null, .null, .null, .null, .null, .null, .int 0]))]) := hD
  refine lv_dup hx hb (by decide +kernel : decode prog_1_method_1_code 8 = .ok (.dup, 1)) rfl ?_
  refine x_ctor (wr := [(h0, .inr (5, [.null, .null, .null, .null, .null, .null, .int 0, .null, .int 0, .null, .null, .null, .int 0, .int 0]))]) k_TR lk_GF_9 hx hb hml hown hts hN hN2 hKK hP hD hS hA hl.1 (Nat.le_of_ble_eq_true rfl) ⟨Nat.le_of_ble_eq_true rfl, Nat.le_of_ble_eq_true rfl⟩ ⟨Nat.le_of_ble_eq_true rfl, Nat.le_of_ble_eq_true rfl⟩ (by decide +kernel : decode prog_1_method_1_code 9 = .ok (.invokespecial 9, 3)) (fun u1 H locs hu hP2 hD2 hS2 => ?_)
  clear hP hD hS
  subst hu
  have hP := hP2
  have hD := hD2
  have hS := hS2
  clear hP2 hD2 hS2
  have hP : va_P D classes ([(h0, .inr (5, [.null, .null, .null, .null, .null, .null, .int 0, .null, .int 0, .null, .null, .null, .int 0, .int 0]))] ++ pw_TR cA u1) H := hP
  have hD : va_D A ([(h0, .inr (5, [.null, .null, .null, .null, .null, .null, .int 0, .null, .int 0, .null, .null, .null, .int 0, .int 0]))] ++ pw_TR cA u1) := hD
  refine va_putF (D := D) (ci := 5) (v := .ref (u1 0)) (ty := .object "GathersAllFaults$Tree") (C := R5_) (T := T5_) (N := 14) hx hb hts ws5_in ty5_ ty5_ok nm5_ hown hKK hP hD hS 0 rfl rfl 0 (by decide) (hts _ (ALL_in 248 (by decide +kernel) rfl)) (fun _ h9 => h9) rfl hin rfl (by decide +kernel) rfl rfl (Nat.le_of_ble_eq_true rfl) (by decide +kernel : decode prog_1_method_1_code 12 = .ok (.putfield 10, 3)) (fun H locs hP hD hS => ?_)
  have hP : va_P D classes ([(h0, .inr (5, [.ref (u1 0), .null, .null, .null, .null, .null, .int 0, .null, .int 0, .null, .null, .null, .int 0, .int 0]))] ++ pw_TR cA u1) H := hP
  have hD : va_D A ([(h0, .inr (5, [.ref (u1 0), .null, .null, .null, .null, .null, .int 0, .null, .int 0, .null, .null, .null, .int 0, .int 0]))] ++ pw_TR cA u1) := hD
  refine lv_aload_n hx hb (by decide +kernel : decode prog_1_method_1_code 15 = .ok (.aload_n 0, 1)) rfl (lv_at hl 0 rfl) ?_
  refine va_new (ci := 3) (fs := [.null, .null, .null, .null, .null, .null, .int 0]) (C := R3_) (T := T3_) (N := 7) hx hb hts ws3_in ty3_ ty3_ok hown (hts _ (ALL_in 21 (by decide +kernel) rfl)) (hts _ (ALL_in 22 (by decide +kernel) rfl)) (hts _ (ALL_in 2 (by decide +kernel) rfl)) hKK hP hD hS hA rfl df3 (Nat.le_of_ble_eq_true rfl) (Nat.le_of_ble_eq_true rfl) (by decide +kernel : decode prog_1_method_1_code 16 = .ok (.new 7, 3)) (fun q2 H hP hD hS => ?_)
  have hP : va_P D classes ([(h0, .inr (5, [.ref (u1 0), .null, .null, .null, .null, .null, .int 0, .null, .int 0, .null, .null, .null, .int 0, .int 0]))] ++ pw_TR cA u1 ++ [(q2, .inr (3, [.null, .null, .null, .null, .null, .null, .int 0]))]) H := hP
  have hD : va_D A ([(h0, .inr (5, [.ref (u1 0), .null, .null, .null, .null, .null, .int 0, .null, .int 0, .null, .null, .null, .int 0, .int 0]))] ++ pw_TR cA u1 ++ [(q2, .inr (3, [.null, .null, .null, .null, .null, .null, .int 0]))]) := hD
  refine lv_dup hx hb (by decide +kernel : decode prog_1_method_1_code 19 = .ok (.dup, 1)) rfl ?_
  refine x_ctor (wr := [(h0, .inr (5, [.ref (u1 0), .null, .null, .null, .null, .null, .int 0, .null, .int 0, .null, .null, .null, .int 0, .int 0]))] ++ pw_TR cA u1) k_TR lk_GF_9 hx hb hml hown hts hN hN2 hKK hP hD hS hA hl.1 (Nat.le_of_ble_eq_true rfl) ⟨Nat.le_of_ble_eq_true rfl, Nat.le_of_ble_eq_true rfl⟩ ⟨Nat.le_of_ble_eq_true rfl, Nat.le_of_ble_eq_true rfl⟩ (by decide +kernel : decode prog_1_method_1_code 20 = .ok (.invokespecial 9, 3)) (fun u2 H locs hu hP2 hD2 hS2 => ?_)
  clear hP hD hS
  subst hu
  have hP := hP2
  have hD := hD2
  have hS := hS2
  clear hP2 hD2 hS2
  have hP : va_P D classes ([(h0, .inr (5, [.ref (u1 0), .null, .null, .null, .null, .null, .int 0, .null, .int 0, .null, .null, .null, .int 0, .int 0]))] ++ pw_TR cA u1 ++ pw_TR cA u2) H := hP
  have hD : va_D A ([(h0, .inr (5, [.ref (u1 0), .null, .null, .null, .null, .null, .int 0, .null, .int 0, .null, .null, .null, .int 0, .int 0]))] ++ pw_TR cA u1 ++ pw_TR cA u2) := hD
  refine va_putF (D := D) (ci := 5) (v := .ref (u2 0)) (ty := .object "GathersAllFaults$Tree") (C := R5_) (T := T5_) (N := 14) hx hb hts ws5_in ty5_ ty5_ok nm5_ hown hKK hP hD hS 0 rfl rfl 1 (by decide) (hts _ (ALL_in 249 (by decide +kernel) rfl)) (fun _ h9 => h9) rfl hin rfl (by decide +kernel) rfl rfl (Nat.le_of_ble_eq_true rfl) (by decide +kernel : decode prog_1_method_1_code 23 = .ok (.putfield 16, 3)) (fun H locs hP hD hS => ?_)
  have hP : va_P D classes ([(h0, .inr (5, [.ref (u1 0), .ref (u2 0), .null, .null, .null, .null, .int 0, .null, .int 0, .null, .null, .null, .int 0, .int 0]))] ++ pw_TR cA u1 ++ pw_TR cA u2) H := hP
  have hD : va_D A ([(h0, .inr (5, [.ref (u1 0), .ref (u2 0), .null, .null, .null, .null, .int 0, .null, .int 0, .null, .null, .null, .int 0, .int 0]))] ++ pw_TR cA u1 ++ pw_TR cA u2) := hD
  refine lv_aload_n hx hb (by decide +kernel : decode prog_1_method_1_code 26 = .ok (.aload_n 0, 1)) rfl (lv_at hl 0 rfl) ?_
  refine va_new (ci := 1) (fs := [.null, .null, .null, .int 0, .int 0]) (C := R1_) (T := T1_) (N := 5) hx hb hts ws1_in ty1_ ty1_ok hown (hts _ (ALL_in 67 (by decide +kernel) rfl)) (hts _ (ALL_in 68 (by decide +kernel) rfl)) (hts _ (ALL_in 3 (by decide +kernel) rfl)) hKK hP hD hS hA rfl df1 (Nat.le_of_ble_eq_true rfl) (Nat.le_of_ble_eq_true rfl) (by decide +kernel : decode prog_1_method_1_code 27 = .ok (.new 19, 3)) (fun q3 H hP hD hS => ?_)
  have hP : va_P D classes ([(h0, .inr (5, [.ref (u1 0), .ref (u2 0), .null, .null, .null, .null, .int 0, .null, .int 0, .null, .null, .null, .int 0, .int 0]))] ++ pw_TR cA u1 ++ pw_TR cA u2 ++ [(q3, .inr (1, [.null, .null, .null, .int 0, .int 0]))]) H := hP
  have hD : va_D A ([(h0, .inr (5, [.ref (u1 0), .ref (u2 0), .null, .null, .null, .null, .int 0, .null, .int 0, .null, .null, .null, .int 0, .int 0]))] ++ pw_TR cA u1 ++ pw_TR cA u2 ++ [(q3, .inr (1, [.null, .null, .null, .int 0, .int 0]))]) := hD
  refine lv_dup hx hb (by decide +kernel : decode prog_1_method_1_code 30 = .ok (.dup, 1)) rfl ?_
  refine x_ctor (wr := [(h0, .inr (5, [.ref (u1 0), .ref (u2 0), .null, .null, .null, .null, .int 0, .null, .int 0, .null, .null, .null, .int 0, .int 0]))] ++ pw_TR cA u1 ++ pw_TR cA u2) k_GA lk_GF_21 hx hb hml hown hts hN hN2 hKK hP hD hS hA hl.1 (Nat.le_of_ble_eq_true rfl) ⟨Nat.le_of_ble_eq_true rfl, Nat.le_of_ble_eq_true rfl⟩ ⟨Nat.le_of_ble_eq_true rfl, Nat.le_of_ble_eq_true rfl⟩ (by decide +kernel : decode prog_1_method_1_code 31 = .ok (.invokespecial 21, 3)) (fun u3 H locs hu hP2 hD2 hS2 => ?_)
  clear hP hD hS
  subst hu
  have hP := hP2
  have hD := hD2
  have hS := hS2
  clear hP2 hD2 hS2
  have hP : va_P D classes ([(h0, .inr (5, [.ref (u1 0), .ref (u2 0), .null, .null, .null, .null, .int 0, .null, .int 0, .null, .null, .null, .int 0, .int 0]))] ++ pw_TR cA u1 ++ pw_TR cA u2 ++ pw_GA cA u3) H := hP
  have hD : va_D A ([(h0, .inr (5, [.ref (u1 0), .ref (u2 0), .null, .null, .null, .null, .int 0, .null, .int 0, .null, .null, .null, .int 0, .int 0]))] ++ pw_TR cA u1 ++ pw_TR cA u2 ++ pw_GA cA u3) := hD
  refine va_putF (D := D) (ci := 5) (v := .ref (u3 0)) (ty := .object "GathersAllFaults$Gatherer") (C := R5_) (T := T5_) (N := 14) hx hb hts ws5_in ty5_ ty5_ok nm5_ hown hKK hP hD hS 0 rfl rfl 2 (by decide) (hts _ (ALL_in 250 (by decide +kernel) rfl)) (fun _ h9 => h9) rfl hin rfl (by decide +kernel) rfl rfl (Nat.le_of_ble_eq_true rfl) (by decide +kernel : decode prog_1_method_1_code 34 = .ok (.putfield 22, 3)) (fun H locs hP hD hS => ?_)
  have hP : va_P D classes ([(h0, .inr (5, [.ref (u1 0), .ref (u2 0), .ref (u3 0), .null, .null, .null, .int 0, .null, .int 0, .null, .null, .null, .int 0, .int 0]))] ++ pw_TR cA u1 ++ pw_TR cA u2 ++ pw_GA cA u3) H := hP
  have hD : va_D A ([(h0, .inr (5, [.ref (u1 0), .ref (u2 0), .ref (u3 0), .null, .null, .null, .int 0, .null, .int 0, .null, .null, .null, .int 0, .int 0]))] ++ pw_TR cA u1 ++ pw_TR cA u2 ++ pw_GA cA u3) := hD
  refine lv_aload_n hx hb (by decide +kernel : decode prog_1_method_1_code 37 = .ok (.aload_n 0, 1)) rfl (lv_at hl 0 rfl) ?_
  refine va_new (ci := 4) (fs := [.null, .int 0, .int 0, .int 0, .null, .int 0]) (C := R4_) (T := T4_) (N := 6) hx hb hts ws4_in ty4_ ty4_ok hown (hts _ (ALL_in 168 (by decide +kernel) rfl)) (hts _ (ALL_in 169 (by decide +kernel) rfl)) (hts _ (ALL_in 6 (by decide +kernel) rfl)) hKK hP hD hS hA rfl df4 (Nat.le_of_ble_eq_true rfl) (Nat.le_of_ble_eq_true rfl) (by decide +kernel : decode prog_1_method_1_code 38 = .ok (.new 26, 3)) (fun q4 H hP hD hS => ?_)
  have hP : va_P D classes ([(h0, .inr (5, [.ref (u1 0), .ref (u2 0), .ref (u3 0), .null, .null, .null, .int 0, .null, .int 0, .null, .null, .null, .int 0, .int 0]))] ++ pw_TR cA u1 ++ pw_TR cA u2 ++ pw_GA cA u3 ++ [(q4, .inr (4, [.null, .int 0, .int 0, .int 0, .null, .int 0]))]) H := hP
  have hD : va_D A ([(h0, .inr (5, [.ref (u1 0), .ref (u2 0), .ref (u3 0), .null, .null, .null, .int 0, .null, .int 0, .null, .null, .null, .int 0, .int 0]))] ++ pw_TR cA u1 ++ pw_TR cA u2 ++ pw_GA cA u3 ++ [(q4, .inr (4, [.null, .int 0, .int 0, .int 0, .null, .int 0]))]) := hD
  refine lv_dup hx hb (by decide +kernel : decode prog_1_method_1_code 41 = .ok (.dup, 1)) rfl ?_
  refine x_ctor (wr := [(h0, .inr (5, [.ref (u1 0), .ref (u2 0), .ref (u3 0), .null, .null, .null, .int 0, .null, .int 0, .null, .null, .null, .int 0, .int 0]))] ++ pw_TR cA u1 ++ pw_TR cA u2 ++ pw_GA cA u3) k_VR lk_GF_28 hx hb hml hown hts hN hN2 hKK hP hD hS hA hl.1 (Nat.le_of_ble_eq_true rfl) ⟨Nat.le_of_ble_eq_true rfl, Nat.le_of_ble_eq_true rfl⟩ ⟨Nat.le_of_ble_eq_true rfl, Nat.le_of_ble_eq_true rfl⟩ (by decide +kernel : decode prog_1_method_1_code 42 = .ok (.invokespecial 28, 3)) (fun u4 H locs hu hP2 hD2 hS2 => ?_)
  clear hP hD hS
  subst hu
  have hP := hP2
  have hD := hD2
  have hS := hS2
  clear hP2 hD2 hS2
  have hP : va_P D classes ([(h0, .inr (5, [.ref (u1 0), .ref (u2 0), .ref (u3 0), .null, .null, .null, .int 0, .null, .int 0, .null, .null, .null, .int 0, .int 0]))] ++ pw_TR cA u1 ++ pw_TR cA u2 ++ pw_GA cA u3 ++ pw_VR cA u4) H := hP
  have hD : va_D A ([(h0, .inr (5, [.ref (u1 0), .ref (u2 0), .ref (u3 0), .null, .null, .null, .int 0, .null, .int 0, .null, .null, .null, .int 0, .int 0]))] ++ pw_TR cA u1 ++ pw_TR cA u2 ++ pw_GA cA u3 ++ pw_VR cA u4) := hD
  refine va_putF (D := D) (ci := 5) (v := .ref (u4 0)) (ty := .object "GathersAllFaults$ValueReader") (C := R5_) (T := T5_) (N := 14) hx hb hts ws5_in ty5_ ty5_ok nm5_ hown hKK hP hD hS 0 rfl rfl 3 (by decide) (hts _ (ALL_in 251 (by decide +kernel) rfl)) (fun _ h9 => h9) rfl hin rfl (by decide +kernel) rfl rfl (Nat.le_of_ble_eq_true rfl) (by decide +kernel : decode prog_1_method_1_code 45 = .ok (.putfield 29, 3)) (fun H locs hP hD hS => ?_)
  have hP : va_P D classes ([(h0, .inr (5, [.ref (u1 0), .ref (u2 0), .ref (u3 0), .ref (u4 0), .null, .null, .int 0, .null, .int 0, .null, .null, .null, .int 0, .int 0]))] ++ pw_TR cA u1 ++ pw_TR cA u2 ++ pw_GA cA u3 ++ pw_VR cA u4) H := hP
  have hD : va_D A ([(h0, .inr (5, [.ref (u1 0), .ref (u2 0), .ref (u3 0), .ref (u4 0), .null, .null, .int 0, .null, .int 0, .null, .null, .null, .int 0, .int 0]))] ++ pw_TR cA u1 ++ pw_TR cA u2 ++ pw_GA cA u3 ++ pw_VR cA u4) := hD
  refine lv_aload_n hx hb (by decide +kernel : decode prog_1_method_1_code 48 = .ok (.aload_n 0, 1)) rfl (lv_at hl 0 rfl) ?_
  refine va_new (ci := 0) (fs := [.null, .int 0, .int 0, .int 0, .null, .null, .int 0, .int 0, .int 0, .int 0, .int 0]) (C := R0_) (T := T0_) (N := 11) hx hb hts ws0_in ty0_ ty0_ok hown (hts _ (ALL_in 211 (by decide +kernel) rfl)) (hts _ (ALL_in 212 (by decide +kernel) rfl)) (hts _ (ALL_in 7 (by decide +kernel) rfl)) hKK hP hD hS hA rfl df0 (Nat.le_of_ble_eq_true rfl) (Nat.le_of_ble_eq_true rfl) (by decide +kernel : decode prog_1_method_1_code 49 = .ok (.new 33, 3)) (fun q5 H hP hD hS => ?_)
  have hP : va_P D classes ([(h0, .inr (5, [.ref (u1 0), .ref (u2 0), .ref (u3 0), .ref (u4 0), .null, .null, .int 0, .null, .int 0, .null, .null, .null, .int 0, .int 0]))] ++ pw_TR cA u1 ++ pw_TR cA u2 ++ pw_GA cA u3 ++ pw_VR cA u4 ++ [(q5, .inr (0, [.null, .int 0, .int 0, .int 0, .null, .null, .int 0, .int 0, .int 0, .int 0, .int 0]))]) H := hP
  have hD : va_D A ([(h0, .inr (5, [.ref (u1 0), .ref (u2 0), .ref (u3 0), .ref (u4 0), .null, .null, .int 0, .null, .int 0, .null, .null, .null, .int 0, .int 0]))] ++ pw_TR cA u1 ++ pw_TR cA u2 ++ pw_GA cA u3 ++ pw_VR cA u4 ++ [(q5, .inr (0, [.null, .int 0, .int 0, .int 0, .null, .null, .int 0, .int 0, .int 0, .int 0, .int 0]))]) := hD
  refine lv_dup hx hb (by decide +kernel : decode prog_1_method_1_code 52 = .ok (.dup, 1)) rfl ?_
  refine x_ctor (wr := [(h0, .inr (5, [.ref (u1 0), .ref (u2 0), .ref (u3 0), .ref (u4 0), .null, .null, .int 0, .null, .int 0, .null, .null, .null, .int 0, .int 0]))] ++ pw_TR cA u1 ++ pw_TR cA u2 ++ pw_GA cA u3 ++ pw_VR cA u4) k_CR lk_GF_35 hx hb hml hown hts hN hN2 hKK hP hD hS hA hl.1 (Nat.le_of_ble_eq_true rfl) ⟨Nat.le_of_ble_eq_true rfl, Nat.le_of_ble_eq_true rfl⟩ ⟨Nat.le_of_ble_eq_true rfl, Nat.le_of_ble_eq_true rfl⟩ (by decide +kernel : decode prog_1_method_1_code 53 = .ok (.invokespecial 35, 3)) (fun u5 H locs hu hP2 hD2 hS2 => ?_)
  clear hP hD hS
  subst hu
  have hP := hP2
  have hD := hD2
  have hS := hS2
  clear hP2 hD2 hS2
  have hP : va_P D classes ([(h0, .inr (5, [.ref (u1 0), .ref (u2 0), .ref (u3 0), .ref (u4 0), .null, .null, .int 0, .null, .int 0, .null, .null, .null, .int 0, .int 0]))] ++ pw_TR cA u1 ++ pw_TR cA u2 ++ pw_GA cA u3 ++ pw_VR cA u4 ++ pw_CR cA u5) H := hP
  have hD : va_D A ([(h0, .inr (5, [.ref (u1 0), .ref (u2 0), .ref (u3 0), .ref (u4 0), .null, .null, .int 0, .null, .int 0, .null, .null, .null, .int 0, .int 0]))] ++ pw_TR cA u1 ++ pw_TR cA u2 ++ pw_GA cA u3 ++ pw_VR cA u4 ++ pw_CR cA u5) := hD
  refine va_putF (D := D) (ci := 5) (v := .ref (u5 0)) (ty := .object "GathersAllFaults$CheckReader") (C := R5_) (T := T5_) (N := 14) hx hb hts ws5_in ty5_ ty5_ok nm5_ hown hKK hP hD hS 0 rfl rfl 4 (by decide) (hts _ (ALL_in 252 (by decide +kernel) rfl)) (fun _ h9 => h9) rfl hin rfl (by decide +kernel) rfl rfl (Nat.le_of_ble_eq_true rfl) (by decide +kernel : decode prog_1_method_1_code 56 = .ok (.putfield 36, 3)) (fun H locs hP hD hS => ?_)
  have hP : va_P D classes ([(h0, .inr (5, [.ref (u1 0), .ref (u2 0), .ref (u3 0), .ref (u4 0), .ref (u5 0), .null, .int 0, .null, .int 0, .null, .null, .null, .int 0, .int 0]))] ++ pw_TR cA u1 ++ pw_TR cA u2 ++ pw_GA cA u3 ++ pw_VR cA u4 ++ pw_CR cA u5) H := hP
  have hD : va_D A ([(h0, .inr (5, [.ref (u1 0), .ref (u2 0), .ref (u3 0), .ref (u4 0), .ref (u5 0), .null, .int 0, .null, .int 0, .null, .null, .null, .int 0, .int 0]))] ++ pw_TR cA u1 ++ pw_TR cA u2 ++ pw_GA cA u3 ++ pw_VR cA u4 ++ pw_CR cA u5) := hD
  refine lv_aload_n hx hb (by decide +kernel : decode prog_1_method_1_code 59 = .ok (.aload_n 0, 1)) rfl (lv_at hl 0 rfl) ?_
  refine lv_bipush (v := 96) hx hb (by decide +kernel : decode prog_1_method_1_code 60 = .ok (.bipush 96, 2)) (by decide) ?_
  refine x_newa hx hb hts hKK hP hD hS hA 96 (by decide) (by decide) (Nat.le_of_ble_eq_true rfl) (Nat.le_of_ble_eq_true rfl) (Nat.le_of_ble_eq_true rfl) (by decide +kernel : decode prog_1_method_1_code 62 = .ok (.newarray .int, 2)) (fun q6 H hP hD hS => ?_)
  have hP : va_P D classes ([(h0, .inr (5, [.ref (u1 0), .ref (u2 0), .ref (u3 0), .ref (u4 0), .ref (u5 0), .null, .int 0, .null, .int 0, .null, .null, .null, .int 0, .int 0]))] ++ pw_TR cA u1 ++ pw_TR cA u2 ++ pw_GA cA u3 ++ pw_VR cA u4 ++ pw_CR cA u5 ++ [(q6, .inl (cA, 96, .inl (fun _ => 0)))]) H := hP
  have hD : va_D A ([(h0, .inr (5, [.ref (u1 0), .ref (u2 0), .ref (u3 0), .ref (u4 0), .ref (u5 0), .null, .int 0, .null, .int 0, .null, .null, .null, .int 0, .int 0]))] ++ pw_TR cA u1 ++ pw_TR cA u2 ++ pw_GA cA u3 ++ pw_VR cA u4 ++ pw_CR cA u5 ++ [(q6, .inl (cA, 96, .inl (fun _ => 0)))]) := hD
  refine va_putF (D := D) (ci := 5) (v := .ref q6) (ty := .array .int) (C := R5_) (T := T5_) (N := 14) hx hb hts ws5_in ty5_ ty5_ok nm5_ hown hKK hP hD hS 0 rfl rfl 5 (by decide) (hts _ (ALL_in 253 (by decide +kernel) rfl)) (fun _ h9 => h9) rfl hin rfl (by decide +kernel) rfl rfl (Nat.le_of_ble_eq_true rfl) (by decide +kernel : decode prog_1_method_1_code 64 = .ok (.putfield 40, 3)) (fun H locs hP hD hS => ?_)
  have hP : va_P D classes ([(h0, .inr (5, [.ref (u1 0), .ref (u2 0), .ref (u3 0), .ref (u4 0), .ref (u5 0), .ref q6, .int 0, .null, .int 0, .null, .null, .null, .int 0, .int 0]))] ++ pw_TR cA u1 ++ pw_TR cA u2 ++ pw_GA cA u3 ++ pw_VR cA u4 ++ pw_CR cA u5 ++ [(q6, .inl (cA, 96, .inl (fun _ => 0)))]) H := hP
  have hD : va_D A ([(h0, .inr (5, [.ref (u1 0), .ref (u2 0), .ref (u3 0), .ref (u4 0), .ref (u5 0), .ref q6, .int 0, .null, .int 0, .null, .null, .null, .int 0, .int 0]))] ++ pw_TR cA u1 ++ pw_TR cA u2 ++ pw_GA cA u3 ++ pw_VR cA u4 ++ pw_CR cA u5 ++ [(q6, .inl (cA, 96, .inl (fun _ => 0)))]) := hD
  refine lv_aload_n hx hb (by decide +kernel : decode prog_1_method_1_code 67 = .ok (.aload_n 0, 1)) rfl (lv_at hl 0 rfl) ?_
  refine lv_bipush (v := 32) hx hb (by decide +kernel : decode prog_1_method_1_code 68 = .ok (.bipush 32, 2)) (by decide) ?_
  refine x_newa hx hb hts hKK hP hD hS hA 32 (by decide) (by decide) (Nat.le_of_ble_eq_true rfl) (Nat.le_of_ble_eq_true rfl) (Nat.le_of_ble_eq_true rfl) (by decide +kernel : decode prog_1_method_1_code 70 = .ok (.newarray .int, 2)) (fun q7 H hP hD hS => ?_)
  have hP : va_P D classes ([(h0, .inr (5, [.ref (u1 0), .ref (u2 0), .ref (u3 0), .ref (u4 0), .ref (u5 0), .ref q6, .int 0, .null, .int 0, .null, .null, .null, .int 0, .int 0]))] ++ pw_TR cA u1 ++ pw_TR cA u2 ++ pw_GA cA u3 ++ pw_VR cA u4 ++ pw_CR cA u5 ++ [(q6, .inl (cA, 96, .inl (fun _ => 0))), (q7, .inl (cA, 32, .inl (fun _ => 0)))]) H := hP
  have hD : va_D A ([(h0, .inr (5, [.ref (u1 0), .ref (u2 0), .ref (u3 0), .ref (u4 0), .ref (u5 0), .ref q6, .int 0, .null, .int 0, .null, .null, .null, .int 0, .int 0]))] ++ pw_TR cA u1 ++ pw_TR cA u2 ++ pw_GA cA u3 ++ pw_VR cA u4 ++ pw_CR cA u5 ++ [(q6, .inl (cA, 96, .inl (fun _ => 0))), (q7, .inl (cA, 32, .inl (fun _ => 0)))]) := hD
  refine va_putF (D := D) (ci := 5) (v := .ref q7) (ty := .array .int) (C := R5_) (T := T5_) (N := 14) hx hb hts ws5_in ty5_ ty5_ok nm5_ hown hKK hP hD hS 0 rfl rfl 7 (by decide) (hts _ (ALL_in 255 (by decide +kernel) rfl)) (fun _ h9 => h9) rfl hin rfl (by decide +kernel) rfl rfl (Nat.le_of_ble_eq_true rfl) (by decide +kernel : decode prog_1_method_1_code 72 = .ok (.putfield 44, 3)) (fun H locs hP hD hS => ?_)
  have hP : va_P D classes ([(h0, .inr (5, [.ref (u1 0), .ref (u2 0), .ref (u3 0), .ref (u4 0), .ref (u5 0), .ref q6, .int 0, .ref q7, .int 0, .null, .null, .null, .int 0, .int 0]))] ++ pw_TR cA u1 ++ pw_TR cA u2 ++ pw_GA cA u3 ++ pw_VR cA u4 ++ pw_CR cA u5 ++ [(q6, .inl (cA, 96, .inl (fun _ => 0))), (q7, .inl (cA, 32, .inl (fun _ => 0)))]) H := hP
  have hD : va_D A ([(h0, .inr (5, [.ref (u1 0), .ref (u2 0), .ref (u3 0), .ref (u4 0), .ref (u5 0), .ref q6, .int 0, .ref q7, .int 0, .null, .null, .null, .int 0, .int 0]))] ++ pw_TR cA u1 ++ pw_TR cA u2 ++ pw_GA cA u3 ++ pw_VR cA u4 ++ pw_CR cA u5 ++ [(q6, .inl (cA, 96, .inl (fun _ => 0))), (q7, .inl (cA, 32, .inl (fun _ => 0)))]) := hD
  refine lv_aload_n hx hb (by decide +kernel : decode prog_1_method_1_code 75 = .ok (.aload_n 0, 1)) rfl (lv_at hl 0 rfl) ?_
  refine lv_bipush (v := 7) hx hb (by decide +kernel : decode prog_1_method_1_code 76 = .ok (.bipush 7, 2)) (by decide) ?_
  refine x_newa hx hb hts hKK hP hD hS hA 7 (by decide) (by decide) (Nat.le_of_ble_eq_true rfl) (Nat.le_of_ble_eq_true rfl) (Nat.le_of_ble_eq_true rfl) (by decide +kernel : decode prog_1_method_1_code 78 = .ok (.newarray .int, 2)) (fun q8 H hP hD hS => ?_)
  have hP : va_P D classes ([(h0, .inr (5, [.ref (u1 0), .ref (u2 0), .ref (u3 0), .ref (u4 0), .ref (u5 0), .ref q6, .int 0, .ref q7, .int 0, .null, .null, .null, .int 0, .int 0]))] ++ pw_TR cA u1 ++ pw_TR cA u2 ++ pw_GA cA u3 ++ pw_VR cA u4 ++ pw_CR cA u5 ++ [(q6, .inl (cA, 96, .inl (fun _ => 0))), (q7, .inl (cA, 32, .inl (fun _ => 0))), (q8, .inl (cA, 7, .inl (fun _ => 0)))]) H := hP
  have hD : va_D A ([(h0, .inr (5, [.ref (u1 0), .ref (u2 0), .ref (u3 0), .ref (u4 0), .ref (u5 0), .ref q6, .int 0, .ref q7, .int 0, .null, .null, .null, .int 0, .int 0]))] ++ pw_TR cA u1 ++ pw_TR cA u2 ++ pw_GA cA u3 ++ pw_VR cA u4 ++ pw_CR cA u5 ++ [(q6, .inl (cA, 96, .inl (fun _ => 0))), (q7, .inl (cA, 32, .inl (fun _ => 0))), (q8, .inl (cA, 7, .inl (fun _ => 0)))]) := hD
  refine va_putF (D := D) (ci := 5) (v := .ref q8) (ty := .array .int) (C := R5_) (T := T5_) (N := 14) hx hb hts ws5_in ty5_ ty5_ok nm5_ hown hKK hP hD hS 0 rfl rfl 9 (by decide) (hts _ (ALL_in 257 (by decide +kernel) rfl)) (fun _ h9 => h9) rfl hin rfl (by decide +kernel) rfl rfl (Nat.le_of_ble_eq_true rfl) (by decide +kernel : decode prog_1_method_1_code 80 = .ok (.putfield 47, 3)) (fun H locs hP hD hS => ?_)
  have hP : va_P D classes ([(h0, .inr (5, [.ref (u1 0), .ref (u2 0), .ref (u3 0), .ref (u4 0), .ref (u5 0), .ref q6, .int 0, .ref q7, .int 0, .ref q8, .null, .null, .int 0, .int 0]))] ++ pw_TR cA u1 ++ pw_TR cA u2 ++ pw_GA cA u3 ++ pw_VR cA u4 ++ pw_CR cA u5 ++ [(q6, .inl (cA, 96, .inl (fun _ => 0))), (q7, .inl (cA, 32, .inl (fun _ => 0))), (q8, .inl (cA, 7, .inl (fun _ => 0)))]) H := hP
  have hD : va_D A ([(h0, .inr (5, [.ref (u1 0), .ref (u2 0), .ref (u3 0), .ref (u4 0), .ref (u5 0), .ref q6, .int 0, .ref q7, .int 0, .ref q8, .null, .null, .int 0, .int 0]))] ++ pw_TR cA u1 ++ pw_TR cA u2 ++ pw_GA cA u3 ++ pw_VR cA u4 ++ pw_CR cA u5 ++ [(q6, .inl (cA, 96, .inl (fun _ => 0))), (q7, .inl (cA, 32, .inl (fun _ => 0))), (q8, .inl (cA, 7, .inl (fun _ => 0)))]) := hD
  refine lv_aload_n hx hb (by decide +kernel : decode prog_1_method_1_code 83 = .ok (.aload_n 0, 1)) rfl (lv_at hl 0 rfl) ?_
  refine va_new (ci := 3) (fs := [.null, .null, .null, .null, .null, .null, .int 0]) (C := R3_) (T := T3_) (N := 7) hx hb hts ws3_in ty3_ ty3_ok hown (hts _ (ALL_in 21 (by decide +kernel) rfl)) (hts _ (ALL_in 22 (by decide +kernel) rfl)) (hts _ (ALL_in 2 (by decide +kernel) rfl)) hKK hP hD hS hA rfl df3 (Nat.le_of_ble_eq_true rfl) (Nat.le_of_ble_eq_true rfl) (by decide +kernel : decode prog_1_method_1_code 84 = .ok (.new 7, 3)) (fun q9 H hP hD hS => ?_)
  have hP : va_P D classes ([(h0, .inr (5, [.ref (u1 0), .ref (u2 0), .ref (u3 0), .ref (u4 0), .ref (u5 0), .ref q6, .int 0, .ref q7, .int 0, .ref q8, .null, .null, .int 0, .int 0]))] ++ pw_TR cA u1 ++ pw_TR cA u2 ++ pw_GA cA u3 ++ pw_VR cA u4 ++ pw_CR cA u5 ++ [(q6, .inl (cA, 96, .inl (fun _ => 0))), (q7, .inl (cA, 32, .inl (fun _ => 0))), (q8, .inl (cA, 7, .inl (fun _ => 0)))] ++ [(q9, .inr (3, [.null, .null, .null, .null, .null, .null, .int 0]))]) H := hP
  have hD : va_D A ([(h0, .inr (5, [.ref (u1 0), .ref (u2 0), .ref (u3 0), .ref (u4 0), .ref (u5 0), .ref q6, .int 0, .ref q7, .int 0, .ref q8, .null, .null, .int 0, .int 0]))] ++ pw_TR cA u1 ++ pw_TR cA u2 ++ pw_GA cA u3 ++ pw_VR cA u4 ++ pw_CR cA u5 ++ [(q6, .inl (cA, 96, .inl (fun _ => 0))), (q7, .inl (cA, 32, .inl (fun _ => 0))), (q8, .inl (cA, 7, .inl (fun _ => 0)))] ++ [(q9, .inr (3, [.null, .null, .null, .null, .null, .null, .int 0]))]) := hD
  refine lv_dup hx hb (by decide +kernel : decode prog_1_method_1_code 87 = .ok (.dup, 1)) rfl ?_
  refine x_ctor (wr := [(h0, .inr (5, [.ref (u1 0), .ref (u2 0), .ref (u3 0), .ref (u4 0), .ref (u5 0), .ref q6, .int 0, .ref q7, .int 0, .ref q8, .null, .null, .int 0, .int 0]))] ++ pw_TR cA u1 ++ pw_TR cA u2 ++ pw_GA cA u3 ++ pw_VR cA u4 ++ pw_CR cA u5 ++ [(q6, .inl (cA, 96, .inl (fun _ => 0))), (q7, .inl (cA, 32, .inl (fun _ => 0))), (q8, .inl (cA, 7, .inl (fun _ => 0)))]) k_TR lk_GF_9 hx hb hml hown hts hN hN2 hKK hP hD hS hA hl.1 (Nat.le_of_ble_eq_true rfl) ⟨Nat.le_of_ble_eq_true rfl, Nat.le_of_ble_eq_true rfl⟩ ⟨Nat.le_of_ble_eq_true rfl, Nat.le_of_ble_eq_true rfl⟩ (by decide +kernel : decode prog_1_method_1_code 88 = .ok (.invokespecial 9, 3)) (fun u6 H locs hu hP2 hD2 hS2 => ?_)
  clear hP hD hS
  subst hu
  have hP := hP2
  have hD := hD2
  have hS := hS2
  clear hP2 hD2 hS2
  have hP : va_P D classes ([(h0, .inr (5, [.ref (u1 0), .ref (u2 0), .ref (u3 0), .ref (u4 0), .ref (u5 0), .ref q6, .int 0, .ref q7, .int 0, .ref q8, .null, .null, .int 0, .int 0]))] ++ pw_TR cA u1 ++ pw_TR cA u2 ++ pw_GA cA u3 ++ pw_VR cA u4 ++ pw_CR cA u5 ++ [(q6, .inl (cA, 96, .inl (fun _ => 0))), (q7, .inl (cA, 32, .inl (fun _ => 0))), (q8, .inl (cA, 7, .inl (fun _ => 0)))] ++ pw_TR cA u6) H := hP
  have hD : va_D A ([(h0, .inr (5, [.ref (u1 0), .ref (u2 0), .ref (u3 0), .ref (u4 0), .ref (u5 0), .ref q6, .int 0, .ref q7, .int 0, .ref q8, .null, .null, .int 0, .int 0]))] ++ pw_TR cA u1 ++ pw_TR cA u2 ++ pw_GA cA u3 ++ pw_VR cA u4 ++ pw_CR cA u5 ++ [(q6, .inl (cA, 96, .inl (fun _ => 0))), (q7, .inl (cA, 32, .inl (fun _ => 0))), (q8, .inl (cA, 7, .inl (fun _ => 0)))] ++ pw_TR cA u6) := hD
  refine va_putF (D := D) (ci := 5) (v := .ref (u6 0)) (ty := .object "GathersAllFaults$Tree") (C := R5_) (T := T5_) (N := 14) hx hb hts ws5_in ty5_ ty5_ok nm5_ hown hKK hP hD hS 0 rfl rfl 10 (by decide) (hts _ (ALL_in 258 (by decide +kernel) rfl)) (fun _ h9 => h9) rfl hin rfl (by decide +kernel) rfl rfl (Nat.le_of_ble_eq_true rfl) (by decide +kernel : decode prog_1_method_1_code 91 = .ok (.putfield 50, 3)) (fun H locs hP hD hS => ?_)
  have hP : va_P D classes ([(h0, .inr (5, [.ref (u1 0), .ref (u2 0), .ref (u3 0), .ref (u4 0), .ref (u5 0), .ref q6, .int 0, .ref q7, .int 0, .ref q8, .ref (u6 0), .null, .int 0, .int 0]))] ++ pw_TR cA u1 ++ pw_TR cA u2 ++ pw_GA cA u3 ++ pw_VR cA u4 ++ pw_CR cA u5 ++ [(q6, .inl (cA, 96, .inl (fun _ => 0))), (q7, .inl (cA, 32, .inl (fun _ => 0))), (q8, .inl (cA, 7, .inl (fun _ => 0)))] ++ pw_TR cA u6) H := hP
  have hD : va_D A ([(h0, .inr (5, [.ref (u1 0), .ref (u2 0), .ref (u3 0), .ref (u4 0), .ref (u5 0), .ref q6, .int 0, .ref q7, .int 0, .ref q8, .ref (u6 0), .null, .int 0, .int 0]))] ++ pw_TR cA u1 ++ pw_TR cA u2 ++ pw_GA cA u3 ++ pw_VR cA u4 ++ pw_CR cA u5 ++ [(q6, .inl (cA, 96, .inl (fun _ => 0))), (q7, .inl (cA, 32, .inl (fun _ => 0))), (q8, .inl (cA, 7, .inl (fun _ => 0)))] ++ pw_TR cA u6) := hD
  refine lv_aload_n hx hb (by decide +kernel : decode prog_1_method_1_code 94 = .ok (.aload_n 0, 1)) rfl (lv_at hl 0 rfl) ?_
  refine va_new (ci := 2) (fs := [.null, .null, .null, .null, .null, .null, .null, .null, .null, .null, .null, .null, .null, .int 0, .int 0]) (C := R2_) (T := T2_) (N := 15) hx hb hts ws2_in ty2_ ty2_ok hown (hts _ (ALL_in 246 (by decide +kernel) rfl)) (hts _ (ALL_in 74 (by decide +kernel) rfl)) (hts _ (ALL_in 4 (by decide +kernel) rfl)) hKK hP hD hS hA rfl df2 (Nat.le_of_ble_eq_true rfl) (Nat.le_of_ble_eq_true rfl) (by decide +kernel : decode prog_1_method_1_code 95 = .ok (.new 53, 3)) (fun q10 H hP hD hS => ?_)
  have hP : va_P D classes ([(h0, .inr (5, [.ref (u1 0), .ref (u2 0), .ref (u3 0), .ref (u4 0), .ref (u5 0), .ref q6, .int 0, .ref q7, .int 0, .ref q8, .ref (u6 0), .null, .int 0, .int 0]))] ++ pw_TR cA u1 ++ pw_TR cA u2 ++ pw_GA cA u3 ++ pw_VR cA u4 ++ pw_CR cA u5 ++ [(q6, .inl (cA, 96, .inl (fun _ => 0))), (q7, .inl (cA, 32, .inl (fun _ => 0))), (q8, .inl (cA, 7, .inl (fun _ => 0)))] ++ pw_TR cA u6 ++ [(q10, .inr (2, [.null, .null, .null, .null, .null, .null, .null, .null, .null, .null, .null, .null, .null, .int 0, .int 0]))]) H := hP
  have hD : va_D A ([(h0, .inr (5, [.ref (u1 0), .ref (u2 0), .ref (u3 0), .ref (u4 0), .ref (u5 0), .ref q6, .int 0, .ref q7, .int 0, .ref q8, .ref (u6 0), .null, .int 0, .int 0]))] ++ pw_TR cA u1 ++ pw_TR cA u2 ++ pw_GA cA u3 ++ pw_VR cA u4 ++ pw_CR cA u5 ++ [(q6, .inl (cA, 96, .inl (fun _ => 0))), (q7, .inl (cA, 32, .inl (fun _ => 0))), (q8, .inl (cA, 7, .inl (fun _ => 0)))] ++ pw_TR cA u6 ++ [(q10, .inr (2, [.null, .null, .null, .null, .null, .null, .null, .null, .null, .null, .null, .null, .null, .int 0, .int 0]))]) := hD
  refine lv_dup hx hb (by decide +kernel : decode prog_1_method_1_code 98 = .ok (.dup, 1)) rfl ?_
  refine x_ctor (wr := [(h0, .inr (5, [.ref (u1 0), .ref (u2 0), .ref (u3 0), .ref (u4 0), .ref (u5 0), .ref q6, .int 0, .ref q7, .int 0, .ref q8, .ref (u6 0), .null, .int 0, .int 0]))] ++ pw_TR cA u1 ++ pw_TR cA u2 ++ pw_GA cA u3 ++ pw_VR cA u4 ++ pw_CR cA u5 ++ [(q6, .inl (cA, 96, .inl (fun _ => 0))), (q7, .inl (cA, 32, .inl (fun _ => 0))), (q8, .inl (cA, 7, .inl (fun _ => 0)))] ++ pw_TR cA u6) k_PL lk_GF_55 hx hb hml hown hts hN hN2 hKK hP hD hS hA hl.1 (Nat.le_of_ble_eq_true rfl) ⟨Nat.le_of_ble_eq_true rfl, Nat.le_of_ble_eq_true rfl⟩ ⟨Nat.le_of_ble_eq_true rfl, Nat.le_of_ble_eq_true rfl⟩ (by decide +kernel : decode prog_1_method_1_code 99 = .ok (.invokespecial 55, 3)) (fun u7 H locs hu hP2 hD2 hS2 => ?_)
  clear hP hD hS
  subst hu
  have hP := hP2
  have hD := hD2
  have hS := hS2
  clear hP2 hD2 hS2
  have hP : va_P D classes ([(h0, .inr (5, [.ref (u1 0), .ref (u2 0), .ref (u3 0), .ref (u4 0), .ref (u5 0), .ref q6, .int 0, .ref q7, .int 0, .ref q8, .ref (u6 0), .null, .int 0, .int 0]))] ++ pw_TR cA u1 ++ pw_TR cA u2 ++ pw_GA cA u3 ++ pw_VR cA u4 ++ pw_CR cA u5 ++ [(q6, .inl (cA, 96, .inl (fun _ => 0))), (q7, .inl (cA, 32, .inl (fun _ => 0))), (q8, .inl (cA, 7, .inl (fun _ => 0)))] ++ pw_TR cA u6 ++ pw_PL cA u7) H := hP
  have hD : va_D A ([(h0, .inr (5, [.ref (u1 0), .ref (u2 0), .ref (u3 0), .ref (u4 0), .ref (u5 0), .ref q6, .int 0, .ref q7, .int 0, .ref q8, .ref (u6 0), .null, .int 0, .int 0]))] ++ pw_TR cA u1 ++ pw_TR cA u2 ++ pw_GA cA u3 ++ pw_VR cA u4 ++ pw_CR cA u5 ++ [(q6, .inl (cA, 96, .inl (fun _ => 0))), (q7, .inl (cA, 32, .inl (fun _ => 0))), (q8, .inl (cA, 7, .inl (fun _ => 0)))] ++ pw_TR cA u6 ++ pw_PL cA u7) := hD
  refine va_putF (D := D) (ci := 5) (v := .ref (u7 0)) (ty := .object "GathersAllFaults$Plan") (C := R5_) (T := T5_) (N := 14) hx hb hts ws5_in ty5_ ty5_ok nm5_ hown hKK hP hD hS 0 rfl rfl 11 (by decide) (hts _ (ALL_in 259 (by decide +kernel) rfl)) (fun _ h9 => h9) rfl hin rfl (by decide +kernel) rfl rfl (Nat.le_of_ble_eq_true rfl) (by decide +kernel : decode prog_1_method_1_code 102 = .ok (.putfield 56, 3)) (fun H locs hP hD hS => ?_)
  have hP : va_P D classes ([(h0, .inr (5, [.ref (u1 0), .ref (u2 0), .ref (u3 0), .ref (u4 0), .ref (u5 0), .ref q6, .int 0, .ref q7, .int 0, .ref q8, .ref (u6 0), .ref (u7 0), .int 0, .int 0]))] ++ pw_TR cA u1 ++ pw_TR cA u2 ++ pw_GA cA u3 ++ pw_VR cA u4 ++ pw_CR cA u5 ++ [(q6, .inl (cA, 96, .inl (fun _ => 0))), (q7, .inl (cA, 32, .inl (fun _ => 0))), (q8, .inl (cA, 7, .inl (fun _ => 0)))] ++ pw_TR cA u6 ++ pw_PL cA u7) H := hP
  have hD : va_D A ([(h0, .inr (5, [.ref (u1 0), .ref (u2 0), .ref (u3 0), .ref (u4 0), .ref (u5 0), .ref q6, .int 0, .ref q7, .int 0, .ref q8, .ref (u6 0), .ref (u7 0), .int 0, .int 0]))] ++ pw_TR cA u1 ++ pw_TR cA u2 ++ pw_GA cA u3 ++ pw_VR cA u4 ++ pw_CR cA u5 ++ [(q6, .inl (cA, 96, .inl (fun _ => 0))), (q7, .inl (cA, 32, .inl (fun _ => 0))), (q8, .inl (cA, 7, .inl (fun _ => 0)))] ++ pw_TR cA u6 ++ pw_PL cA u7) := hD
  refine W.widen (k := 87) (n := 8277) (Nat.le_of_ble_eq_true rfl) (Nat.le_of_ble_eq_true rfl) ?_
  exact W.vret hx hb hr (fun t ht hW => ⟨⟨(fun i => cond (Nat.blt i 1) (h0) (cond (Nat.blt i 8) (u1 (i - 1)) (cond (Nat.blt i 15) (u2 (i - 8)) (cond (Nat.blt i 38) (u3 (i - 15)) (cond (Nat.blt i 47) (u4 (i - 38)) (cond (Nat.blt i 64) (u5 (i - 47)) (cond (Nat.blt i 65) (q6) (cond (Nat.blt i 66) (q7) (cond (Nat.blt i 67) (q8) (cond (Nat.blt i 74) (u6 (i - 67)) (u7 (i - 74)))))))))))), rfl, rfl, by rw [ht]; exact hP, hD⟩, hS.F ht⟩) hS.2.2 (by decide +kernel : decode prog_1_method_1_code 105 = .ok (.return_, 1)) hlk
end
section
/-! the first worlds -/
def σX0 : sS := fun c => match c with
  | 1 => upd (fun _ => 0) 6 1
  | 6 => upd (fun _ => 0) 0 1
  | 8 => upd (fun _ => 0) 6 1
  | 13 => upd (fun _ => 0) 0 1
  | 15 => upd (fun _ => 0) 1 30
  | 16 => upd (fun _ => 0) 13 1
  | 17 => upd (fun _ => 0) 0 42
  | 20 => upd (fun _ => 0) 0 1
  | 30 => upd (fun _ => 0) 6 1
  | 35 => upd (fun _ => 0) 0 1
  | 40 => upd (fun _ => 0) 6 1
  | 45 => upd (fun _ => 0) 0 1
  | 49 => upd (fun _ => 0) 13 1
  | 50 => upd (fun _ => 0) 0 42
  | 53 => upd (fun _ => 0) 0 1
  | 67 => upd (fun _ => 0) 6 1
  | 72 => upd (fun _ => 0) 0 1
  | 74 => upd (fun _ => 0) 13 1
  | 75 => upd (fun _ => 0) 0 42
  | 78 => upd (fun _ => 0) 0 1
  | _ => fun _ => 0
def wlR (cA : ClassId) (ad : Nat → Nat) (σ : sS) : Nat → List kd → va_W
  | _, [] => []
  | b, k :: r => (ad b, ent cA ad σ b k) :: wlR cA ad σ (b + 1) r
theorem wlR_get (cA : ClassId) (ad : Nat → Nat) (σ : sS) : ∀ (Y : List kd) (b i : Nat), (wlR cA ad σ b Y)[i]? = (Y[i]?).map (fun k => (ad (b + i), ent cA ad σ (b + i) k))
  | [], b, i => by simp [wlR]
  | k :: r, b, 0 => by simp [wlR]
  | k :: r, b, i + 1 => by
    simp only [wlR, List.getElem?_cons_succ]
    rw [wlR_get cA ad σ r (b + 1) i]
    have : b + 1 + i = b + (i + 1) := by omega
    rw [this]
theorem wl_R (cA : ClassId) (ad : Nat → Nat) (σ : sS) (Y : List kd) : wl cA ad σ Y = wlR cA ad σ 0 Y := by
  apply List.ext_getElem?
  intro i
  rw [wlR_get]
  unfold wl
  rw [List.getElem?_mapIdx, Nat.zero_add]
set_option maxRecDepth 100000 in
set_option maxHeartbeats 4000000 in
theorem pw_GF_wl (cA : ClassId) (u : Nat → Nat) : pw_GF cA u = wl cA u σX0 LX := by
  rw [wl_R]
  rfl
def lokB (Y : List kd) : Bool := (List.range Y.length).all (fun b => match Y[b]? with
  | some (.inl ci) => (cfs.getD ci []).all (fun s => !(Nat.beq s.1 1) || decide (Y[b + s.2.1]? = some s.2.2))
  | _ => true)
theorem lok_of {Y : List kd} (h1 : Y.length < 2 ^ 31) (h : lokB Y = true) : lok Y := by
  refine ⟨h1, ?_⟩
  intro b ci hb k s hk hs
  have hbl := (List.getElem?_eq_some_iff.mp hb).1
  have h2 := List.all_eq_true.mp h b (List.mem_range.mpr hbl)
  simp only [hb] at h2
  have h3 := List.all_eq_true.mp h2 s (List.mem_of_getElem? hk)
  rw [hs] at h3
  simpa using h3
theorem LX_ok : lok LX := lok_of (by decide) (by decide +kernel)
theorem vin {n N : Nat} (h : n < N) (hN : N < 2 ^ 31) : vp_in (nI n) N := vp_in_nI h hN
end
section
/-! THE MOVING MACHINE (dm): the law's own objects, at addresses that come, beside the class's world at fixed places. -/
abbrev dE : Type := (Nat × List Value) ⊕ ((Nat × Nat × (Nat → Int32)) ⊕ (Nat × Nat × (Nat → Option Nat)))
abbrev dW : Type := Nat → Option dE
abbrev dL : Type := List (Nat × Value)
abbrev dQ : Type := Option Value → sS → dW → Prop
/-- the script: where it lies, how long, what it holds -/
abbrev dB : Type := Nat × Nat × (Nat → Int32)
/-- the classes of int[], boolean[], Val[], Chk[] -/
abbrev dK : Type := ClassId × ClassId × ClassId × ClassId
abbrev eO (ci : Nat) (fs : List Value) : dE := .inl (ci, fs)
abbrev eA (k n : Nat) (f : Nat → Int32) : dE := .inr (.inl (k, n, f))
abbrev eR (k n : Nat) (g : Nat → Option Nat) : dE := .inr (.inr (k, n, g))
def dset (μ : dW) (a : Nat) (e : dE) : dW := fun q => if q = a then some e else μ q
theorem dset_same (μ : dW) (a : Nat) (e : dE) : dset μ a e a = some e := by simp [dset]
theorem dset_ne (μ : dW) {a q : Nat} (e : dE) (h : q ≠ a) : dset μ a e q = μ q := by simp [dset, h]
def dTy (K : dK) : List (ClassId × FieldType) := [(K.1, .int), (K.2.1, .boolean), (K.2.2.1, .object "GathersAllFaultsLaw$Val"), (K.2.2.2, .object "GathersAllFaultsLaw$Chk")]
def dcv (K : dK) (e : dE) : va_E := match e with
  | .inl o => .inr o
  | .inr (.inl q) => .inl (cond (Nat.beq q.1 0) K.1 K.2.1, q.2.1, .inl q.2.2)
  | .inr (.inr q) => .inl (cond (Nat.beq q.1 0) K.2.2.1 K.2.2.2, q.2.1, .inr (.inr (.inr (.inr q.2.2))))
abbrev wG (K : dK) (ax : Nat → Nat) (σ : sS) : va_W := wl K.1 ax σ LX
def dCov (K : dK) (ws : va_W) (μ : dW) : Prop := ∀ (a : Nat) (e : dE), μ a = some e → ∃ k : Nat, ws[k]? = some (a, dcv K e)
def dP (D : va_G) (K : dK) (ax : Nat → Nat) (σ : sS) (ws : va_W) (μ : dW) (A : Nat → Prop) (H : Heap) : Prop := dCov K ws μ ∧ va_P D classes (wG K ax σ ++ ws) H ∧ va_D A (wG K ax σ ++ ws)
theorem dP_at {D : va_G} {K : dK} {ax : Nat → Nat} {σ : sS} {ws : va_W} {μ : dW} {A : Nat → Prop} {H : Heap} (h : dP D K ax σ ws μ A H) {a : Nat} {e : dE} (ha : μ a = some e) : ∃ k : Nat, (wG K ax σ ++ ws)[(wG K ax σ).length + k]? = some (a, dcv K e) := by
  obtain ⟨k, hk⟩ := h.1 a e ha
  exact ⟨k, by rw [List.getElem?_append_right (Nat.le_add_right _ _), Nat.add_sub_cancel_left]; exact hk⟩
theorem dP_set {D : va_G} {K : dK} {ax : Nat → Nat} {σ : sS} {ws : va_W} {μ : dW} {A : Nat → Prop} {H H1 : Heap} (h : dP D K ax σ ws μ A H) {a k : Nat} {e0 e : dE} (hk : (wG K ax σ ++ ws)[(wG K ax σ).length + k]? = some (a, dcv K e0))
    (hP : va_P D classes ((wG K ax σ ++ ws).set ((wG K ax σ).length + k) (a, dcv K e)) H1) (hD : va_D A ((wG K ax σ ++ ws).set ((wG K ax σ).length + k) (a, dcv K e))) : dP D K ax σ (ws.set k (a, dcv K e)) (dset μ a e) A H1 := by
  have e1 : (wG K ax σ ++ ws).set ((wG K ax σ).length + k) (a, dcv K e) = wG K ax σ ++ ws.set k (a, dcv K e) := by
    rw [List.set_append_right _ _ (Nat.le_add_right _ _), Nat.add_sub_cancel_left]
  rw [e1] at hP hD
  have hk2 : ws[k]? = some (a, dcv K e0) := by rw [List.getElem?_append_right (Nat.le_add_right _ _), Nat.add_sub_cancel_left] at hk; exact hk
  refine ⟨fun b e' hb => ?_, hP, hD⟩
  by_cases z : b = a
  · subst z
    rw [dset_same] at hb
    cases hb
    exact ⟨k, List.getElem?_set_self (List.getElem?_eq_some_iff.mp hk2).1⟩
  · rw [dset_ne μ e z] at hb
    obtain ⟨j, hj⟩ := h.1 b e' hb
    refine ⟨j, ?_⟩
    rw [List.getElem?_set_ne (fun q => ?_)]
    · exact hj
    · subst q
      rw [hk2] at hj
      exact z (Prod.mk.inj (Option.some.inj hj)).1.symm
theorem dP_push {D : va_G} {K : dK} {ax : Nat → Nat} {σ : sS} {ws : va_W} {μ : dW} {A : Nat → Prop} {H H1 : Heap} (h : dP D K ax σ ws μ A H) {q : Nat} {e : dE}
    (hP : va_P D classes ((wG K ax σ ++ ws) ++ [(q, dcv K e)]) H1) (hD : va_D A ((wG K ax σ ++ ws) ++ [(q, dcv K e)])) : μ q = none ∧ dP D K ax σ (ws ++ [(q, dcv K e)]) (dset μ q e) A H1 := by
  have hq : μ q = none := by
    cases hm : μ q with
    | none => rfl
    | some e0 =>
      obtain ⟨k, hk⟩ := dP_at h hm
      have hl := (List.getElem?_eq_some_iff.mp hk).1
      have := hD.1 _ (wG K ax σ ++ ws).length (q, dcv K e0) (q, dcv K e) (by rw [List.getElem?_append_left hl]; exact hk) (by simp) rfl
      omega
  refine ⟨hq, fun b e' hb => ?_, by rw [← List.append_assoc]; exact hP, by rw [← List.append_assoc]; exact hD⟩
  by_cases z : b = q
  · subst z
    rw [dset_same] at hb
    cases hb
    exact ⟨ws.length, by simp⟩
  · rw [dset_ne μ e z] at hb
    obtain ⟨j, hj⟩ := h.1 b e' hb
    exact ⟨j, by rw [List.getElem?_append_left (List.getElem?_eq_some_iff.mp hj).1]; exact hj⟩
def nmV : String := "GathersAllFaultsLaw$Val"
def nmC : String := "GathersAllFaultsLaw$Chk"
def dCx (B : dB) (d : Nat) (y : sY) (D : va_G) (K : dK) (A : Nat → Prop) (p : Program) (R : Room) (s : State) (m : MethodId) (args : Array Value) (meth : Method) (c : Code) : Prop :=
  p.tables.exec = Jvm.exec ∧ c.code = y.2.1 ∧ c.maxLocals = y.2.2.1 ∧ s.vm.findClass y.1.cls = some m.cls ∧ meth.sig.returnType = y.2.2.2 ∧ meth.locks = false ∧ (∀ w ∈ ALL, w.before args s = true) ∧ (∀ w ∈ NW, va_Nw w s) ∧ (∀ w ∈ NW2, va_Nw w s) ∧ va_Nw (.castable "[I" "java/lang/Cloneable") s ∧ va_AO nmV s ∧ va_AO nmC s ∧
  va_K D classes (dTy K) s ∧ d ≤ R.frames ∧ 40 * d + 40 ≤ R.locals ∧ (∀ q : Nat, s.heap.size ≤ q → A q) ∧ ¬ A B.1 ∧ va_X B.1 B.2.1 B.2.2 s s.heap ∧ meth.name = y.1.name
def dQc (D : va_G) (K : dK) (ax : Nat → Nat) (A : Nat → Prop) (Q : dQ) : Array Value → State → Outcome → State → Prop := fun _ st o t =>
  (∃ (r : Option Value) (σ : sS) (μ : dW) (ws : va_W), o = .returned r ∧ Q r σ μ ∧ dP D K ax σ ws μ A t.heap) ∧ va_F A st t
/-- from here the method comes to its end, with u cells and slots at most, and Q of its answer and of the worlds -/
def DJ (B : dB) (ax : Nat → Nat) (d u : Nat) (y : sY) (pc : Nat) (ls : dL) (st : List Value) (σ : sS) (μ : dW) (Q : dQ) : Prop :=
  ∀ (l : Launch) (D : va_G) (K : dK) (A : Nat → Prop) (p : Program) (e : Env) (R : Room) (s : State) (m : MethodId) (args : Array Value) (below : List Frame) (meth : Method) (c : Code),
    dCx B d y D K A p R s m args meth c →
    ∀ (H : Heap) (locs : List Loc) (lsA : Array Slot) (ws : va_W) (cells slots mc ms : Nat), dP D K ax σ ws μ A H → va_S A s.heap H locs → lv_has lsA y.2.2.1 ls → cells + u ≤ mc → slots + u ≤ ms → mc ≤ R.cells → ms ≤ R.slots →
      W p l e R s m args below meth c H locs cells slots (MQ below (dQc D K ax A Q) args s mc ms A) (F0 m pc lsA st)
def dArg : Nat → List Value → dL
  | _, [] => []
  | i, v :: r => (i, v) :: dArg (i + 1) r
def c1 (v : Value) : Bool := match v with
  | .long _ => false
  | .double _ => false
  | _ => true
def c1s : List Value → Bool
  | [] => true
  | v :: r => c1 v && c1s r
def lenV : List Value → Nat
  | [] => 0
  | _ :: r => lenV r + 1
/-- a call, by its arguments (the receiver first) -/
def DCJ (B : dB) (ax : Nat → Nat) (d u : Nat) (y : sY) (as : List Value) (σ : sS) (μ : dW) (Q : dQ) : Prop := DJ B ax d u y 0 (dArg 0 as) [] σ μ Q
theorem DJ.mono {B : dB} {ax : Nat → Nat} {d d' u u' : Nat} {y : sY} {pc : Nat} {ls : dL} {st : List Value} {σ : sS} {μ : dW} {Q : dQ} (h : DJ B ax d u y pc ls st σ μ Q) (hd : d ≤ d') (hu : u ≤ u') : DJ B ax d' u' y pc ls st σ μ Q := by
  intro l D K A p e R s m args below meth c hC H locs lsA ws cells slots mc ms hP hS hl h1 h2
  obtain ⟨g1, g2, g3, g4, g5, g6, g7, g8, g9, g10, g11, g12, g13, g14, g15, g16⟩ := hC
  exact h l D K A p e R s m args below meth c ⟨g1, g2, g3, g4, g5, g6, g7, g8, g9, g10, g11, g12, g13, Nat.le_trans hd g14, by omega, g16⟩ H locs lsA ws cells slots mc ms hP hS hl (by omega) (by omega)
theorem DJ.sub {B : dB} {ax : Nat → Nat} {d u : Nat} {y : sY} {pc : Nat} {ls ls' : dL} {st : List Value} {σ : sS} {μ : dW} {Q : dQ} (h : DJ B ax d u y pc ls' st σ μ Q) (hm : ∀ q ∈ ls', q ∈ ls) : DJ B ax d u y pc ls st σ μ Q := by
  intro l D K A p e R s m args below meth c hC H locs lsA ws cells slots mc ms hP hS hl
  exact h l D K A p e R s m args below meth c hC H locs lsA ws cells slots mc ms hP hS (lv_has_mono hl hm)
theorem DJ.imp {B : dB} {ax : Nat → Nat} {d u : Nat} {y : sY} {pc : Nat} {ls : dL} {st : List Value} {σ : sS} {μ : dW} {Q Q' : dQ} (h : DJ B ax d u y pc ls st σ μ Q) (hQ : ∀ r σ μ, Q r σ μ → Q' r σ μ) : DJ B ax d u y pc ls st σ μ Q' := by
  intro l D K A p e R s m args below meth c hC H locs lsA ws cells slots mc ms hP hS hl h1 h2 h3 h4
  refine W.imp (h l D K A p e R s m args below meth c hC H locs lsA ws cells slots mc ms hP hS hl h1 h2 h3 h4) ?_
  rintro t ⟨o, h1, h2, ⟨⟨r, σ', μ', ws', e1, e2, e3⟩, h4⟩, h5⟩
  exact ⟨o, h1, h2, ⟨⟨r, σ', μ', ws', e1, hQ _ _ _ e2, e3⟩, h4⟩, h5⟩
theorem DCJ.mono {B : dB} {ax : Nat → Nat} {d d' u u' : Nat} {y : sY} {as : List Value} {σ : sS} {μ : dW} {Q : dQ} (h : DCJ B ax d u y as σ μ Q) (hd : d ≤ d') (hu : u ≤ u') : DCJ B ax d' u' y as σ μ Q := DJ.mono h hd hu
theorem DCJ.imp {B : dB} {ax : Nat → Nat} {d u : Nat} {y : sY} {as : List Value} {σ : sS} {μ : dW} {Q Q' : dQ} (h : DCJ B ax d u y as σ μ Q) (hQ : ∀ r σ μ, Q r σ μ → Q' r σ μ) : DCJ B ax d u y as σ μ Q' := DJ.imp h hQ
theorem c1_cat {v : Value} (h : c1 v = true) : v.category = 1 := by cases v <;> first | rfl | cases h
theorem c1s_args : ∀ {as : List Value} (i : Nat), c1s as = true → lv_args i as = dArg i as ∧ (lg_sl as).length = as.length
  | [], i, _ => ⟨rfl, rfl⟩
  | v :: r, i, h => by
    simp only [c1s, Bool.and_eq_true] at h
    have hv := c1_cat h.1
    obtain ⟨e1, e2⟩ := c1s_args (i + 1) h.2
    refine ⟨?_, ?_⟩
    · simp only [lv_args, dArg, hv]
      rw [if_neg (by decide), e1]
    · simp only [lg_sl] at e2 ⊢
      rw [List.flatMap_cons, List.length_append, e2, hv, if_neg (by decide)]
      simp
      omega
theorem c1s_sum : ∀ {as : List Value}, c1s as = true → (as.map fun v => v.category).sum = as.length
  | [], _ => rfl
  | v :: r, h => by
    simp only [c1s, Bool.and_eq_true] at h
    simp only [List.map_cons, List.sum_cons, List.length_cons, c1_cat h.1, c1s_sum h.2]
    omega
theorem lenV_eq : ∀ as : List Value, lenV as = as.length
  | [] => rfl
  | _ :: r => by simp [lenV, lenV_eq r]
abbrev rmU (d u : Nat) : Room := { frames := d, cells := u, slots := u, locals := 40 * d + 40 }
def dPc (B : dB) (D : va_G) (K : dK) (ax : Nat → Nat) (σ : sS) (ws : va_W) (μ : dW) (as : List Value) (sz : Nat) : Array Value → State → Prop :=
  va_Pc as (fun U => U.heap.size = sz ∧ dP D K ax σ ws μ (fun _ => True) U.heap ∧ va_K D classes (dTy K) U ∧ (∀ w ∈ NW, va_Nw w U) ∧ (∀ w ∈ NW2, va_Nw w U) ∧ va_Nw (.castable "[I" "java/lang/Cloneable") U ∧ va_AO nmV U ∧ va_AO nmC U ∧ ¬ va_A (wG K ax σ ++ ws) sz B.1 ∧ va_X B.1 B.2.1 B.2.2 U U.heap)
theorem dPc_blind {B : dB} {D : va_G} {K : dK} {ax : Nat → Nat} {σ : sS} {ws : va_W} {μ : dW} {as : List Value} {sz : Nat} : FrameBlind (dPc B D K ax σ ws μ as sz) := by
  rintro a U g mk ⟨h1, h2, h3, h4, h5, h6, h7, h8, h9, h10, h11⟩
  exact ⟨h1, h2, h3, va_K.moved (u := U) (U := U.calling g mk a) (Vm.Alike.refl U.vm) h4, fun w hw => va_Nw.same (NW_tab w hw) (u := U) (U := U.calling g mk a) rfl (h5 w hw), fun w hw => va_Nw.same (NW2_tab w hw) (u := U) (U := U.calling g mk a) rfl (h6 w hw), va_Nw.same rfl (u := U) (U := U.calling g mk a) rfl h7, va_AO.moved (u := U) (U := U.calling g mk a) (Vm.Alike.refl U.vm) h8, va_AO.moved (u := U) (U := U.calling g mk a) (Vm.Alike.refl U.vm) h9, h10, va_X.moved (u := U) (U := U.calling g mk a) (Vm.Alike.refl U.vm) h11⟩
theorem met_ofD {B : dB} {ax : Nat → Nat} {d u : Nat} {y : sY} {as : List Value} {σ : sS} {μ : dW} {Q : dQ} (h : DCJ B ax d u y as σ μ Q) (hy : plainName y.1.cls = true) (hc : c1s as = true) (hn : as.length ≤ y.2.2.1) (l : Launch) (D : va_G) (K : dK) (ws : va_W) (sz : Nat) :
    Met l y.1 (wsY y) (rmU d u) (dPc B D K ax σ ws μ as sz) (dQc D K ax (va_A (wG K ax σ ++ ws) sz) Q) u u (va_A (wG K ax σ ++ ws) sz) := by
  refine Met.ofW (cc := y.2.1) (maxL := y.2.2.1) (ret := y.2.2.2) (ws' := ALL) hy rfl ?_
  intro p e s m args below meth c s₁ B0 hml hv
  obtain ⟨rfl, hsz, hP, hK, hN, hN2, hcs, ho1, ho2, hb1, hb2⟩ := hv
  have hts := atoms_spec (ws := wsY y) B0.pre
  have hown : s.vm.findClass y.1.cls = some m.cls := findClass_of_methodNamed B0.named
  subst hsz
  obtain ⟨ha, hlen⟩ := c1s_args 0 hc
  have hl := lv_entry as (n := y.2.2.1) (by rw [hlen]; exact hn)
  rw [lg_entry_eq]
  rw [ha] at hl
  exact h l D K (va_A (wG K ax σ ++ ws) s.heap.size) p e _ s m _ below meth c ⟨B0.exec, B0.bytes, hml, hown, B0.returns, B0.notSynchronized, fun w hw => hts w (List.mem_cons_of_mem _ hw), hN, hN2, hcs, ho1, ho2, hK, Nat.le_refl _, Nat.le_refl _, fun q hq => Or.inr hq, hb1, hb2, (name_of_methodNamed B0.named B0.method).1⟩ s.heap [] _ ws 0 0 u u ⟨hP.1, hP.2.1, hP.2.2.self⟩ va_S.rf hl (by omega) (by omega) (Nat.le_refl _) (Nat.le_refl _)
end
section
/-! dm: the weakest start of one instruction -/
def gv (i : Nat) : dL → Option Value
  | [] => none
  | q :: r => cond (Nat.beq q.1 i) (some q.2) (gv i r)
def iv (i : Nat) (v : Value) : dL → dL
  | [] => [(i, v)]
  | q :: r => cond (Nat.blt i q.1) ((i, v) :: q :: r) (q :: iv i v r)
def fv1 (i : Nat) : dL → dL
  | [] => []
  | q :: r => cond (Nat.beq q.1 i) (fv1 i r) (cond (Nat.beq (q.1 + 1) i) (cond (c1 q.2) (q :: fv1 i r) (fv1 i r)) (q :: fv1 i r))
def sv1 (i : Nat) (v : Value) (ls : dL) : dL := iv i v (fv1 i ls)
/-- index, class, place, sort (0 an int, 1 a reference), whether final -/
abbrev dF : Type := Nat × Nat × Nat × Nat × Nat
/-- index, kind, what is called, how many arguments, what kind of answer, class (or sort of array) -/
abbrev dCl : Type := Nat × Nat × sY × Nat × Nat × Nat
def dff (idx : Nat) : List dF → Option (Nat × Nat × Nat × Nat)
  | [] => none
  | e :: r => cond (Nat.beq e.1 idx) (some e.2) (dff idx r)
def dcf (idx : Nat) : List dCl → Option dCl
  | [] => none
  | e :: r => cond (Nat.beq e.1 idx) (some e) (dcf idx r)
def dfl (ci : Nat) : List Value := match ci with
  | 6 => [.null, .int 0]
  | 7 => [.int 0, .int 0, .null, .null]
  | 8 => [.int 0, .int 0, .int 0, .null, .null, .null]
  | _ => []
def dNf (ci : Nat) : Nat := match ci with
  | 6 => 2
  | 7 => 4
  | 8 => 6
  | _ => 0
def x1I (st : List Value) (f : Int32 → List Value → Prop) : Prop := match st with
  | .int x :: r => f x r
  | _ => False
def x2I (st : List Value) (f : Int32 → Int32 → List Value → Prop) : Prop := match st with
  | .int y :: .int x :: r => f x y r
  | _ => False
def x1R (st : List Value) (f : Nat → List Value → Prop) : Prop := match st with
  | .ref a :: r => f a r
  | _ => False
def xIR (st : List Value) (f : Int32 → Nat → List Value → Prop) : Prop := match st with
  | .int i :: .ref a :: r => f i a r
  | _ => False
def xIIR (st : List Value) (f : Int32 → Int32 → Nat → List Value → Prop) : Prop := match st with
  | .int x :: .int i :: .ref a :: r => f x i a r
  | _ => False
def xRIR (st : List Value) (f : Nat → Int32 → Nat → List Value → Prop) : Prop := match st with
  | .ref v :: .int i :: .ref a :: r => f v i a r
  | _ => False
def xRR (st : List Value) (f : Nat → Nat → List Value → Prop) : Prop := match st with
  | .ref v :: .ref a :: r => f v a r
  | _ => False
def x1V (st : List Value) (f : Value → List Value → Prop) : Prop := match st with
  | v :: r => f v r
  | _ => False
def vgI (i : Nat) (ls : dL) (f : Int32 → Prop) : Prop := match gv i ls with
  | some (.int x) => f x
  | _ => False
def vgR (i : Nat) (ls : dL) (f : Nat → Prop) : Prop := match gv i ls with
  | some (.ref a) => f a
  | _ => False
def qN (k : sS → dW → Prop) : dQ := fun r σ μ => match r with
  | none => k σ μ
  | _ => False
def qI (k : Int32 → sS → dW → Prop) : dQ := fun r σ μ => match r with
  | some (.int x) => k x σ μ
  | _ => False
def qR (k : Nat → sS → dW → Prop) : dQ := fun r σ μ => match r with
  | some (.ref a) => k a σ μ
  | _ => False
def qP (k : Value → sS → dW → Prop) : dQ := fun r σ μ => match r with
  | some v => k v σ μ
  | _ => False
def dret (rk : Nat) (rest : List Value) (K : List Value → sS → dW → Prop) : dQ := match rk with
  | 0 => qN (fun σ μ => K rest σ μ)
  | 1 => qI (fun x σ μ => K (.int x :: rest) σ μ)
  | 2 => qR (fun a σ μ => K (.ref a :: rest) σ μ)
  | _ => qP (fun v σ μ => K (v :: rest) σ μ)
theorem dret_out {rk : Nat} {rest : List Value} {K : List Value → sS → dW → Prop} {r : Option Value} {σ : sS} {μ : dW} (h : dret rk rest K r σ μ) : K (r.toList ++ rest) σ μ := by
  unfold dret at h
  split at h
  · unfold qN at h
    split at h
    · exact h
    · exact h.elim
  · unfold qI at h
    split at h
    · exact h
    · exact h.elim
  · unfold qR at h
    split at h
    · exact h
    · exact h.elim
  · unfold qP at h
    split at h
    · exact h
    · exact h.elim
/-- what is read of the worlds -/
def gI (μ : dW) (a ci k : Nat) (f : Int32 → Prop) : Prop := ∃ (fs : List Value) (x : Int32), μ a = some (eO ci fs) ∧ fs[k]? = some (.int x) ∧ f x
def gR (μ : dW) (a ci k : Nat) (f : Nat → Prop) : Prop := ∃ (fs : List Value) (b : Nat), μ a = some (eO ci fs) ∧ fs[k]? = some (.ref b) ∧ f b
def pF (μ : dW) (a ci k : Nat) (v : Value) (f : dW → Prop) : Prop := ∃ fs : List Value, μ a = some (eO ci fs) ∧ k < fs.length ∧ f (dset μ a (eO ci (fs.set k v)))
def lA (μ : dW) (a : Nat) (f : Int32 → Prop) : Prop := ∃ (k n : Nat) (g : Nat → Int32), μ a = some (eA k n g) ∧ k ≤ 1 ∧ f (nI n)
def lR (μ : dW) (a : Nat) (f : Int32 → Prop) : Prop := ∃ (k n : Nat) (g : Nat → Option Nat), μ a = some (eR k n g) ∧ k ≤ 1 ∧ f (nI n)
def rdA (μ : dW) (k a : Nat) (i : Int32) (f : Int32 → Prop) : Prop := ∃ (n : Nat) (g : Nat → Int32), μ a = some (eA k n g) ∧ vp_in i n ∧ f (g i.toNatClampNeg)
def wrA (μ : dW) (k a : Nat) (i x : Int32) (f : dW → Prop) : Prop := ∃ (n : Nat) (g : Nat → Int32), μ a = some (eA k n g) ∧ vp_in i n ∧ f (dset μ a (eA k n (upd g i.toNatClampNeg x)))
def rdR (μ : dW) (a : Nat) (i : Int32) (f : Nat → Prop) : Prop := ∃ (k n : Nat) (g : Nat → Option Nat) (b : Nat), μ a = some (eR k n g) ∧ k ≤ 1 ∧ vp_in i n ∧ g i.toNatClampNeg = some b ∧ f b
def wrR (μ : dW) (a : Nat) (i : Int32) (v : Nat) (f : dW → Prop) : Prop := ∃ (k n : Nat) (g : Nat → Option Nat) (fs : List Value), μ a = some (eR k n g) ∧ k ≤ 1 ∧ vp_in i n ∧ μ v = some (eO (7 + k) fs) ∧ f (dset μ a (eR k n (va_up g i.toNatClampNeg (some v))))
def nwO (μ : dW) (u ci : Nat) (f : Nat → dW → Prop) : Prop := dNf ci + 1 ≤ u ∧ ∀ q : Nat, μ q = none → f q (dset μ q (eO ci (dfl ci)))
def nwA (μ : dW) (u k : Nat) (n : Int32) (f : Nat → dW → Prop) : Prop := ¬ n < 0 ∧ n.toNatClampNeg + 1 ≤ u ∧ n.toNatClampNeg ≤ 100000 ∧ ∀ q : Nat, μ q = none → f q (dset μ q (eA k n.toNatClampNeg (fun _ => 0)))
def nwR (μ : dW) (u k : Nat) (n : Int32) (f : Nat → dW → Prop) : Prop := ¬ n < 0 ∧ n.toNatClampNeg + 1 ≤ u ∧ n.toNatClampNeg ≤ 100000 ∧ ∀ q : Nat, μ q = none → f q (dset μ q (eR k n.toNatClampNeg (fun _ => none)))
def clA (μ : dW) (u a : Nat) (f : Nat → dW → Nat → Prop) : Prop := ∃ (n : Nat) (g : Nat → Int32), μ a = some (eA 0 n g) ∧ n + 1 ≤ u ∧ ∀ q : Nat, μ q = none → f q (dset μ q (eA 0 n g)) n
/-- a call, t cells of the stack, with u1 of the room -/
def dgo (B : dB) (ax : Nat → Nat) (d u : Nat) (y : sY) (t rk : Nat) (st : List Value) (σ : sS) (μ : dW) (K : List Value → Nat → sS → dW → Prop) : Prop :=
  cond (Nat.ble t (lenV st) && (c1s st && (Nat.ble (lenV (st.drop t)) 8 && Nat.ble t y.2.2.1))) (∃ u1, u1 ≤ u ∧ DCJ B ax d u1 y (st.take t).reverse σ μ (dret rk (st.drop t) (fun st' σ' μ' => K st' (u - u1) σ' μ'))) False
def toI : List Value → List sv
  | [] => []
  | v :: r => (match v with
    | .int x => .inl x
    | _ => .inl 0) :: toI r
def allI : List Value → Bool
  | [] => true
  | v :: r => (match v with
    | .int _ => true
    | _ => false) && allI r
def dvirt (B : dB) (ax : Nat → Nat) (d u : Nat) (ce : dCl) (st : List Value) (σ : sS) (μ : dW) (K : List Value → Nat → sS → dW → Prop) : Prop := match ce.2.1 with
  | 0 => x1R (st.drop ce.2.2.2.1) (fun a _ => (∃ fs, μ a = some (eO ce.2.2.2.2.2 fs)) ∧ dgo B ax d u ce.2.2.1 (ce.2.2.2.1 + 1) ce.2.2.2.2.1 st σ μ K)
  | 10 => x1R (st.drop ce.2.2.2.1) (fun a r => cond (allI (st.take ce.2.2.2.1) && (Nat.ble (ce.2.2.2.1 + 1) ce.2.2.1.2.2.1 && (c1s r && Nat.ble (lenV r) 8))) (a = ax 0 ∧ CJ LX d ce.2.2.1 (sR 0 (.inl 5) :: toI (st.take ce.2.2.2.1).reverse) σ (rI (fun x σ' => K (.int x :: r) u σ' μ))) False)
  | 11 => x1R st (fun a r => cond (c1s r && Nat.ble (lenV r) 8) (clA μ u a (fun q μ' n => K (.ref q :: r) (u - (n + 1)) σ μ')) False)
  | _ => False
def dstat (B : dB) (ax : Nat → Nat) (d u : Nat) (ce : dCl) (st : List Value) (σ : sS) (μ : dW) (K : List Value → Nat → sS → dW → Prop) : Prop := match ce.2.1 with
  | 2 => dgo B ax d u ce.2.2.1 ce.2.2.2.1 ce.2.2.2.2.1 st σ μ K
  | 5 => x2I st (fun x y r => cond (c1s r && Nat.ble (lenV r) 8) (K (.int (if y < x then y else x) :: r) u σ μ) False)
  | _ => False
def dspec (B : dB) (ax : Nat → Nat) (d u : Nat) (ce : dCl) (st : List Value) (σ : sS) (μ : dW) (K : List Value → Nat → sS → dW → Prop) : Prop := match ce.2.1 with
  | 8 => x1R (st.drop ce.2.2.2.1) (fun _ _ => dgo B ax d u ce.2.2.1 (ce.2.2.2.1 + 1) 0 st σ μ K)
  | 9 => x1R (st.drop ce.2.2.2.1) (fun _ _ => dgo B ax d u ce.2.2.1 (ce.2.2.2.1 + 1) 0 st σ μ K)
  | 12 => x1R st (fun _ r => cond (c1s r && Nat.ble (lenV r) 8) (K r u σ μ) False)
  | _ => False
def isRef (ret : Option FieldType) : Bool := match ret with
  | some (.object _) => true
  | some (.array _) => true
  | _ => false
def dinv (d idx : Nat) (ct : List dCl) (f : Nat → dCl → Prop) : Prop := match d with
  | 0 => False
  | d + 1 => match dcf idx ct with
    | some ce => f d ce
    | none => False
def wp1D (B : dB) (ax : Nat → Nat) (d u : Nat) (ini : Bool) (mL : Nat) (ret : Option FieldType) (ft : List dF) (ct : List dCl) (e : sT) (ls : dL) (st : List Value) (σ : sS) (μ : dW) (K : Nat → dL → List Value → Nat → sS → dW → Prop) (Q : dQ) : Prop :=
  match e.2.2.1 with
  | .iconst _ | .bipush _ | .sipush _ | .ldc _ => K (e.1 + e.2.1) ls (.int e.2.2.2.2.2.1 :: st) u σ μ
  | .aconst_null => K (e.1 + e.2.1) ls (.null :: st) u σ μ
  | .iload_n k => vgI k.val ls (fun x => K (e.1 + e.2.1) ls (.int x :: st) u σ μ)
  | .iload i => vgI i ls (fun x => K (e.1 + e.2.1) ls (.int x :: st) u σ μ)
  | .aload_n k => vgR k.val ls (fun a => K (e.1 + e.2.1) ls (.ref a :: st) u σ μ)
  | .aload i => vgR i ls (fun a => K (e.1 + e.2.1) ls (.ref a :: st) u σ μ)
  | .istore_n k => x1I st (fun x r => cond (Nat.ble (k.val + 1) mL) (K (e.1 + e.2.1) (sv1 k.val (.int x) ls) r u σ μ) False)
  | .istore i => x1I st (fun x r => cond (Nat.ble (i + 1) mL) (K (e.1 + e.2.1) (sv1 i (.int x) ls) r u σ μ) False)
  | .astore_n k => x1R st (fun a r => cond (Nat.ble (k.val + 1) mL) (K (e.1 + e.2.1) (sv1 k.val (.ref a) ls) r u σ μ) False)
  | .astore i => x1R st (fun a r => cond (Nat.ble (i + 1) mL) (K (e.1 + e.2.1) (sv1 i (.ref a) ls) r u σ μ) False)
  | .iinc i _ => vgI i ls (fun x => cond (Nat.ble (i + 1) mL) (K (e.1 + e.2.1) (sv1 i (.int (x + e.2.2.2.2.2.1)) ls) st u σ μ) False)
  | .iadd => x2I st (fun x y r => K (e.1 + e.2.1) ls (.int (x + y) :: r) u σ μ)
  | .isub => x2I st (fun x y r => K (e.1 + e.2.1) ls (.int (x - y) :: r) u σ μ)
  | .imul => x2I st (fun x y r => K (e.1 + e.2.1) ls (.int (x * y) :: r) u σ μ)
  | .idiv => x2I st (fun x y r => ¬ y = 0 ∧ K (e.1 + e.2.1) ls (.int (x / y) :: r) u σ μ)
  | .irem => x2I st (fun x y r => ¬ y = 0 ∧ K (e.1 + e.2.1) ls (.int (x - x / y * y) :: r) u σ μ)
  | .iand => x2I st (fun x y r => K (e.1 + e.2.1) ls (.int (x &&& y) :: r) u σ μ)
  | .ishr => x2I st (fun x y r => K (e.1 + e.2.1) ls (.int (x >>> (y &&& 31)) :: r) u σ μ)
  | .dup => match st with
    | v :: r => cond (c1 v) (K (e.1 + e.2.1) ls (v :: v :: r) u σ μ) False
    | _ => False
  | .pop => match st with
    | v :: r => cond (c1 v) (K (e.1 + e.2.1) ls r u σ μ) False
    | _ => False
  | .goto _ => K e.2.2.2.1 ls st u σ μ
  | .ifnonnull _ => x1V st (fun v r => (v = .null → K (e.1 + e.2.1) ls r u σ μ) ∧ (∀ a, v = .ref a → K e.2.2.2.1 ls r u σ μ) ∧ (v = .null ∨ ∃ a, v = .ref a))
  | .if_icmp .eq _ => x2I st (fun x y r => (x = y → K e.2.2.2.1 ls r u σ μ) ∧ (¬ x = y → K (e.1 + e.2.1) ls r u σ μ))
  | .if_icmp .ne _ => x2I st (fun x y r => (¬ x = y → K e.2.2.2.1 ls r u σ μ) ∧ (x = y → K (e.1 + e.2.1) ls r u σ μ))
  | .if_icmp .lt _ => x2I st (fun x y r => (x < y → K e.2.2.2.1 ls r u σ μ) ∧ (¬ x < y → K (e.1 + e.2.1) ls r u σ μ))
  | .if_icmp .ge _ => x2I st (fun x y r => (¬ x < y → K e.2.2.2.1 ls r u σ μ) ∧ (x < y → K (e.1 + e.2.1) ls r u σ μ))
  | .if_icmp .gt _ => x2I st (fun x y r => (y < x → K e.2.2.2.1 ls r u σ μ) ∧ (¬ y < x → K (e.1 + e.2.1) ls r u σ μ))
  | .if_icmp .le _ => x2I st (fun x y r => (¬ y < x → K e.2.2.2.1 ls r u σ μ) ∧ (y < x → K (e.1 + e.2.1) ls r u σ μ))
  | .ifCond .eq _ => x1I st (fun x r => (x = 0 → K e.2.2.2.1 ls r u σ μ) ∧ (¬ x = 0 → K (e.1 + e.2.1) ls r u σ μ))
  | .ifCond .ne _ => x1I st (fun x r => (¬ x = 0 → K e.2.2.2.1 ls r u σ μ) ∧ (x = 0 → K (e.1 + e.2.1) ls r u σ μ))
  | .ifCond .lt _ => x1I st (fun x r => (x < 0 → K e.2.2.2.1 ls r u σ μ) ∧ (¬ x < 0 → K (e.1 + e.2.1) ls r u σ μ))
  | .ifCond .ge _ => x1I st (fun x r => (¬ x < 0 → K e.2.2.2.1 ls r u σ μ) ∧ (x < 0 → K (e.1 + e.2.1) ls r u σ μ))
  | .ifCond .gt _ => x1I st (fun x r => (0 < x → K e.2.2.2.1 ls r u σ μ) ∧ (¬ 0 < x → K (e.1 + e.2.1) ls r u σ μ))
  | .ifCond .le _ => x1I st (fun x r => (¬ 0 < x → K e.2.2.2.1 ls r u σ μ) ∧ (0 < x → K (e.1 + e.2.1) ls r u σ μ))
  | .arraylength => x1R st (fun a r => match e.2.2.2.1 with
    | 0 => lA μ a (fun x => K (e.1 + e.2.1) ls (.int x :: r) u σ μ)
    | 1 => a = B.1 ∧ K (e.1 + e.2.1) ls (.int (nI B.2.1) :: r) u σ μ
    | _ => lR μ a (fun x => K (e.1 + e.2.1) ls (.int x :: r) u σ μ))
  | .iaload => xIR st (fun i a r => match e.2.2.2.1 with
    | 0 => rdA μ 0 a i (fun x => K (e.1 + e.2.1) ls (.int x :: r) u σ μ)
    | _ => a = B.1 ∧ vp_in i B.2.1 ∧ K (e.1 + e.2.1) ls (.int (B.2.2 i.toNatClampNeg) :: r) u σ μ)
  | .iastore => xIIR st (fun x i a r => wrA μ 0 a i x (fun μ' => K (e.1 + e.2.1) ls r u σ μ'))
  | .baload => xIR st (fun i a r => rdA μ 1 a i (fun x => K (e.1 + e.2.1) ls (.int x :: r) u σ μ))
  | .bastore => xIIR st (fun x i a r => (x = 0 ∨ x = 1) ∧ wrA μ 1 a i x (fun μ' => K (e.1 + e.2.1) ls r u σ μ'))
  | .aaload => xIR st (fun i a r => rdR μ a i (fun b => K (e.1 + e.2.1) ls (.ref b :: r) u σ μ))
  | .aastore => xRIR st (fun v i a r => wrR μ a i v (fun μ' => K (e.1 + e.2.1) ls r u σ μ'))
  | .getfield idx => x1R st (fun a r => match dff idx ft with
    | some (ci, k, 0, _) => gI μ a ci k (fun x => K (e.1 + e.2.1) ls (.int x :: r) u σ μ)
    | some (ci, k, 1, _) => gR μ a ci k (fun b => K (e.1 + e.2.1) ls (.ref b :: r) u σ μ)
    | _ => False)
  | .putfield idx => match dff idx ft with
    | some (ci, k, 0, fin) => xIR st (fun x a r => cond (Nat.beq fin 0 || (ini && Nat.beq fin 1)) (pF μ a ci k (.int x) (fun μ' => K (e.1 + e.2.1) ls r u σ μ')) False)
    | some (ci, k, 1, fin) => xRR st (fun b a r => cond (Nat.beq fin 0 || (ini && Nat.beq fin 1)) (pF μ a ci k (.ref b) (fun μ' => K (e.1 + e.2.1) ls r u σ μ')) False)
    | _ => False
  | .new idx => match dcf idx ct with
    | some (_, 20, _, _, _, ci) => nwO μ u ci (fun q μ' => K (e.1 + e.2.1) ls (.ref q :: st) (u - (dNf ci + 1)) σ μ')
    | _ => False
  | .anewarray idx => match dcf (idx + 10000) ct with
    | some (_, 21, _, _, _, k) => x1I st (fun n r => nwR μ u k n (fun q μ' => K (e.1 + e.2.1) ls (.ref q :: r) (u - (n.toNatClampNeg + 1)) σ μ'))
    | _ => False
  | .newarray .int => x1I st (fun n r => nwA μ u 0 n (fun q μ' => K (e.1 + e.2.1) ls (.ref q :: r) (u - (n.toNatClampNeg + 1)) σ μ'))
  | .newarray .boolean => x1I st (fun n r => nwA μ u 1 n (fun q μ' => K (e.1 + e.2.1) ls (.ref q :: r) (u - (n.toNatClampNeg + 1)) σ μ'))
  | .checkcast idx => match dcf idx ct with
    | some (_, 22, _, _, _, _) => x1R st (fun a r => (∃ (n : Nat) (g : Nat → Int32), μ a = some (eA 0 n g)) ∧ K (e.1 + e.2.1) ls (.ref a :: r) u σ μ)
    | _ => False
  | .invokestatic idx => dinv d idx ct (fun d ce => dstat B ax d u ce st σ μ (K (e.1 + e.2.1) ls))
  | .invokevirtual idx => dinv d idx ct (fun d ce => dvirt B ax d u ce st σ μ (K (e.1 + e.2.1) ls))
  | .invokespecial idx => dinv d idx ct (fun d ce => dspec B ax d u ce st σ μ (K (e.1 + e.2.1) ls))
  | .ireturn => match st with
    | [.int x] => match ret with
      | some .int => Q (some (.int x)) σ μ
      | some .boolean => (x = 0 ∨ x = 1) ∧ Q (some (.int x)) σ μ
      | _ => False
    | _ => False
  | .areturn => match st with
    | [.ref a] => cond (isRef ret) (Q (some (.ref a)) σ μ) False
    | [.null] => cond (isRef ret) (Q (some .null) σ μ) False
    | _ => False
  | .return_ => match st, ret with
    | [], none => Q none σ μ
    | _, _ => False
  | _ => False
end
section
/-! dm: what the tables of a method must be; helpers of the step -/
def dSide (own : String) (e : sT) : Bool := match e.2.2.1 with
  | .iconst n => decide (Int32.ofInt n = e.2.2.2.2.2.1) && Nat.beq e.2.1 1
  | .bipush n => decide ((Int8.ofInt n).toInt32 = e.2.2.2.2.2.1) && Nat.beq e.2.1 2
  | .sipush n => decide ((Int16.ofInt n).toInt32 = e.2.2.2.2.2.1) && Nat.beq e.2.1 3
  | .ldc i => decide ((own, i, e.2.2.2.2.2.1) ∈ CK) && Nat.beq e.2.1 2
  | .iload _ | .aload _ | .istore _ | .astore _ | .newarray _ => Nat.beq e.2.1 2
  | .iinc _ n => decide (Int32.ofInt n = e.2.2.2.2.2.1) && Nat.beq e.2.1 3
  | .goto o | .ifnonnull o | .if_icmp _ o | .ifCond _ o => decide ((e.1 : Int) + o = (e.2.2.2.1 : Int)) && Nat.beq e.2.1 3
  | .getfield _ | .putfield _ | .invokestatic _ | .invokevirtual _ | .invokespecial _ | .new _ | .anewarray _ | .checkcast _ => Nat.beq e.2.1 3
  | _ => Nat.beq e.2.1 1
def dTok (own : String) (bytes : ByteArray) (e : sT) : Prop := decode bytes e.1 = .ok (e.2.2.1, e.2.1) ∧ dSide own e = true
def dFOK (own : String) (e : dF) : Prop := ∃ (C : String) (T : u_T) (N : Nat), cOK e.2.1 C T N ∧ e.2.2.1 < N ∧ Cond.fieldLink own e.1 (T e.2.2.1).1 (T e.2.2.1).2.1 (T e.2.2.1).2.2.1 ∈ ALL ∧
  (e.2.2.2.1 = 0 → parseFieldDescriptor (T e.2.2.1).2.2.1 = some .int) ∧ (e.2.2.2.1 = 1 → ∃ ty : FieldType, parseFieldDescriptor (T e.2.2.1).2.2.1 = some ty ∧ ∀ b : Nat, narrow ty (.ref b) = .ref b ∧ fits ty (.ref b) = true) ∧
  (e.2.2.2.2 = 0 → (T e.2.2.1).2.2.2 = false) ∧ (e.2.2.2.2 = 1 → (T e.2.2.1).2.2.2 = true ∧ (T e.2.2.1).1 = own)
def dyOK (e : dCl) : Prop := plainName e.2.2.1.1.cls = true ∧ Cond.code e.2.2.1.1 e.2.2.1.2.1 e.2.2.1.2.2.1 e.2.2.1.2.2.2 ∈ ALL ∧ e.2.2.1.2.2.1 ≤ 21 ∧ notMH e.2.2.1.1.cls ∧ (parseMethodDescriptor e.2.2.1.1.desc).map (fun d => d.parameters.length) = some e.2.2.2.1
def cloneName : MethodName := ⟨"[I", "clone", "()Ljava/lang/Object;"⟩
def objClone : MethodName := ⟨"java/lang/Object", "clone", "()Ljava/lang/Object;"⟩
def dCOK (own : String) (e : dCl) : Prop := match e.2.1 with
  | 0 => dyOK e ∧ ∃ C T N, classes[e.2.2.2.2.2]? = some (C, T, N) ∧ e.2.2.1.1.cls = C ∧ Cond.methodLink own e.1 e.2.2.1.1 ∈ ALL ∧ Cond.instanceMethod e.2.2.1.1 ∈ ALL ∧ Cond.selects C e.2.2.1.1 e.2.2.1.1 ∈ ALL ∧ Cond.initialized C ∈ ALL
  | 2 => dyOK e ∧ Cond.methodLink own e.1 e.2.2.1.1 ∈ ALL ∧ Cond.static e.2.2.1.1 ∈ ALL ∧ Cond.initialized e.2.2.1.1.cls ∈ ALL
  | 5 => Cond.methodLink own e.1 Lib.Math.min.name ∈ ALL ∧ Cond.static Lib.Math.min.name ∈ ALL ∧ Cond.initialized "java/lang/Math" ∈ ALL ∧ Cond.code Lib.Math.min.name Lib.Math.min.code 2 (some .int) ∈ ALL
  | 8 => dyOK e ∧ e.2.2.1.1.name = "<init>" ∧ e.2.2.1.2.2.2 = none ∧ Cond.initialized e.2.2.1.1.cls ∈ ALL ∧ Cond.methodLink own e.1 e.2.2.1.1 ∈ ALL ∧ Cond.instanceMethod e.2.2.1.1 ∈ ALL
  | 9 => dyOK e ∧ e.2.2.1.1.name = "<init>" ∧ e.2.2.1.2.2.2 = none ∧ Cond.initialized e.2.2.1.1.cls ∈ ALL ∧ (∃ host, Cond.methodLinkNest own e.1 e.2.2.1.1 host ∈ NW2) ∧ Cond.instanceMethod e.2.2.1.1 ∈ ALL
  | 10 => eOK LX own (e.1, 0, 5, e.2.2.1, e.2.2.2.1, ⟨"", "", ""⟩, "", pr0)
  | 11 => Cond.methodLink own e.1 cloneName ∈ ALL ∧ Cond.sameMethod "[I" "java/lang/Object" "clone" "()Ljava/lang/Object;" ∈ ALL ∧ Cond.native objClone ∈ ALL ∧ Cond.instanceMethod objClone ∈ ALL ∧ Cond.selects "[I" cloneName objClone ∈ ALL
  | 12 => Cond.methodLink own e.1 Lib.objectInit ∈ ALL ∧ Cond.instanceMethod Lib.objectInit ∈ ALL ∧ Cond.code Lib.objectInit ⟨#[0xb1]⟩ 1 none ∈ ALL
  | 20 => ∃ C T N, cOK e.2.2.2.2.2 C T N ∧ N = dNf e.2.2.2.2.2 ∧ (∃ ty : Nat → FieldType, (∀ k, k < N → parseFieldDescriptor (T k).2.2.1 = some (ty k)) ∧ ∀ j, j < N → defaultValue (ty j) = vp_V (dfl e.2.2.2.2.2) j) ∧ Cond.classLink own e.1 C ∈ ALL ∧ Cond.instantiable C N ∈ ALL ∧ Cond.initialized C ∈ ALL
  | 21 => (e.2.2.2.2.2 = 0 ∧ Cond.classLink own (e.1 - 10000) nmV ∈ ALL) ∨ (e.2.2.2.2.2 = 1 ∧ Cond.classLink own (e.1 - 10000) nmC ∈ ALL)
  | 22 => Cond.classLink own e.1 "[I" ∈ ALL
  | _ => False
theorem x1I_inv {st : List Value} {f : Int32 → List Value → Prop} (h : x1I st f) : ∃ x r, st = .int x :: r ∧ f x r := by
  unfold x1I at h
  split at h
  · exact ⟨_, _, rfl, h⟩
  · exact h.elim
theorem x2I_inv {st : List Value} {f : Int32 → Int32 → List Value → Prop} (h : x2I st f) : ∃ x y r, st = .int y :: .int x :: r ∧ f x y r := by
  unfold x2I at h
  split at h
  · exact ⟨_, _, _, rfl, h⟩
  · exact h.elim
theorem x1R_inv {st : List Value} {f : Nat → List Value → Prop} (h : x1R st f) : ∃ a r, st = .ref a :: r ∧ f a r := by
  unfold x1R at h
  split at h
  · exact ⟨_, _, rfl, h⟩
  · exact h.elim
theorem xIR_inv {st : List Value} {f : Int32 → Nat → List Value → Prop} (h : xIR st f) : ∃ i a r, st = .int i :: .ref a :: r ∧ f i a r := by
  unfold xIR at h
  split at h
  · exact ⟨_, _, _, rfl, h⟩
  · exact h.elim
theorem xIIR_inv {st : List Value} {f : Int32 → Int32 → Nat → List Value → Prop} (h : xIIR st f) : ∃ x i a r, st = .int x :: .int i :: .ref a :: r ∧ f x i a r := by
  unfold xIIR at h
  split at h
  · exact ⟨_, _, _, _, rfl, h⟩
  · exact h.elim
theorem xRIR_inv {st : List Value} {f : Nat → Int32 → Nat → List Value → Prop} (h : xRIR st f) : ∃ v i a r, st = .ref v :: .int i :: .ref a :: r ∧ f v i a r := by
  unfold xRIR at h
  split at h
  · exact ⟨_, _, _, _, rfl, h⟩
  · exact h.elim
theorem xRR_inv {st : List Value} {f : Nat → Nat → List Value → Prop} (h : xRR st f) : ∃ v a r, st = .ref v :: .ref a :: r ∧ f v a r := by
  unfold xRR at h
  split at h
  · exact ⟨_, _, _, rfl, h⟩
  · exact h.elim
theorem x1V_inv {st : List Value} {f : Value → List Value → Prop} (h : x1V st f) : ∃ v r, st = v :: r ∧ f v r := by
  unfold x1V at h
  split at h
  · exact ⟨_, _, rfl, h⟩
  · exact h.elim
theorem vgI_inv {i : Nat} {ls : dL} {f : Int32 → Prop} (h : vgI i ls f) : ∃ x, gv i ls = some (.int x) ∧ f x := by
  unfold vgI at h
  split at h
  · rename_i x hx
    exact ⟨x, hx, h⟩
  · exact h.elim
theorem vgR_inv {i : Nat} {ls : dL} {f : Nat → Prop} (h : vgR i ls f) : ∃ a, gv i ls = some (.ref a) ∧ f a := by
  unfold vgR at h
  split at h
  · rename_i x hx
    exact ⟨x, hx, h⟩
  · exact h.elim
theorem gv_mem : ∀ (ls : dL) (i : Nat) (v : Value), gv i ls = some v → (i, v) ∈ ls
  | [], i, v, h => by simp [gv] at h
  | q :: r, i, v, h => by
    obtain ⟨j, w⟩ := q
    simp only [gv] at h
    cases hb : Nat.beq j i with
    | true =>
      rw [hb] at h
      have e := Nat.eq_of_beq_eq_true hb
      subst e
      have hw : w = v := by simpa using h
      subst hw
      exact List.mem_cons_self
    | false =>
      rw [hb] at h
      exact List.mem_cons_of_mem _ (gv_mem r i v h)
theorem lv_gv {lsA : Array Slot} {nL : Nat} {ls : dL} (h : lv_has lsA nL ls) {i : Nat} {v : Value} (hg : gv i ls = some v) : lsA[i]? = some (.val v) := h.2.2 (i, v) (gv_mem ls i v hg)
theorem iv_mem : ∀ (ls : dL) (i : Nat) (v : Value) (q : Nat × Value), q ∈ iv i v ls → q = (i, v) ∨ q ∈ ls
  | [], i, v, q, h => by
    simp only [iv, List.mem_singleton] at h
    exact Or.inl h
  | p :: r, i, v, q, h => by
    simp only [iv] at h
    cases hb : Nat.blt i p.1 with
    | true =>
      rw [hb] at h
      exact List.mem_cons.mp h
    | false =>
      rw [hb] at h
      rcases List.mem_cons.mp h with e | h
      · exact Or.inr (e ▸ List.mem_cons_self)
      · rcases iv_mem r i v q h with e | h
        · exact Or.inl e
        · exact Or.inr (List.mem_cons_of_mem _ h)
theorem fv1_mem : ∀ (ls : dL) (i : Nat) (q : Nat × Value), q ∈ fv1 i ls → q ∈ ls ∧ ¬ q.1 = i ∧ (q.1 + 1 = i → c1 q.2 = true)
  | [], i, q, h => by simp [fv1] at h
  | p :: r, i, q, h => by
    simp only [fv1] at h
    have back : q ∈ fv1 i r → q ∈ p :: r ∧ ¬ q.1 = i ∧ (q.1 + 1 = i → c1 q.2 = true) := fun z => ⟨List.mem_cons_of_mem _ (fv1_mem r i q z).1, (fv1_mem r i q z).2⟩
    cases hb : Nat.beq p.1 i with
    | true => rw [hb] at h; exact back h
    | false =>
      rw [hb] at h
      have n1 : ¬ p.1 = i := Nat.ne_of_beq_eq_false hb
      cases hb2 : Nat.beq (p.1 + 1) i with
      | false =>
        rw [hb2] at h
        rcases List.mem_cons.mp h with rfl | h
        · exact ⟨List.mem_cons_self, n1, fun z => absurd z (Nat.ne_of_beq_eq_false hb2)⟩
        · exact back h
      | true =>
        rw [hb2] at h
        cases hc : c1 p.2 with
        | false => rw [hc] at h; exact back h
        | true =>
          rw [hc] at h
          rcases List.mem_cons.mp h with rfl | h
          · exact ⟨List.mem_cons_self, n1, fun _ => hc⟩
          · exact back h
theorem sv1_mem {ls : dL} {i : Nat} {v : Value} : ∀ q ∈ sv1 i v ls, q ∈ (i, v) :: ls.filter (fun q => !(q.1 == i) && !(q.1 + 1 == i && q.2.category == 2)) := by
  intro q hq
  rcases iv_mem _ i v q hq with rfl | h
  · exact List.mem_cons_self
  · obtain ⟨h1, h2, h3⟩ := fv1_mem ls i q h
    refine List.mem_cons_of_mem _ (List.mem_filter.mpr ⟨h1, ?_⟩)
    simp only [Bool.and_eq_true, Bool.not_eq_true', beq_eq_false_iff_ne, ne_eq]
    refine ⟨h2, ?_⟩
    by_cases z : q.1 + 1 = i
    · simp [c1_cat (h3 z)]
    · simp [z]
theorem dff_mem {idx : Nat} : ∀ {ft : List dF} {q : Nat × Nat × Nat × Nat}, dff idx ft = some q → (idx, q) ∈ ft
  | [], q, h => by cases h
  | e :: r, q, h => by
    obtain ⟨a, c⟩ := e
    simp only [dff] at h
    cases hb : Nat.beq a idx with
    | true =>
      rw [hb] at h
      have e1 := Nat.eq_of_beq_eq_true hb
      subst e1
      have : c = q := by simpa using h
      subst this
      exact List.mem_cons_self
    | false =>
      rw [hb] at h
      exact List.mem_cons_of_mem _ (dff_mem h)
theorem dcf_mem {idx : Nat} : ∀ {ct : List dCl} {e : dCl}, dcf idx ct = some e → e ∈ ct ∧ e.1 = idx
  | [], e, h => by cases h
  | q :: r, e, h => by
    simp only [dcf] at h
    cases hb : Nat.beq q.1 idx with
    | true =>
      rw [hb] at h
      have : q = e := by simpa using h
      subst this
      exact ⟨List.mem_cons_self, Nat.eq_of_beq_eq_true hb⟩
    | false =>
      rw [hb] at h
      exact ⟨List.mem_cons_of_mem _ (dcf_mem h).1, (dcf_mem h).2⟩
theorem wl_addr {cA : ClassId} {ad : Nat → Nat} {σ σ' : sS} {Y : List kd} {i : Nat} {q : Nat × va_E} (h : (wl cA ad σ' Y)[i]? = some q) : ∃ q0, (wl cA ad σ Y)[i]? = some q0 ∧ q0.1 = q.1 := by
  unfold wl at h ⊢
  rw [List.getElem?_mapIdx] at h ⊢
  cases hY : Y[i]? with
  | none => rw [hY] at h; cases h
  | some e =>
    rw [hY] at h
    have : (ad i, ent cA ad σ' i e) = q := by simpa using h
    subst this
    exact ⟨_, rfl, rfl⟩
theorem dP_gf {D : va_G} {K : dK} {ax : Nat → Nat} {σ σ' : sS} {ws : va_W} {μ : dW} {A : Nat → Prop} {H H1 : Heap} (h : dP D K ax σ ws μ A H) (hP1 : va_P D classes (wG K ax σ') H1) (hk : ∀ q : Nat, q < H.size → ¬ va_A (wG K ax σ) H.size q → H1[q]? = H[q]?) : dP D K ax σ' ws μ A H1 := by
  have up2 : ∀ (j : Nat) (q : Nat × va_E), ws[j]? = some q → (wG K ax σ ++ ws)[(wG K ax σ).length + j]? = some q := fun j q hj => by rw [List.getElem?_append_right (Nat.le_add_right _ _), Nat.add_sub_cancel_left]; exact hj
  have up1 : ∀ (i : Nat) (q : Nat × va_E), (wG K ax σ)[i]? = some q → (wG K ax σ ++ ws)[i]? = some q := fun i q hi => by rw [List.getElem?_append_left (List.getElem?_eq_some_iff.mp hi).1]; exact hi
  have apart : ∀ (i j : Nat) (x y : Nat × va_E), (wG K ax σ)[i]? = some x → ws[j]? = some y → x.1 ≠ y.1 := by
    intro i j x y hi hj hxy
    have := h.2.2.1 i _ x y (up1 i x hi) (up2 j y hj) hxy
    have := (List.getElem?_eq_some_iff.mp hi).1
    omega
  refine ⟨h.1, va_P.app hP1 (fun k q hq => ?_), va_D.app ⟨fun i j x y hi hj hxy => ?_, fun k q hq => ?_⟩ ⟨fun i j x y hi hj hxy => ?_, fun k q hq => ?_⟩ (fun i j x y hi hj hxy => ?_)⟩
  · have h8 := h.2.1 _ q (up2 k q hq)
    refine h8.kept (hk q.1 h8.lt ?_)
    rintro (⟨i, en, hi⟩ | hz)
    · exact apart i k _ q hi hq rfl
    · have := h8.lt
      omega
  · obtain ⟨x0, hx0, ex⟩ := wl_addr (σ := σ) hi
    obtain ⟨y0, hy0, ey⟩ := wl_addr (σ := σ) hj
    exact h.2.2.1 i j x0 y0 (up1 i _ hx0) (up1 j _ hy0) (by rw [ex, ey]; exact hxy)
  · obtain ⟨x0, hx0, ex⟩ := wl_addr (σ := σ) hq
    rw [← ex]
    exact h.2.2.2 k x0 (up1 k _ hx0)
  · exact Nat.add_left_cancel (h.2.2.1 _ _ x y (up2 i x hi) (up2 j y hj) hxy)
  · exact h.2.2.2 _ q (up2 k q hq)
  · obtain ⟨x0, hx0, ex⟩ := wl_addr (σ := σ) hi
    exact apart i j x0 y hx0 hj (by rw [ex]; exact hxy)
theorem aw_bool : Cond.arrayClass .boolean ∈ ALL := ALL_in 795 (by decide +kernel) rfl
section DNEW
variable {p : Program} {l : Launch} {e : Env} {R : Room} {s : State} {m : MethodId} {args : Array Value} {below : List Frame} {meth : Method} {c : Code} {H : Heap} {locs : List Loc} {cells slots : Nat} {Qf : State → Prop}
variable {cc : ByteArray} {pc : Nat} {ls : Array Slot} {rest : List Value} {D : va_G} {K : dK} {A : Nat → Prop} {ws : va_W} {H0 : Heap}
theorem x_newz (hz : (Cond.arrayClass .boolean).before args s = true) (hx : p.tables.exec = Jvm.exec) (hb : c.code = cc) (hK : va_K D classes (dTy K) s) (hP : va_P D classes ws H) (hD : va_D A ws) (hS : va_S A H0 H locs) (hA : ∀ q, H0.size ≤ q → A q)
    {n : Int32} (N : Nat) (hn : ¬ n < 0) (hN : n.toNatClampNeg = N) (hbytes : N * 4 ≤ 536870912) (hcells : cells + 1 ≤ R.cells) (hslots : slots + N ≤ R.slots) (hdg : decode cc pc = .ok (.newarray .boolean, 2))
    (kk : ∀ (q : Nat) (H1 : Heap), va_P D classes (ws ++ [(q, .inl (K.2.1, N, .inl (fun _ => 0)))]) H1 → va_D A (ws ++ [(q, .inl (K.2.1, N, .inl (fun _ => 0)))]) → va_S A H0 H1 locs → W p l e R s m args below meth c H1 locs (cells + 1) (slots + N) Qf (F0 m (pc + 2) ls (.ref q :: rest))) : W p l e R s m args below meth c H locs cells slots Qf (F0 m pc ls (.int n :: rest)) := by
  refine va_newa (atype := .boolean) (ty := .boolean) hx hb hz rfl hK hP hD hS hA (N' := N) (a0 := (N, .inl (fun _ => 0))) (fun cA => rfl) hn hN (Nat.le_trans (Nat.mul_le_mul_left N (by decide : componentBytes .boolean ≤ 4)) hbytes) hcells hslots hdg ?_
  intro q cA' H1 hK' hP' hD' hS'
  have e1 : s.vm.findClass ("[" ++ FieldType.boolean.toString) = some K.2.1 := (hK.2 1 _ rfl).2
  have e2 : s.vm.findClass ("[" ++ FieldType.boolean.toString) = some cA' := (hK'.2 4 _ rfl).2
  have e3 : cA' = K.2.1 := Option.some.inj (e2.symm.trans e1)
  subst e3
  exact kk q H1 hP' hD' hS'
theorem x_newq {C : String} {t0 : Nat} {cA : ClassId} {own : String} {index : Nat} (ht : (dTy K)[t0]? = some (cA, .object C)) (hown : s.vm.findClass own = some m.cls) (hcl : (Cond.classLink own index C).before args s = true) (hover : va_AO C s) (hx : p.tables.exec = Jvm.exec) (hb : c.code = cc) (hK : va_K D classes (dTy K) s) (hP : va_P D classes ws H) (hD : va_D A ws) (hS : va_S A H0 H locs) (hA : ∀ q, H0.size ≤ q → A q)
    {n : Int32} (N : Nat) (hn : ¬ n < 0) (hN : n.toNatClampNeg = N) (hbytes : N * 4 ≤ 536870912) (hcells : cells + 1 ≤ R.cells) (hslots : slots + N ≤ R.slots) (hdg : decode cc pc = .ok (.anewarray index, 3))
    (kk : ∀ (q : Nat) (H1 : Heap), va_P D classes (ws ++ [(q, .inl (cA, N, .inr (.inr (.inr (.inr (fun _ => none))))))]) H1 → va_D A (ws ++ [(q, .inl (cA, N, .inr (.inr (.inr (.inr (fun _ => none))))))]) → va_S A H0 H1 locs → W p l e R s m args below meth c H1 locs (cells + 1) (slots + N) Qf (F0 m (pc + 3) ls (.ref q :: rest))) : W p l e R s m args below meth c H locs cells slots Qf (F0 m pc ls (.int n :: rest)) := by
  refine va_newq hx hb hown hcl hover hK hP hD hS hA hn hN hbytes hcells hslots hdg ?_
  intro q cA' H1 hK' hP' hD' hS'
  obtain ⟨_, _, _, _, _, e1⟩ := (hK.2 t0 _ ht).2
  obtain ⟨_, _, _, _, _, e2⟩ := (hK'.2 4 _ rfl).2
  have e3 : cA' = cA := Option.some.inj (e2.symm.trans e1)
  subst e3
  exact kk q H1 hP' hD' hS'
end DNEW
end
section
/-! dm: one step -/
section DCALL
variable {p : Program} {l : Launch} {en : Env} {R : Room} {s : State} {m : MethodId} {args : Array Value} {below : List Frame} {meth : Method} {c : Code} {H : Heap} {locs : List Loc} {Qf : State → Prop} {cells slots u1 : Nat}
variable {B : dB} {D : va_G} {K : dK} {ax : Nat → Nat} {A : Nat → Prop} {σ : sS} {μ : dW} {ws : va_W} {lsA : Array Slot} {pc : Nat} {st0 rest : List Value} {Q' : dQ} {as' : Array Value}
theorem dcall_go (hr : va_Run p l en R s m args below meth c H locs cells slots u1 u1 (F0 m pc lsA st0) rest (dQc D K ax (va_A (wG K ax σ ++ ws) H.size) Q' as') (va_A (wG K ax σ ++ ws) H.size)) (hS : va_S A s.heap H locs) (hD : va_D A (wG K ax σ ++ ws)) (hA : ∀ q : Nat, s.heap.size ≤ q → A q)
    (kk : ∀ (r : Option Value) (σ' : sS) (μ' : dW) (ws' : va_W) (H1 : Heap) (locs1 : List Loc), Q' r σ' μ' → dP D K ax σ' ws' μ' A H1 → va_S A s.heap H1 locs1 → W p l en R s m args below meth c H1 locs1 (cells + u1) (slots + u1) Qf (F0 m (pc + 3) lsA (r.toList ++ rest))) : W p l en R s m args below meth c H locs cells slots Qf (F0 m pc lsA st0) := by
  have hsub : ∀ q, va_A (wG K ax σ ++ ws) H.size q → A q := by
    intro q hq
    rcases hq with ⟨k, en, hk⟩ | hq
    · exact hD.2 k _ hk
    · exact hA q (Nat.le_trans hS.1 hq)
  intro T hT X
  obtain ⟨v, st₀, t, T', L, h0, X', hL, e1, e2, ⟨⟨r, σ', μ', ws', hv, hq, hp⟩, hz, hk⟩, stp⟩ := hr T hT X
  cases hv
  rw [h0] at hz hk
  obtain ⟨t2, a1, b1⟩ := kk v σ' μ' ws' T'.heap (locs ++ L) hq (by rw [e1]; exact ⟨hp.1, hp.2.1, hp.2.2.weaken (fun k q _ h => hsub q.1 h)⟩)
    ⟨Nat.le_trans hS.1 (by rw [e1]; exact hz), fun q h1 h2 => by rw [e1, hk q (Nat.lt_of_lt_of_le h1 hS.1) (fun z => h2 (hsub q z))]; exact hS.2.1 q h1 h2, fun q hq => by
      rcases List.mem_append.mp hq with h | h
      · exact hS.2.2 q h
      · exact hsub _ (hL q h)⟩ T' rfl X'
  exact ⟨t2, stp t2 a1, b1⟩
end DCALL
theorem takeV {st : List Value} {t : Nat} : st = (st.take t).reverse.reverse ++ st.drop t := by rw [List.reverse_reverse, List.take_append_drop]
theorem c1s_take : ∀ {st : List Value} (t : Nat), c1s st = true → c1s (st.take t) = true ∧ c1s (st.drop t) = true
  | [], t, _ => by simp [c1s]
  | v :: r, 0, h => ⟨by simp [c1s], h⟩
  | v :: r, t + 1, h => by
    simp only [c1s, Bool.and_eq_true] at h
    obtain ⟨e1, e2⟩ := c1s_take t h.2
    exact ⟨by simp [c1s, h.1, e1], by simpa using e2⟩
theorem c1s_app : ∀ {a b : List Value}, c1s a = true → c1s b = true → c1s (a ++ b) = true
  | [], b, _, h => h
  | v :: r, b, h, hb => by
    simp only [c1s, Bool.and_eq_true] at h
    simp only [List.cons_append, c1s, h.1, c1s_app h.2 hb, Bool.and_self]
theorem c1s_rev : ∀ {a : List Value}, c1s a = true → c1s a.reverse = true
  | [], _ => rfl
  | v :: r, h => by
    simp only [c1s, Bool.and_eq_true] at h
    rw [List.reverse_cons]
    exact c1s_app (c1s_rev h.2) (by simp [c1s, h.1])
theorem toI_cv (ad : Nat → Nat) : ∀ {a : List Value}, allI a = true → (toI a).map (cv ad) = a
  | [], _ => rfl
  | v :: r, h => by
    simp only [allI, Bool.and_eq_true] at h
    have hr := toI_cv ad h.2
    cases v with
    | int x => simp only [toI, List.map_cons, hr]; rfl
    | _ => exact absurd h.1 (by simp)
theorem allI_app : ∀ {a b : List Value}, allI a = true → allI b = true → allI (a ++ b) = true
  | [], b, _, h => h
  | v :: r, b, h, hb => by
    simp only [allI, Bool.and_eq_true] at h
    simp only [List.cons_append, allI, h.1, allI_app h.2 hb, Bool.and_self]
theorem allI_rev : ∀ {a : List Value}, allI a = true → allI a.reverse = true
  | [], _ => rfl
  | v :: r, h => by
    simp only [allI, Bool.and_eq_true] at h
    rw [List.reverse_cons]
    exact allI_app (allI_rev h.2) (by simp [allI, h.1])
theorem toI_len : ∀ a : List Value, (toI a).length = a.length
  | [] => rfl
  | _ :: r => by simp [toI, toI_len r]
theorem toI_wt (Y : List kd) : ∀ a : List Value, wtS Y (toI a)
  | [] => fun v hv => by cases hv
  | v :: r => by
    refine wtS_cons ?_ (toI_wt Y r)
    cases v <;> exact trivial
theorem toI_sum : ∀ a : List Value, wsum (toI a) = a.length
  | [] => rfl
  | v :: r => by
    have := toI_sum r
    cases v <;> (simp only [toI, wsum, List.length_cons, this, cat2]; simp; omega)
theorem split_ref {st r : List Value} {n a : Nat} (hdr : st.drop n = .ref a :: r) : st = (st.take n).reverse.reverse ++ .ref a :: st.drop (n + 1) ∧ (st.take (n + 1)).reverse = .ref a :: (st.take n).reverse := by
  refine ⟨?_, ?_⟩
  · rw [List.reverse_reverse]
    have e9 : st.drop (n + 1) = r := by
      have : st.drop (n + 1) = (st.drop n).drop 1 := by rw [List.drop_drop]
      rw [this, hdr]
      rfl
    rw [e9, ← hdr, List.take_append_drop]
  · have h0 : st[n]? = some (.ref a) := by
      have : (st.drop n)[0]? = some (.ref a) := by rw [hdr]; rfl
      rw [List.getElem?_drop] at this
      simpa using this
    rw [List.take_add_one, h0]
    simp
section DGO
variable {p : Program} {l : Launch} {en : Env} {R : Room} {s : State} {m : MethodId} {args : Array Value} {below : List Frame} {meth : Method} {c : Code} {H : Heap} {locs : List Loc} {Qf : State → Prop} {cells slots mc ms : Nat}
variable {B : dB} {D : va_G} {K : dK} {ax : Nat → Nat} {A : Nat → Prop} {σ : sS} {μ : dW} {ws : va_W} {lsA : Array Slot} {pc d u t rk : Nat} {st : List Value} {y y0 : sY} {KK : List Value → Nat → sS → dW → Prop}
theorem dgo_go (h : dgo B ax d u y t rk st σ μ KK) (hy : plainName y.1.cls = true) (hCx : dCx B (d + 1) y0 D K A p R s m args meth c) (hP : dP D K ax σ ws μ A H) (hS : va_S A s.heap H locs) (h1 : cells + u ≤ mc) (h2 : slots + u ≤ ms) (h3 : mc ≤ R.cells) (h4 : ms ≤ R.slots)
    (run : ∀ (u1 : Nat) (Q' : dQ), cells + u1 ≤ R.cells ∧ slots + u1 ≤ R.slots → Met l y.1 (wsY y) (rmU d u1) (dPc B D K ax σ ws μ (st.take t).reverse H.size) (dQc D K ax (va_A (wG K ax σ ++ ws) H.size) Q') u1 u1 (va_A (wG K ax σ ++ ws) H.size) →
      (2 * (F0 m pc lsA st).monitorRoom + ((st.drop t).map fun v => v.category).sum ≤ 8 ∧ (st.take t).reverse.length = t ∧ t ≤ st.length) →
      (∀ U : State, U.heap = H → s.WarmedH U.vm → dPc B D K ax σ ws μ (st.take t).reverse H.size (st.take t).reverse.toArray U) →
      va_Run p l en R s m args below meth c H locs cells slots u1 u1 (F0 m pc lsA st) (st.drop t) (dQc D K ax (va_A (wG K ax σ ++ ws) H.size) Q' (st.take t).reverse.toArray) (va_A (wG K ax σ ++ ws) H.size))
    (go3 : ∀ (st' : List Value) (u' : Nat) (σ' : sS) (μ' : dW), KK st' u' σ' μ' → ∀ (H1 : Heap) (locs1 : List Loc) (ws1 : va_W) (cells1 slots1 : Nat), dP D K ax σ' ws1 μ' A H1 → va_S A s.heap H1 locs1 → cells1 + u' ≤ mc → slots1 + u' ≤ ms → W p l en R s m args below meth c H1 locs1 cells1 slots1 Qf (F0 m (pc + 3) lsA st')) :
    W p l en R s m args below meth c H locs cells slots Qf (F0 m pc lsA st) := by
  obtain ⟨hx, hb, hml, hown, hr, hlk, hts, hN, hN2, hcs, ho1, ho2, hKK, hfr, hlo, hA, hb1, hb2, hnm⟩ := hCx
  unfold dgo at h
  obtain ⟨hc, u1, hu1, hcj⟩ := condT h
  simp only [Bool.and_eq_true] at hc
  have g1 := Nat.le_of_ble_eq_true hc.1
  have g3 := Nat.le_of_ble_eq_true hc.2.2.1
  have g4 := Nat.le_of_ble_eq_true hc.2.2.2
  rw [lenV_eq] at g1 g3
  obtain ⟨k1, k2⟩ := c1s_take t hc.2.1
  have hlen : (st.take t).reverse.length = t := by rw [List.length_reverse, List.length_take]; omega
  have hM := met_ofD hcj hy (c1s_rev k1) (by rw [hlen]; exact g4) l D K ws H.size
  have hsub : ∀ q, va_A (wG K ax σ ++ ws) H.size q → A q := by
    intro q hq
    rcases hq with ⟨k, en, hk⟩ | hq
    · exact hP.2.2.2 k _ hk
    · exact hA q (Nat.le_trans hS.1 hq)
  have hbl : B.1 < s.heap.size := by obtain ⟨scr, h1, -⟩ := hb2; exact (Array.getElem?_eq_some_iff.mp h1).1
  have hpre : ∀ U : State, U.heap = H → s.WarmedH U.vm → dPc B D K ax σ ws μ (st.take t).reverse H.size (st.take t).reverse.toArray U := fun U hU hW =>
    ⟨rfl, by rw [hU], ⟨hP.1, by rw [hU]; exact hP.2.1, hP.2.2.weaken (fun _ _ _ _ => trivial)⟩, va_K.moved hW.alike hKK, fun w hw => NW_warm hW w hw (hN w hw), fun w hw => NW2_warm hW w hw (hN2 w hw), va_Nw.warmC hW hcs, va_AO.moved hW.alike ho1, va_AO.moved hW.alike ho2, fun z => hb1 (hsub _ z), by rw [hU]; exact (hb2.moved hW.alike).kept (hS.2.1 _ hbl hb1)⟩
  have hrun := run u1 _ ⟨by omega, by omega⟩ hM ⟨lv_room (by rw [c1s_sum k2]; exact g3), hlen, g1⟩ hpre
  refine dcall_go hrun hS hP.2.2 hA (fun r σ' μ' ws' H1 locs1 hq hP1 hS1 => ?_)
  exact go3 _ _ _ _ (dret_out hq) H1 locs1 ws' _ _ hP1 hS1 (by omega) (by omega)
end DGO
set_option maxHeartbeats 4000000 in
set_option maxRecDepth 100000 in
theorem wp1D_ok {B : dB} {ax : Nat → Nat} {d u : Nat} {y : sY} {ft : List dF} {ct : List dCl} {ini : Bool} (hini : ini = true → y.1.name = "<init>") (hF : ∀ q ∈ ft, dFOK y.1.cls q) (hC : ∀ q ∈ ct, dCOK y.1.cls q) {e : sT} (hT : dTok y.1.cls y.2.1 e) {ls : dL} {st : List Value} {σ : sS} {μ : dW} {KK : Nat → dL → List Value → Nat → sS → dW → Prop} {Q : dQ}
    (h : wp1D B ax d u ini y.2.2.1 y.2.2.2 ft ct e ls st σ μ KK Q) (hK : ∀ pc ls st u σ μ, KK pc ls st u σ μ → DJ B ax d u y pc ls st σ μ Q) : DJ B ax d u y e.1 ls st σ μ Q := by
  intro l D K A p en R s m args below meth c hCx H locs lsA ws cells slots mc ms hP hS hl hu1 hu2 hu3 hu4
  obtain ⟨hx, hb, hml, hown, hr, hlk, hts, hN, hN2, hcs, ho1, ho2, hKK, hfr, hlo, hA, hb1, hb2, hnm⟩ := id hCx
  have go : ∀ (pc : Nat) (ls : dL) (st : List Value) (u : Nat) (σ : sS) (μ : dW), KK pc ls st u σ μ → ∀ (H : Heap) (locs : List Loc) (lsA : Array Slot) (ws : va_W) (cells slots : Nat), dP D K ax σ ws μ A H → va_S A s.heap H locs → lv_has lsA y.2.2.1 ls → cells + u ≤ mc → slots + u ≤ ms → W p l en R s m args below meth c H locs cells slots (MQ below (dQc D K ax A Q) args s mc ms A) (F0 m pc lsA st) := fun pc ls st u σ μ hk H locs lsA ws cells slots a1 a2 a3 a4 a5 => hK pc ls st u σ μ hk l D K A p en R s m args below meth c hCx H locs lsA ws cells slots mc ms a1 a2 a3 a4 a5 hu3 hu4
  have hbl : B.1 < s.heap.size := by obtain ⟨scr, h1, -⟩ := hb2; exact (Array.getElem?_eq_some_iff.mp h1).1
  have fin : ∀ (v : Option Value), Q v σ μ → ∀ t : State, t.heap = H → dQc D K ax A Q args s (.returned v) t := fun v hq t ht => ⟨⟨v, σ, μ, ws, rfl, hq, by rw [ht]; exact hP⟩, hS.F ht⟩
  obtain ⟨pc, len, i, tgt, cs, k1, k2⟩ := e
  obtain ⟨hdg, hside⟩ := hT
  have hlen1 : ∀ n : Nat, Nat.beq len n = true → len = n := fun n h => Nat.eq_of_beq_eq_true h
  cases i with
  | iconst n =>
    obtain ⟨hk1, hln⟩ := Bool.and_eq_true_iff.mp hside
    have hln := hlen1 1 hln
    subst hln
    have hk1 := of_decide_eq_true hk1
    exact lv_iconst hx hb hdg hk1 (go _ _ _ _ _ _ h H locs lsA ws cells slots hP hS hl hu1 hu2)
  | bipush n =>
    obtain ⟨hk1, hln⟩ := Bool.and_eq_true_iff.mp hside
    have hln := hlen1 2 hln
    subst hln
    have hk1 := of_decide_eq_true hk1
    exact lv_bipush hx hb hdg hk1 (go _ _ _ _ _ _ h H locs lsA ws cells slots hP hS hl hu1 hu2)
  | sipush n =>
    obtain ⟨hk1, hln⟩ := Bool.and_eq_true_iff.mp hside
    have hln := hlen1 3 hln
    subst hln
    have hk1 := of_decide_eq_true hk1
    exact lv_sipush hx hb hdg hk1 (go _ _ _ _ _ _ h H locs lsA ws cells slots hP hS hl hu1 hu2)
  | ldc i =>
    obtain ⟨hk1, hln⟩ := Bool.and_eq_true_iff.mp hside
    have hln := hlen1 2 hln
    subst hln
    have hk1 := of_decide_eq_true hk1
    exact lv_ldc hx hb hown (hts _ (CK_in _ hk1)) hdg (go _ _ _ _ _ _ h H locs lsA ws cells slots hP hS hl hu1 hu2)
  | aconst_null =>
    have hln := hlen1 1 hside
    subst hln
    exact lv_null hx hb hdg (go _ _ _ _ _ _ h H locs lsA ws cells slots hP hS hl hu1 hu2)
  | iload_n k =>
    have hln := hlen1 1 hside
    subst hln
    obtain ⟨x, hg, hk⟩ := vgI_inv h
    exact lv_iload_n hx hb hdg rfl (lv_gv hl hg) (go _ _ _ _ _ _ hk H locs lsA ws cells slots hP hS hl hu1 hu2)
  | iload k =>
    have hln := hlen1 2 hside
    subst hln
    obtain ⟨x, hg, hk⟩ := vgI_inv h
    exact lv_iload hx hb hdg (lv_gv hl hg) (go _ _ _ _ _ _ hk H locs lsA ws cells slots hP hS hl hu1 hu2)
  | aload_n k =>
    have hln := hlen1 1 hside
    subst hln
    obtain ⟨x, hg, hk⟩ := vgR_inv h
    exact lv_aload_n hx hb hdg rfl (lv_gv hl hg) (go _ _ _ _ _ _ hk H locs lsA ws cells slots hP hS hl hu1 hu2)
  | aload k =>
    have hln := hlen1 2 hside
    subst hln
    obtain ⟨x, hg, hk⟩ := vgR_inv h
    exact lv_aload hx hb hdg (lv_gv hl hg) (go _ _ _ _ _ _ hk H locs lsA ws cells slots hP hS hl hu1 hu2)
  | istore_n k =>
    have hln := hlen1 1 hside
    subst hln
    obtain ⟨x, r, rfl, hk⟩ := x1I_inv h
    replace hk := condT hk
    have hn : k.val < y.2.2.1 := Nat.le_of_ble_eq_true hk.1
    exact lv_istore_n hx hb hdg rfl hl hn rfl (fun ls2 hl2 => go _ _ _ _ _ _ hk.2 H locs ls2 ws cells slots hP hS (lv_has_mono hl2 sv1_mem) hu1 hu2)
  | istore k =>
    have hln := hlen1 2 hside
    subst hln
    obtain ⟨x, r, rfl, hk⟩ := x1I_inv h
    replace hk := condT hk
    have hn : k < y.2.2.1 := Nat.le_of_ble_eq_true hk.1
    exact lv_istore hx hb hdg hl hn rfl (fun ls2 hl2 => go _ _ _ _ _ _ hk.2 H locs ls2 ws cells slots hP hS (lv_has_mono hl2 sv1_mem) hu1 hu2)
  | astore_n k =>
    have hln := hlen1 1 hside
    subst hln
    obtain ⟨x, r, rfl, hk⟩ := x1R_inv h
    replace hk := condT hk
    have hn : k.val < y.2.2.1 := Nat.le_of_ble_eq_true hk.1
    exact lv_astore_n hx hb hdg rfl hl hn rfl (fun ls2 hl2 => go _ _ _ _ _ _ hk.2 H locs ls2 ws cells slots hP hS (lv_has_mono hl2 sv1_mem) hu1 hu2)
  | astore k =>
    have hln := hlen1 2 hside
    subst hln
    obtain ⟨x, r, rfl, hk⟩ := x1R_inv h
    replace hk := condT hk
    have hn : k < y.2.2.1 := Nat.le_of_ble_eq_true hk.1
    exact lv_astore hx hb hdg hl hn rfl (fun ls2 hl2 => go _ _ _ _ _ _ hk.2 H locs ls2 ws cells slots hP hS (lv_has_mono hl2 sv1_mem) hu1 hu2)
  | iinc i n =>
    obtain ⟨hk1, hln⟩ := Bool.and_eq_true_iff.mp hside
    have hln := hlen1 3 hln
    subst hln
    have hk1 := of_decide_eq_true hk1
    obtain ⟨x, hg, hk⟩ := vgI_inv h
    replace hk := condT hk
    have hn : i < y.2.2.1 := Nat.le_of_ble_eq_true hk.1
    obtain ⟨j, hj⟩ := List.getElem?_of_mem (gv_mem ls i _ hg)
    exact lv_iinc (k := j) (x := x) (v := x + k1) hx hb hdg hl hj (by rw [hk1]) hn rfl (fun ls2 hl2 => go _ _ _ _ _ _ hk.2 H locs ls2 ws cells slots hP hS (lv_has_mono hl2 sv1_mem) hu1 hu2)
  | iadd =>
    have hln := hlen1 1 hside
    subst hln
    obtain ⟨x, z, r, rfl, hk⟩ := x2I_inv h
    exact lv_iadd hx hb hdg (go _ _ _ _ _ _ hk H locs lsA ws cells slots hP hS hl hu1 hu2)
  | isub =>
    have hln := hlen1 1 hside
    subst hln
    obtain ⟨x, z, r, rfl, hk⟩ := x2I_inv h
    exact lv_isub hx hb hdg (go _ _ _ _ _ _ hk H locs lsA ws cells slots hP hS hl hu1 hu2)
  | imul =>
    have hln := hlen1 1 hside
    subst hln
    obtain ⟨x, z, r, rfl, hk⟩ := x2I_inv h
    exact lv_imul hx hb hdg (go _ _ _ _ _ _ hk H locs lsA ws cells slots hP hS hl hu1 hu2)
  | iand =>
    have hln := hlen1 1 hside
    subst hln
    obtain ⟨x, z, r, rfl, hk⟩ := x2I_inv h
    exact lv_iand hx hb hdg (go _ _ _ _ _ _ hk H locs lsA ws cells slots hP hS hl hu1 hu2)
  | ishr =>
    have hln := hlen1 1 hside
    subst hln
    obtain ⟨x, z, r, rfl, hk⟩ := x2I_inv h
    exact lv_ishr hx hb hdg (go _ _ _ _ _ _ hk H locs lsA ws cells slots hP hS hl hu1 hu2)
  | idiv =>
    have hln := hlen1 1 hside
    subst hln
    obtain ⟨x, z, r, rfl, hk⟩ := x2I_inv h
    exact lv_idiv hx hb hdg hk.1 (go _ _ _ _ _ _ hk.2 H locs lsA ws cells slots hP hS hl hu1 hu2)
  | irem =>
    have hln := hlen1 1 hside
    subst hln
    obtain ⟨x, z, r, rfl, hk⟩ := x2I_inv h
    exact lv_irem hx hb hdg hk.1 (go _ _ _ _ _ _ hk.2 H locs lsA ws cells slots hP hS hl hu1 hu2)
  | dup =>
    have hln := hlen1 1 hside
    subst hln
    match st, h with
    | v :: r, h =>
      obtain ⟨hv, h⟩ := condT h
      exact lv_dup hx hb hdg (c1_cat hv) (go _ _ _ _ _ _ h H locs lsA ws cells slots hP hS hl hu1 hu2)
    | [], h => exact False.elim h
  | pop =>
    have hln := hlen1 1 hside
    subst hln
    match st, h with
    | v :: r, h =>
      obtain ⟨hv, h⟩ := condT h
      exact lv_pop hx hb hdg (c1_cat hv) (go _ _ _ _ _ _ h H locs lsA ws cells slots hP hS hl hu1 hu2)
    | [], h => exact False.elim h
  | goto o =>
    obtain ⟨hk1, hln⟩ := Bool.and_eq_true_iff.mp hside
    have hln := hlen1 3 hln
    subst hln
    have hk1 := of_decide_eq_true hk1
    exact lv_goto hx hb hdg hk1 (go _ _ _ _ _ _ h H locs lsA ws cells slots hP hS hl hu1 hu2)
  | ifnonnull o =>
    obtain ⟨hk1, hln⟩ := Bool.and_eq_true_iff.mp hside
    have hln := hlen1 3 hln
    subst hln
    have hk1 := of_decide_eq_true hk1
    obtain ⟨v, r, rfl, hk⟩ := x1V_inv h
    obtain ⟨g1, g2, g3⟩ := hk
    rcases g3 with rfl | ⟨a, rfl⟩
    · exact lv_ifnonnullN hx hb hdg (go _ _ _ _ _ _ (g1 rfl) H locs lsA ws cells slots hP hS hl hu1 hu2)
    · exact lv_ifnonnull hx hb hdg hk1 (go _ _ _ _ _ _ (g2 a rfl) H locs lsA ws cells slots hP hS hl hu1 hu2)
  | if_icmp cnd o =>
    obtain ⟨hk1, hln⟩ := Bool.and_eq_true_iff.mp hside
    have hln := hlen1 3 hln
    subst hln
    have hk1 := of_decide_eq_true hk1
    cases cnd with
    | eq =>
      obtain ⟨x, z, r, rfl, hk⟩ := x2I_inv h
      exact lv_icmp_eq hx hb hdg hk1 (fun z => (go _ _ _ _ _ _ (hk.1 z) H locs lsA ws cells slots hP hS hl hu1 hu2)) (fun z => (go _ _ _ _ _ _ (hk.2 z) H locs lsA ws cells slots hP hS hl hu1 hu2))
    | ne =>
      obtain ⟨x, z, r, rfl, hk⟩ := x2I_inv h
      exact lv_icmp_ne hx hb hdg hk1 (fun z => (go _ _ _ _ _ _ (hk.1 z) H locs lsA ws cells slots hP hS hl hu1 hu2)) (fun z => (go _ _ _ _ _ _ (hk.2 z) H locs lsA ws cells slots hP hS hl hu1 hu2))
    | lt =>
      obtain ⟨x, z, r, rfl, hk⟩ := x2I_inv h
      exact lv_icmp_lt hx hb hdg hk1 (fun z => (go _ _ _ _ _ _ (hk.1 z) H locs lsA ws cells slots hP hS hl hu1 hu2)) (fun z => (go _ _ _ _ _ _ (hk.2 z) H locs lsA ws cells slots hP hS hl hu1 hu2))
    | ge =>
      obtain ⟨x, z, r, rfl, hk⟩ := x2I_inv h
      exact lv_icmp_ge hx hb hdg hk1 (fun z => (go _ _ _ _ _ _ (hk.1 (i32_ge z)) H locs lsA ws cells slots hP hS hl hu1 hu2)) (fun z => (go _ _ _ _ _ _ (hk.2 (i32_nge z)) H locs lsA ws cells slots hP hS hl hu1 hu2))
    | gt =>
      obtain ⟨x, z, r, rfl, hk⟩ := x2I_inv h
      exact lv_icmp_gt hx hb hdg hk1 (fun z => (go _ _ _ _ _ _ (hk.1 z) H locs lsA ws cells slots hP hS hl hu1 hu2)) (fun z => (go _ _ _ _ _ _ (hk.2 z) H locs lsA ws cells slots hP hS hl hu1 hu2))
    | le =>
      obtain ⟨x, z, r, rfl, hk⟩ := x2I_inv h
      exact lv_icmp_le hx hb hdg hk1 (fun z => (go _ _ _ _ _ _ (hk.1 (i32_ge z)) H locs lsA ws cells slots hP hS hl hu1 hu2)) (fun z => (go _ _ _ _ _ _ (hk.2 (i32_nge z)) H locs lsA ws cells slots hP hS hl hu1 hu2))
  | ifCond cnd o =>
    obtain ⟨hk1, hln⟩ := Bool.and_eq_true_iff.mp hside
    have hln := hlen1 3 hln
    subst hln
    have hk1 := of_decide_eq_true hk1
    cases cnd with
    | eq =>
      obtain ⟨x, r, rfl, hk⟩ := x1I_inv h
      exact lv_if_eq hx hb hdg hk1 (fun z => (go _ _ _ _ _ _ (hk.1 z) H locs lsA ws cells slots hP hS hl hu1 hu2)) (fun z => (go _ _ _ _ _ _ (hk.2 z) H locs lsA ws cells slots hP hS hl hu1 hu2))
    | ne =>
      obtain ⟨x, r, rfl, hk⟩ := x1I_inv h
      exact lv_if_ne hx hb hdg hk1 (fun z => (go _ _ _ _ _ _ (hk.1 z) H locs lsA ws cells slots hP hS hl hu1 hu2)) (fun z => (go _ _ _ _ _ _ (hk.2 z) H locs lsA ws cells slots hP hS hl hu1 hu2))
    | lt =>
      obtain ⟨x, r, rfl, hk⟩ := x1I_inv h
      exact lv_if_lt hx hb hdg hk1 (fun z => (go _ _ _ _ _ _ (hk.1 z) H locs lsA ws cells slots hP hS hl hu1 hu2)) (fun z => (go _ _ _ _ _ _ (hk.2 z) H locs lsA ws cells slots hP hS hl hu1 hu2))
    | ge =>
      obtain ⟨x, r, rfl, hk⟩ := x1I_inv h
      exact lv_if_ge hx hb hdg hk1 (fun z => (go _ _ _ _ _ _ (hk.1 (i32_ge z)) H locs lsA ws cells slots hP hS hl hu1 hu2)) (fun z => (go _ _ _ _ _ _ (hk.2 (i32_nge z)) H locs lsA ws cells slots hP hS hl hu1 hu2))
    | gt =>
      obtain ⟨x, r, rfl, hk⟩ := x1I_inv h
      exact lv_if_gt hx hb hdg hk1 (fun z => (go _ _ _ _ _ _ (hk.1 z) H locs lsA ws cells slots hP hS hl hu1 hu2)) (fun z => (go _ _ _ _ _ _ (hk.2 z) H locs lsA ws cells slots hP hS hl hu1 hu2))
    | le =>
      obtain ⟨x, r, rfl, hk⟩ := x1I_inv h
      exact lv_if_le hx hb hdg hk1 (fun z => (go _ _ _ _ _ _ (hk.1 (i32_ge z)) H locs lsA ws cells slots hP hS hl hu1 hu2)) (fun z => (go _ _ _ _ _ _ (hk.2 (i32_nge z)) H locs lsA ws cells slots hP hS hl hu1 hu2))
  | arraylength =>
    have hln := hlen1 1 hside
    subst hln
    obtain ⟨a, r, rfl, hk⟩ := x1R_inv h
    replace hk : (match (generalizing := false) tgt with
      | 0 => lA μ a (fun x => KK (pc + 1) ls (.int x :: r) u σ μ)
      | 1 => a = B.1 ∧ KK (pc + 1) ls (.int (nI B.2.1) :: r) u σ μ
      | _ => lR μ a (fun x => KK (pc + 1) ls (.int x :: r) u σ μ)) := hk
    split at hk
    · obtain ⟨k, n, g, hm, hk1, hk⟩ := hk
      obtain ⟨j, hj⟩ := dP_at hP hm
      rcases (show k = 0 ∨ k = 1 by omega) with rfl | rfl
      · exact va_alen hx hb hKK hP.2.1 _ 0 hj rfl rfl hdg (go _ _ _ _ _ _ hk H locs lsA ws cells slots hP hS hl hu1 hu2)
      · exact va_alen hx hb hKK hP.2.1 _ 1 hj rfl rfl hdg (go _ _ _ _ _ _ hk H locs lsA ws cells slots hP hS hl hu1 hu2)
    · obtain ⟨rfl, hk⟩ := hk
      exact va_slen hx hb hb2 hbl hb1 hS hdg (go _ _ _ _ _ _ hk H locs lsA ws cells slots hP hS hl hu1 hu2)
    · obtain ⟨k, n, g, hm, hk1, hk⟩ := hk
      obtain ⟨j, hj⟩ := dP_at hP hm
      rcases (show k = 0 ∨ k = 1 by omega) with rfl | rfl
      · exact va_alen hx hb hKK hP.2.1 _ 2 hj rfl rfl hdg (go _ _ _ _ _ _ hk H locs lsA ws cells slots hP hS hl hu1 hu2)
      · exact va_alen hx hb hKK hP.2.1 _ 3 hj rfl rfl hdg (go _ _ _ _ _ _ hk H locs lsA ws cells slots hP hS hl hu1 hu2)
  | iaload =>
    have hln := hlen1 1 hside
    subst hln
    obtain ⟨i, a, r, rfl, hk⟩ := xIR_inv h
    replace hk : (match (generalizing := false) tgt with
      | 0 => rdA μ 0 a i (fun x => KK (pc + 1) ls (.int x :: r) u σ μ)
      | _ => a = B.1 ∧ vp_in i B.2.1 ∧ KK (pc + 1) ls (.int (B.2.2 i.toNatClampNeg) :: r) u σ μ) := hk
    split at hk
    · obtain ⟨n, g, hm, hin, hk⟩ := hk
      obtain ⟨j, hj⟩ := dP_at hP hm
      exact va_iald hx hb hKK hP.2.1 _ 0 hj rfl hin hdg (go _ _ _ _ _ _ hk H locs lsA ws cells slots hP hS hl hu1 hu2)
    · obtain ⟨rfl, hin, hk⟩ := hk
      exact va_sld hx hb hb2 hbl hb1 hS hin hdg (go _ _ _ _ _ _ hk H locs lsA ws cells slots hP hS hl hu1 hu2)
  | baload =>
    have hln := hlen1 1 hside
    subst hln
    obtain ⟨i, a, r, rfl, n, g, hm, hin, hk⟩ := xIR_inv h
    obtain ⟨j, hj⟩ := dP_at hP hm
    exact va_zald hx hb hKK hP.2.1 _ 1 hj rfl hin hdg (go _ _ _ _ _ _ hk H locs lsA ws cells slots hP hS hl hu1 hu2)
  | iastore =>
    have hln := hlen1 1 hside
    subst hln
    obtain ⟨x, i, a, r, rfl, n, g, hm, hin, hk⟩ := xIIR_inv h
    obtain ⟨j, hj⟩ := dP_at hP hm
    exact va_iast hx hb hKK hP.2.1 hP.2.2 hS _ 0 hj rfl hin hdg (fun H1 locs1 hP1 hD1 hS1 => go _ _ _ _ _ _ hk H1 locs1 lsA _ cells slots (dP_set hP hj hP1 hD1) hS1 hl hu1 hu2)
  | bastore =>
    have hln := hlen1 1 hside
    subst hln
    obtain ⟨x, i, a, r, rfl, hx01, n, g, hm, hin, hk⟩ := xIIR_inv h
    obtain ⟨j, hj⟩ := dP_at hP hm
    have e0 : vp_nar .boolean x = x := by rcases hx01 with rfl | rfl <;> decide
    refine va_zast hx hb hKK hP.2.1 hP.2.2 hS _ 1 hj rfl (x := x) hin hdg (fun H1 locs1 hP1 hD1 hS1 => ?_)
    rw [e0] at hP1 hD1
    exact go _ _ _ _ _ _ hk H1 locs1 lsA _ cells slots (dP_set hP hj hP1 hD1) hS1 hl hu1 hu2
  | aaload =>
    have hln := hlen1 1 hside
    subst hln
    obtain ⟨i, a, r, rfl, k, n, g, b, hm, hk1, hin, hgb, hk⟩ := xIR_inv h
    obtain ⟨j, hj⟩ := dP_at hP hm
    rcases (show k = 0 ∨ k = 1 by omega) with rfl | rfl
    · refine va_aldq (f := g) hx hb hKK hP.2.1 _ 2 hj rfl hin hdg ?_
      rw [hgb]
      exact go _ _ _ _ _ _ hk H locs lsA ws cells slots hP hS hl hu1 hu2
    · refine va_aldq (f := g) hx hb hKK hP.2.1 _ 3 hj rfl hin hdg ?_
      rw [hgb]
      exact go _ _ _ _ _ _ hk H locs lsA ws cells slots hP hS hl hu1 hu2
  | aastore =>
    have hln := hlen1 1 hside
    subst hln
    obtain ⟨v, i, a, r, rfl, k, n, g, fs, hm, hk1, hin, hv, hk⟩ := xRIR_inv h
    obtain ⟨j, hj⟩ := dP_at hP hm
    obtain ⟨j2, hj2⟩ := dP_at hP hv
    rcases (show k = 0 ∨ k = 1 by omega) with rfl | rfl
    · exact va_astq (r := (R7_, T7_, 4)) hx hb hKK hP.2.1 hP.2.2 hS _ 2 _ 7 hj rfl hj2 rfl hin hdg (fun H1 locs1 hP1 hD1 hS1 => go _ _ _ _ _ _ hk H1 locs1 lsA _ cells slots (dP_set hP hj hP1 hD1) hS1 hl hu1 hu2)
    · exact va_astq (r := (R8_, T8_, 6)) hx hb hKK hP.2.1 hP.2.2 hS _ 3 _ 8 hj rfl hj2 rfl hin hdg (fun H1 locs1 hP1 hD1 hS1 => go _ _ _ _ _ _ hk H1 locs1 lsA _ cells slots (dP_set hP hj hP1 hD1) hS1 hl hu1 hu2)
  | getfield idx =>
    have hln := hlen1 3 hside
    subst hln
    obtain ⟨a, r, rfl, hk⟩ := x1R_inv h
    have main : ∀ (ci k sort fin : Nat) (fs : List Value) (v : Value), dff idx ft = some (ci, k, sort, fin) → μ a = some (eO ci fs) → fs[k]? = some v → KK (pc + 3) ls (v :: r) u σ μ → W p l en R s m args below meth c H locs cells slots (MQ below (dQc D K ax A Q) args s mc ms A) (F0 m pc lsA (.ref a :: r)) := by
      intro ci k sort fin fs v hfi hm hv hkk
      obtain ⟨C, T, N, ⟨q1, q2, q3, ty0, q4⟩, q5, q6, -⟩ := hF _ (dff_mem hfi)
      obtain ⟨j, hj⟩ := dP_at hP hm
      exact va_get (D := D) hx hb hts q2 hown hKK hP.2.1 _ hj q1 k q5 (hts _ q6) (fun _ h9 => h9) hv hdg (go _ _ _ _ _ _ hkk H locs lsA ws cells slots hP hS hl hu1 hu2)
    split at hk
    · rename_i ci k fin hfi
      obtain ⟨fs, x, hm, hv, hk⟩ := hk
      exact main _ _ _ _ _ _ hfi hm hv hk
    · rename_i ci k fin hfi
      obtain ⟨fs, x, hm, hv, hk⟩ := hk
      exact main _ _ _ _ _ _ hfi hm hv hk
    · exact hk.elim
  | putfield idx =>
    have hln := hlen1 3 hside
    subst hln
    have main : ∀ (a ci k sort fin : Nat) (fs r : List Value) (v : Value) (ty : FieldType), dff idx ft = some (ci, k, sort, fin) → (Nat.beq fin 0 || (ini && Nat.beq fin 1)) = true → μ a = some (eO ci fs) → k < fs.length → (∀ (C : String) (T : u_T) (N : Nat), cOK ci C T N → parseFieldDescriptor (T k).2.2.1 = some ty) → narrow ty v = v → fits ty v = true → KK (pc + 3) ls r u σ (dset μ a (eO ci (fs.set k v))) → W p l en R s m args below meth c H locs cells slots (MQ below (dQc D K ax A Q) args s mc ms A) (F0 m pc lsA (v :: .ref a :: r)) := by
      intro a ci k sort fin fs r v ty hfi hfin hm hlt hty hn hf hkk
      obtain ⟨C, T, N, ⟨q1, q2, q3, ty0, q4⟩, q5, q6, -, -, q7, q8⟩ := hF _ (dff_mem hfi)
      have hd := hty C T N ⟨q1, q2, q3, ty0, q4⟩
      obtain ⟨j, hj⟩ := dP_at hP hm
      by_cases z : fin = 0
      · exact va_put (D := D) hx hb hts q2 ty0 q4 q3 hown hKK hP.2.1 hP.2.2 hS _ hj q1 k q5 (hts _ q6) (fun _ h9 => h9) (q7 z) hd hn hf hlt hdg (fun H1 locs1 hP1 hD1 hS1 => go _ _ _ _ _ _ hkk H1 locs1 lsA _ cells slots (dP_set (e := eO ci (fs.set k v)) hP hj hP1 hD1) hS1 hl hu1 hu2)
      · have hw : ini = true ∧ fin = 1 := by
          rcases Bool.or_eq_true_iff.mp hfin with w | w
          · exact absurd (Nat.eq_of_beq_eq_true w) z
          · exact ⟨(Bool.and_eq_true_iff.mp w).1, Nat.eq_of_beq_eq_true (Bool.and_eq_true_iff.mp w).2⟩
        have hi := hw.1
        have z := hw.2
        exact va_putF (D := D) hx hb hts q2 ty0 q4 q3 hown hKK hP.2.1 hP.2.2 hS _ hj q1 k q5 (hts _ q6) (fun _ h9 => h9) (q8 z).1 (hnm.trans (hini hi)) (q8 z).2 hd hn hf hlt hdg (fun H1 locs1 hP1 hD1 hS1 => go _ _ _ _ _ _ hkk H1 locs1 lsA _ cells slots (dP_set (e := eO ci (fs.set k v)) hP hj hP1 hD1) hS1 hl hu1 hu2)
    have uniq : ∀ (ci : Nat) (C C' : String) (T T' : u_T) (N N' : Nat), cOK ci C T N → cOK ci C' T' N' → T = T' := fun ci C C' T T' N N' h1 h2 => by
      have := Option.some.inj (h1.1.symm.trans h2.1)
      cases this
      rfl
    replace h : (match (generalizing := false) dff idx ft with
      | some (ci, k, 0, fin) => xIR st (fun x a r => cond (Nat.beq fin 0 || (ini && Nat.beq fin 1)) (pF μ a ci k (.int x) (fun μ' => KK (pc + 3) ls r u σ μ')) False)
      | some (ci, k, 1, fin) => xRR st (fun b a r => cond (Nat.beq fin 0 || (ini && Nat.beq fin 1)) (pF μ a ci k (.ref b) (fun μ' => KK (pc + 3) ls r u σ μ')) False)
      | _ => False) := h
    split at h
    · rename_i ci k fin hfi
      obtain ⟨x, a, r, rfl, hk⟩ := xIR_inv h
      obtain ⟨hf, fs, hm, hlt, hk⟩ := condT hk
      refine main _ _ _ _ _ _ _ _ .int hfi hf hm hlt (fun C T N hc => ?_) rfl rfl hk
      obtain ⟨C', T', N', g1, g2, g3, g4, -⟩ := hF _ (dff_mem hfi)
      rw [uniq _ _ _ _ _ _ _ hc g1]
      exact g4 rfl
    · rename_i ci k fin hfi
      obtain ⟨b, a, r, rfl, hk⟩ := xRR_inv h
      obtain ⟨hf, fs, hm, hlt, hk⟩ := condT hk
      obtain ⟨C', T', N', g1, g2, g3, -, g5, -⟩ := hF _ (dff_mem hfi)
      obtain ⟨ty, g6, g7⟩ := g5 rfl
      refine main _ _ _ _ _ _ _ _ ty hfi hf hm hlt (fun C T N hc => ?_) (g7 b).1 (g7 b).2 hk
      rw [uniq _ _ _ _ _ _ _ hc g1]
      exact g6
    · exact h.elim
  | new idx =>
    have hln := hlen1 3 hside
    subst hln
    replace h : (match (generalizing := false) dcf idx ct with
      | some (_, 20, _, _, _, ci) => nwO μ u ci (fun q μ' => KK (pc + 3) ls (.ref q :: st) (u - (dNf ci + 1)) σ μ')
      | _ => False) := h
    split at h
    · rename_i i1 y1 n1 n2 ci hcf
      obtain ⟨hmem, hidx⟩ := dcf_mem hcf
      have hE := hC _ hmem
      obtain ⟨C, T, N, ⟨q1, q2, q3, -⟩, hNN, ⟨ty, q4, q5⟩, e1, e2, e3⟩ := hE
      have hidx : i1 = idx := hidx
      subst hidx
      obtain ⟨hroom, hk⟩ := h
      have hNN : N = dNf ci := hNN
      subst hNN
      refine va_new (ci := ci) (fs := dfl ci) hx hb hts q2 ty q4 hown (hts _ e1) (hts _ e2) (hts _ e3) hKK hP.2.1 hP.2.2 hS hA q1 q5 (by omega) (by omega) hdg (fun q H1 hP1 hD1 hS1 => ?_)
      obtain ⟨hq, hP2⟩ := dP_push (e := eO ci (dfl ci)) hP hP1 hD1
      exact go _ _ _ _ _ _ (hk q hq) H1 locs lsA _ _ _ hP2 hS1 hl (by omega) (by omega)
    · exact h.elim
  | anewarray idx =>
    have hln := hlen1 3 hside
    subst hln
    replace h : (match (generalizing := false) dcf (idx + 10000) ct with
      | some (_, 21, _, _, _, k) => x1I st (fun n r => nwR μ u k n (fun q μ' => KK (pc + 3) ls (.ref q :: r) (u - (n.toNatClampNeg + 1)) σ μ'))
      | _ => False) := h
    split at h
    · rename_i i1 y1 n1 n2 k hcf
      obtain ⟨hmem, hidx⟩ := dcf_mem hcf
      have hE := hC _ hmem
      have hidx : i1 = idx + 10000 := hidx
      subst hidx
      obtain ⟨n, r, rfl, hn, hroom, hbig, hk⟩ := x1I_inv h
      rcases hE with ⟨rfl, e1⟩ | ⟨rfl, e1⟩ <;> (have e1 := (Nat.add_sub_cancel (n := idx) (m := 10000)) ▸ e1)
      · refine x_newq (t0 := 2) (C := nmV) rfl hown (hts _ e1) ho1 hx hb hKK hP.2.1 hP.2.2 hS hA n.toNatClampNeg hn rfl (by omega) (by omega) (by omega) hdg (fun q H1 hP1 hD1 hS1 => ?_)
        obtain ⟨hq, hP2⟩ := dP_push (e := eR 0 n.toNatClampNeg (fun _ => none)) hP hP1 hD1
        exact go _ _ _ _ _ _ (hk q hq) H1 locs lsA _ _ _ hP2 hS1 hl (by omega) (by omega)
      · refine x_newq (t0 := 3) (C := nmC) rfl hown (hts _ e1) ho2 hx hb hKK hP.2.1 hP.2.2 hS hA n.toNatClampNeg hn rfl (by omega) (by omega) (by omega) hdg (fun q H1 hP1 hD1 hS1 => ?_)
        obtain ⟨hq, hP2⟩ := dP_push (e := eR 1 n.toNatClampNeg (fun _ => none)) hP hP1 hD1
        exact go _ _ _ _ _ _ (hk q hq) H1 locs lsA _ _ _ hP2 hS1 hl (by omega) (by omega)
    · exact h.elim
  | newarray at_ =>
    have hln := hlen1 2 hside
    subst hln
    cases at_ with
    | int =>
      obtain ⟨n, r, rfl, hn, hroom, hbig, hk⟩ := x1I_inv h
      refine x_newa hx hb hts (hKK.sub (tys' := [(K.1, .int)]) [0] rfl) hP.2.1 hP.2.2 hS hA n.toNatClampNeg hn rfl (by omega) (by omega) (by omega) hdg (fun q H1 hP1 hD1 hS1 => ?_)
      obtain ⟨hq, hP2⟩ := dP_push (e := eA 0 n.toNatClampNeg (fun _ => 0)) hP hP1 hD1
      exact go _ _ _ _ _ _ (hk q hq) H1 locs lsA _ _ _ hP2 hS1 hl (by omega) (by omega)
    | boolean =>
      obtain ⟨n, r, rfl, hn, hroom, hbig, hk⟩ := x1I_inv h
      refine x_newz (hts _ aw_bool) hx hb hKK hP.2.1 hP.2.2 hS hA n.toNatClampNeg hn rfl (by omega) (by omega) (by omega) hdg (fun q H1 hP1 hD1 hS1 => ?_)
      obtain ⟨hq, hP2⟩ := dP_push (e := eA 1 n.toNatClampNeg (fun _ => 0)) hP hP1 hD1
      exact go _ _ _ _ _ _ (hk q hq) H1 locs lsA _ _ _ hP2 hS1 hl (by omega) (by omega)
    | _ => exact False.elim h
  | checkcast idx =>
    have hln := hlen1 3 hside
    subst hln
    replace h : (match (generalizing := false) dcf idx ct with
      | some (_, 22, _, _, _, _) => x1R st (fun a r => (∃ (n : Nat) (g : Nat → Int32), μ a = some (eA 0 n g)) ∧ KK (pc + 3) ls (.ref a :: r) u σ μ)
      | _ => False) := h
    split at h
    · rename_i i1 y1 n1 n2 k hcf
      obtain ⟨hmem, hidx⟩ := dcf_mem hcf
      have hE := hC _ hmem
      have hidx : i1 = idx := hidx
      subst hidx
      obtain ⟨a, r, rfl, ⟨n, g, hm⟩, hk⟩ := x1R_inv h
      obtain ⟨j, hj⟩ := dP_at hP hm
      exact va_castA (nm := "[I") hx hb hown (hts _ hE) hP.2.1 _ hj (hKK.2 0 _ rfl).2 hdg (go _ _ _ _ _ _ hk H locs lsA ws cells slots hP hS hl hu1 hu2)
    · exact h.elim
  | invokestatic idx =>
    have hln := hlen1 3 hside
    subst hln
    replace h : dinv d idx ct (fun d ce => dstat B ax d u ce st σ μ (KK (pc + 3) ls)) := h
    cases d with
    | zero => exact h.elim
    | succ d =>
    unfold dinv at h
    split at h
    · rename_i hd; exact absurd hd (by omega)
    · rename_i d' hdd
      have hdd : d' = d := by omega
      subst hdd
      split at h
      · rename_i ce hcf
        obtain ⟨hmem, hidx⟩ := dcf_mem hcf
        have hE := hC ce hmem
        subst hidx
        have hfix : CallFix p m c y.2.1 y.2.2.1 s args ALL y.1.cls := ⟨hx, hb, hml, hown, hts⟩
        unfold dCOK at hE
        unfold dstat at h
        split at h
        · rename_i h5
          rw [h5] at hE
          obtain ⟨⟨y1, y2, y3, y4, y5⟩, e1, e2, e3⟩ := hE
          refine dgo_go h y1 hCx hP hS hu1 hu2 hu3 hu4 (fun u1 Q' hf hM h8 hpre => ?_) (fun st' u' σ' μ' hk H1 locs1 ws1 c1 s1 hP1 hS1 a1 a2 => go _ _ _ _ _ _ hk H1 locs1 lsA ws1 c1 s1 hP1 hS1 hl a1 a2)
          exact va_runS hfix hM (va_cwS _ hts (goodALL fun w hw => by
            rcases List.mem_append.mp hw with hw | hw
            · simp only [List.mem_cons, List.not_mem_nil, or_false] at hw
              rcases hw with rfl | rfl | rfl
              · exact e1
              · exact e2
              · exact e3
            · exact (List.mem_cons.mp hw).elim (fun e => e ▸ y2) id) rfl rfl rfl ⟨y4.1, y4.2, y5⟩ ⟨by show d' + 1 ≤ R.frames; omega, by show 8 + (_ + 11) + (40 * d' + 40) ≤ R.locals; omega⟩) ⟨dPc_blind, hpre⟩ rfl h8.2.1 hl.1 takeV h8.1 hdg hf
        · rename_i h5
          rw [h5] at hE
          obtain ⟨x, z, r, rfl, hk⟩ := x2I_inv h
          obtain ⟨hc8, hk⟩ := condT hk
          simp only [Bool.and_eq_true] at hc8
          have h8 := Nat.le_of_ble_eq_true hc8.2
          rw [lenV_eq] at h8
          refine va_mmin hx hb (by rw [hml, hl.1]) hown (hts _ hE.1) (hts _ hE.2.1) (hts _ hE.2.2.1) (hts _ hE.2.2.2) (by omega) ?_ (by omega) (by omega) hdg (go _ _ _ _ _ _ hk H locs lsA ws cells slots hP hS hl hu1 hu2)
          rw [c1s_sum hc8.1]
          omega
        · exact h.elim
      · exact h.elim
  | invokevirtual idx =>
    have hln := hlen1 3 hside
    subst hln
    replace h : dinv d idx ct (fun d ce => dvirt B ax d u ce st σ μ (KK (pc + 3) ls)) := h
    cases d with
    | zero => exact h.elim
    | succ d =>
    unfold dinv at h
    split at h
    · rename_i hd; exact absurd hd (by omega)
    · rename_i d' hdd
      have hdd : d' = d := by omega
      subst hdd
      split at h
      · rename_i ce hcf
        obtain ⟨hmem, hidx⟩ := dcf_mem hcf
        have hE := hC ce hmem
        subst hidx
        have hfix : CallFix p m c y.2.1 y.2.2.1 s args ALL y.1.cls := ⟨hx, hb, hml, hown, hts⟩
        unfold dCOK at hE
        unfold dvirt at h
        split at h
        · rename_i h5
          rw [h5] at hE
          obtain ⟨⟨y1, y2, y3, y4, y5⟩, C, T, N, e0, rfl, e2, e3, e4, e5⟩ := hE
          obtain ⟨a, r, hdr, ⟨fs, hm⟩, h⟩ := x1R_inv h
          obtain ⟨j, hj⟩ := dP_at hP hm
          obtain ⟨hst, htk⟩ := split_ref hdr
          refine dgo_go h y1 hCx hP hS hu1 hu2 hu3 hu4 (fun u1 Q' hf hM h8 hpre => ?_) (fun st' u' σ' μ' hk H1 locs1 ws1 c1 s1 hP1 hS1 a1 a2 => go _ _ _ _ _ _ hk H1 locs1 lsA ws1 c1 s1 hP1 hS1 hl a1 a2)
          have hn1 : (st.take ce.2.2.2.1).reverse.length = ce.2.2.2.1 := by rw [List.length_reverse, List.length_take]; omega
          rw [htk] at hM hpre ⊢
          exact va_runV (C := ce.2.2.1.1.cls) hfix hM (cwV _ hts (goodALL fun w hw => by
            rcases List.mem_append.mp hw with hw | hw
            · simp only [List.mem_cons, List.not_mem_nil, or_false] at hw
              rcases hw with rfl | rfl | rfl | rfl
              · exact e2
              · exact e3
              · exact e4
              · exact e5
            · exact (List.mem_cons.mp hw).elim (fun e => e ▸ y2) id) rfl rfl rfl ⟨rfl, y4.1, y4.2, y5⟩ ⟨by show d' + 1 ≤ R.frames; omega, by show 8 + (_ + 11) + (40 * d' + 40) ≤ R.locals; omega⟩) ⟨dPc_blind, va_recv hKK hP.2.1 e0 hj, hpre⟩ rfl hn1 hl.1 hst h8.1 hdg hf
        · rename_i h5
          rw [h5] at hE
          obtain ⟨a, r, hdr, hk⟩ := x1R_inv h
          obtain ⟨hc8, hax, hk9⟩ := condT hk
          subst hax
          simp only [Bool.and_eq_true] at hc8
          have h8 := Nat.le_of_ble_eq_true hc8.2.2.2
          have h9 := Nat.le_of_ble_eq_true hc8.2.1
          rw [lenV_eq] at h8
          have hI := allI_rev hc8.1
          have hst : st = ((toI (st.take ce.2.2.2.1).reverse).map (cv ax)).reverse ++ .ref (ax 0) :: r := by
            rw [toI_cv ax hI, List.reverse_reverse, ← hdr, List.take_append_drop]
          have hP0 : va_P D classes (wl K.1 ax σ LX) H := fun k q hq => hP.2.1 k q (by rw [List.getElem?_append_left (List.getElem?_eq_some_iff.mp hq).1]; exact hq)
          have hD0 : va_D A (wl K.1 ax σ LX) := ⟨fun i j x y hi hj hxy => hP.2.2.1 i j x y (by rw [List.getElem?_append_left (List.getElem?_eq_some_iff.mp hi).1]; exact hi) (by rw [List.getElem?_append_left (List.getElem?_eq_some_iff.mp hj).1]; exact hj) hxy, fun k q hq => hP.2.2.2 k q (by rw [List.getElem?_append_left (List.getElem?_eq_some_iff.mp hq).1]; exact hq)⟩
          have hlen : (toI (st.take ce.2.2.2.1).reverse).length = ce.2.2.2.1 := by
            rw [toI_len, List.length_reverse, List.length_take]
            have : (st.drop ce.2.2.2.1).length = r.length + 1 := by rw [hdr]; rfl
            rw [List.length_drop] at this
            omega
          have hE2 := hE
          unfold eOK at hE2
          obtain ⟨⟨_, _, z3, _, z5, _⟩, _⟩ := hE2
          refine sm_call (Y := LX) (ad := ax) (d := d') (b := 0) (as0 := toI (st.take ce.2.2.2.1).reverse) (rest := r) hE rfl rfl hk9 LX_ok (toI_wt LX _) hx hb hml hown hts hN (hKK.sub (tys' := [(K.1, .int)]) [0] rfl) hP0 hD0 hS hA hl.1 (by rw [c1s_sum hc8.2.2.1]; exact h8) hlen ?_ ⟨by omega, by omega⟩ ⟨by omega, by omega⟩ hdg hst ?_
          · show 1 + wsum (toI _) ≤ ce.2.2.1.2.2.1
            rw [toI_sum, ← toI_len, hlen]
            omega
          · intro r1 σ' H1 locs1 hq hP1 hz hkk hS1
            have hP2 := dP_gf hP hP1 hkk
            unfold rI at hq
            split at hq
            · exact go _ _ _ _ _ _ hq H1 locs1 lsA ws cells slots hP2 hS1 hl hu1 hu2
            · exact hq.elim
        · rename_i h5
          rw [h5] at hE
          obtain ⟨e1, e2, e3, e4, e5⟩ := hE
          obtain ⟨a, r, rfl, hk⟩ := x1R_inv h
          obtain ⟨hc8, n, g, hm, hroom, hk⟩ := condT hk
          simp only [Bool.and_eq_true] at hc8
          have h8 := Nat.le_of_ble_eq_true hc8.2
          rw [lenV_eq] at h8
          obtain ⟨j, hj⟩ := dP_at hP hm
          refine va_clone (ad := "[I") hx hb (by rw [hml, hl.1]) hown (hts _ e1) (hts _ e2) (hts _ e3) (hts _ e4) (hts _ e5) hcs hKK hP.2.1 hP.2.2 hS hA _ 0 hj rfl (hKK.2 0 _ rfl).2 (fun i v hv => ?_) (by omega) (by rw [c1s_sum hc8.1]; omega) (by omega) (by show slots + n ≤ R.slots; omega) hdg (fun q H1 _ hP1 hD1 hS1 => ?_)
          · rw [show vp_cell _ (n, Sum.inl g) = arrV _ n (fun j => .int (g j)) from rfl] at hv
            have hlt := (Array.getElem?_eq_some_iff.mp hv).1
            rw [arrV_size] at hlt
            rw [arrV_read _ _ hlt] at hv
            cases hv
            rfl
          · obtain ⟨hq, hP2⟩ := dP_push (e := eA 0 n g) hP hP1 hD1
            exact go _ _ _ _ _ _ (hk q hq) H1 locs lsA _ _ _ hP2 hS1 hl (by omega) (by show slots + n + _ ≤ ms; omega)
        · exact h.elim
      · exact h.elim
  | invokespecial idx =>
    have hln := hlen1 3 hside
    subst hln
    replace h : dinv d idx ct (fun d ce => dspec B ax d u ce st σ μ (KK (pc + 3) ls)) := h
    cases d with
    | zero => exact h.elim
    | succ d =>
    unfold dinv at h
    split at h
    · rename_i hd; exact absurd hd (by omega)
    · rename_i d' hdd
      have hdd : d' = d := by omega
      subst hdd
      split at h
      · rename_i ce hcf
        obtain ⟨hmem, hidx⟩ := dcf_mem hcf
        have hE := hC ce hmem
        subst hidx
        have hfix : CallFix p m c y.2.1 y.2.2.1 s args ALL y.1.cls := ⟨hx, hb, hml, hown, hts⟩
        unfold dCOK at hE
        unfold dspec at h
        split at h
        · rename_i h5
          rw [h5] at hE
          obtain ⟨⟨y1, y2, y3, y4, y5⟩, z1, z2, e1, e2, e3⟩ := hE
          obtain ⟨b, r, hdr, h⟩ := x1R_inv h
          obtain ⟨hst, htk⟩ := split_ref hdr
          have hws : wsY ce.2.2.1 = Cond.code ce.2.2.1.1 ce.2.2.1.2.1 ce.2.2.1.2.2.1 none :: ALL := by unfold wsY; rw [z2]
          refine dgo_go h y1 hCx hP hS hu1 hu2 hu3 hu4 (fun u1 Q' hf hM h8 hpre => ?_) (fun st' u' σ' μ' hk H1 locs1 ws1 c1 s1 hP1 hS1 a1 a2 => go _ _ _ _ _ _ hk H1 locs1 lsA ws1 c1 s1 hP1 hS1 hl a1 a2)
          have hn1 : (st.take ce.2.2.2.1).reverse.length = ce.2.2.2.1 := by rw [List.length_reverse, List.length_take]; omega
          rw [htk] at hM hpre ⊢
          exact va_runI hfix hM (cwI _ hts (goodALL fun w hw => (List.mem_cons.mp hw).elim (fun e => e ▸ y2) id) hws rfl rfl (hts _ e1) (hts _ e2) (hts _ e3) z1 ⟨y4.1, y4.2, y5⟩ ⟨by show d' + 1 ≤ R.frames; omega, by show 8 + (_ + 11) + (40 * d' + 40) ≤ R.locals; omega⟩) ⟨dPc_blind, hpre⟩ rfl hn1 hl.1 hst h8.1 hdg hf
        · rename_i h5
          rw [h5] at hE
          obtain ⟨⟨y1, y2, y3, y4, y5⟩, z1, z2, e1, ⟨host, e2⟩, e3⟩ := hE
          obtain ⟨b, r, hdr, h⟩ := x1R_inv h
          obtain ⟨hst, htk⟩ := split_ref hdr
          have hws : wsY ce.2.2.1 = Cond.code ce.2.2.1.1 ce.2.2.1.2.1 ce.2.2.1.2.2.1 none :: ALL := by unfold wsY; rw [z2]
          refine dgo_go h y1 hCx hP hS hu1 hu2 hu3 hu4 (fun u1 Q' hf hM h8 hpre => ?_) (fun st' u' σ' μ' hk H1 locs1 ws1 c1 s1 hP1 hS1 a1 a2 => go _ _ _ _ _ _ hk H1 locs1 lsA ws1 c1 s1 hP1 hS1 hl a1 a2)
          have hn1 : (st.take ce.2.2.2.1).reverse.length = ce.2.2.2.1 := by rw [List.length_reverse, List.length_take]; omega
          rw [htk] at hM hpre ⊢
          exact va_runIN hfix hM ⟨va_cnB _ hts (goodALL fun w hw => (List.mem_cons.mp hw).elim (fun e => e ▸ y2) id) hws rfl rfl (hN2 _ e2) (hts _ e1) ⟨y4.1, y4.2, y5⟩ ⟨by show d' + 1 ≤ R.frames; omega, by show 8 + (_ + 11) + (40 * d' + 40) ≤ R.locals; omega⟩, z1, hts _ e3⟩ ⟨dPc_blind, hpre⟩ rfl hn1 hl.1 hst h8.1 hdg hf
        · rename_i h5
          rw [h5] at hE
          obtain ⟨e1, e2, e3⟩ := hE
          obtain ⟨a, r, rfl, hk⟩ := x1R_inv h
          obtain ⟨hc8, hk⟩ := condT hk
          simp only [Bool.and_eq_true] at hc8
          have h8 := Nat.le_of_ble_eq_true hc8.2
          rw [lenV_eq] at h8
          refine W.objInit hx hb hown (hts _ e1) (hts _ e2) (hts _ e3) rfl (by rw [hml]; exact hl.1) rfl hdg (by omega) ?_ ?_
          · rw [c1s_sum hc8.1]
            show 2 * 0 + _ + 12 ≤ R.locals
            omega
          · exact W.eq (g2 := F0 m (pc + 3) lsA r) rfl (go _ _ _ _ _ _ hk H locs lsA ws cells slots hP hS hl hu1 hu2)
        · exact h.elim
      · exact h.elim
  | ireturn =>
    have hln := hlen1 1 hside
    subst hln
    match st, h with
    | [.int x], h =>
      have h : (match y.2.2.2 with
        | some .int => Q (some (.int x)) σ μ
        | some .boolean => (x = 0 ∨ x = 1) ∧ Q (some (.int x)) σ μ
        | _ => False) := h
      refine W.widen (k := mc) (n := ms) (by omega) (by omega) ?_
      split at h
      · rename_i hret
        exact W.iret hx hb (hr.trans hret) (fun t ht hW => fin _ h t ht) hS.2.2 hdg hlk
      · rename_i hret
        exact W.zret hx hb (hr.trans hret) (by rcases h.1 with rfl | rfl <;> rfl) (fun t ht hW => fin _ h.2 t ht) hS.2.2 hdg hlk
      · exact h.elim
  | areturn =>
    have hln := hlen1 1 hside
    subst hln
    have isr : isRef y.2.2.2 = true → ∃ rt, y.2.2.2 = some rt ∧ ((∃ n, rt = .object n) ∨ ∃ t, rt = .array t) := by
      intro hh
      unfold isRef at hh
      split at hh
      · rename_i n he; exact ⟨_, he, Or.inl ⟨_, rfl⟩⟩
      · rename_i t he; exact ⟨_, he, Or.inr ⟨_, rfl⟩⟩
      · cases hh
    match st, h with
    | [.ref a], h =>
      obtain ⟨h1, h2⟩ := condT h
      obtain ⟨rt, hrt, hor⟩ := isr h1
      refine W.widen (k := mc) (n := ms) (by omega) (by omega) ?_
      exact W.aret hx hb (hr.trans hrt) hor (Or.inr ⟨a, rfl⟩) (fun t ht hW => fin _ h2 t ht) hS.2.2 hdg hlk
    | [.null], h =>
      obtain ⟨h1, h2⟩ := condT h
      obtain ⟨rt, hrt, hor⟩ := isr h1
      refine W.widen (k := mc) (n := ms) (by omega) (by omega) ?_
      exact W.aret hx hb (hr.trans hrt) hor (Or.inl rfl) (fun t ht hW => fin _ h2 t ht) hS.2.2 hdg hlk
  | return_ =>
    have hln := hlen1 1 hside
    subst hln
    match st, h with
    | [], h =>
      have h : (match ([] : List Value), y.2.2.2 with
        | [], none => Q none σ μ
        | _, _ => False) := h
      refine W.widen (k := mc) (n := ms) (by omega) (by omega) ?_
      split at h
      · rename_i hret
        exact W.vret hx hb (hr.trans hret) (fun t ht hW => fin _ h t ht) hS.2.2 hdg hlk
      · exact h.elim
  | _ => exact False.elim h
end
