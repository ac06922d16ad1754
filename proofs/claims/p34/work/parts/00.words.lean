def R0_ : String := "GathersAllFaults$CheckReader"
def T0_ : u_T := fun k => match k with
  | 0 => ("GathersAllFaults$Reader", "open", "[I", true)
  | 1 => ("GathersAllFaults$Reader", "height", "I", false)
  | 2 => ("GathersAllFaults$Reader", "state", "I", false)
  | 3 => ("GathersAllFaults$Reader", "lone", "Z", false)
  | 4 => ("GathersAllFaults$CheckReader", "made", "LGathersAllFaults$Plan;", true)
  | 5 => ("GathersAllFaults$CheckReader", "wanting", "[I", true)
  | 6 => ("GathersAllFaults$CheckReader", "owed", "I", false)
  | 7 => ("GathersAllFaults$CheckReader", "leads", "Z", false)
  | 8 => ("GathersAllFaults$CheckReader", "returns", "I", false)
  | 9 => ("GathersAllFaults$CheckReader", "digit", "I", false)
  | _ => ("GathersAllFaults$CheckReader", "free", "I", false)
def ty0_ : Nat → FieldType := fun k => match k with
  | 0 => .array .int
  | 1 => .int
  | 2 => .int
  | 3 => .boolean
  | 4 => .object "GathersAllFaults$Plan"
  | 5 => .array .int
  | 6 => .int
  | 7 => .boolean
  | 8 => .int
  | 9 => .int
  | _ => .int
theorem nm0_ : ∀ a, a < 11 → ∀ b, b < 11 → a ≠ b → (T0_ a).2.1 ≠ (T0_ b).2.1 := by decide +kernel
theorem ty0_ok : ∀ k, k < 11 → parseFieldDescriptor (T0_ k).2.2.1 = some (ty0_ k) := by decide +kernel
def R1_ : String := "GathersAllFaults$Gatherer"
def T1_ : u_T := fun k => match k with
  | 0 => ("GathersAllFaults$Gatherer", "plan", "LGathersAllFaults$Plan;", true)
  | 1 => ("GathersAllFaults$Gatherer", "tree", "LGathersAllFaults$Tree;", false)
  | 2 => ("GathersAllFaults$Gatherer", "found", "[I", true)
  | 3 => ("GathersAllFaults$Gatherer", "size", "I", false)
  | _ => ("GathersAllFaults$Gatherer", "waiting", "I", false)
def ty1_ : Nat → FieldType := fun k => match k with
  | 0 => .object "GathersAllFaults$Plan"
  | 1 => .object "GathersAllFaults$Tree"
  | 2 => .array .int
  | 3 => .int
  | _ => .int
theorem nm1_ : ∀ a, a < 5 → ∀ b, b < 5 → a ≠ b → (T1_ a).2.1 ≠ (T1_ b).2.1 := by decide +kernel
theorem ty1_ok : ∀ k, k < 5 → parseFieldDescriptor (T1_ k).2.2.1 = some (ty1_ k) := by decide +kernel
def R2_ : String := "GathersAllFaults$Plan"
def T2_ : u_T := fun k => match k with
  | 0 => ("GathersAllFaults$Plan", "sign", "[I", true)
  | 1 => ("GathersAllFaults$Plan", "low", "[I", true)
  | 2 => ("GathersAllFaults$Plan", "high", "[I", true)
  | 3 => ("GathersAllFaults$Plan", "span", "[I", true)
  | 4 => ("GathersAllFaults$Plan", "digit", "[I", true)
  | 5 => ("GathersAllFaults$Plan", "free", "[I", true)
  | 6 => ("GathersAllFaults$Plan", "fields", "[I", true)
  | 7 => ("GathersAllFaults$Plan", "names", "[I", true)
  | 8 => ("GathersAllFaults$Plan", "firstDependent", "[I", true)
  | 9 => ("GathersAllFaults$Plan", "dependents", "[I", true)
  | 10 => ("GathersAllFaults$Plan", "dependentSign", "[I", true)
  | 11 => ("GathersAllFaults$Plan", "dependentOne", "[I", true)
  | 12 => ("GathersAllFaults$Plan", "dependentOther", "[I", true)
  | 13 => ("GathersAllFaults$Plan", "size", "I", false)
  | _ => ("GathersAllFaults$Plan", "dependentCount", "I", false)
def ty2_ : Nat → FieldType := fun k => match k with
  | 0 => .array .int
  | 1 => .array .int
  | 2 => .array .int
  | 3 => .array .int
  | 4 => .array .int
  | 5 => .array .int
  | 6 => .array .int
  | 7 => .array .int
  | 8 => .array .int
  | 9 => .array .int
  | 10 => .array .int
  | 11 => .array .int
  | 12 => .array .int
  | 13 => .int
  | _ => .int
theorem nm2_ : ∀ a, a < 15 → ∀ b, b < 15 → a ≠ b → (T2_ a).2.1 ≠ (T2_ b).2.1 := by decide +kernel
theorem ty2_ok : ∀ k, k < 15 → parseFieldDescriptor (T2_ k).2.2.1 = some (ty2_ k) := by decide +kernel
def R3_ : String := "GathersAllFaults$Tree"
def T3_ : u_T := fun k => match k with
  | 0 => ("GathersAllFaults$Tree", "kind", "[I", true)
  | 1 => ("GathersAllFaults$Tree", "num", "[I", true)
  | 2 => ("GathersAllFaults$Tree", "kids", "[I", true)
  | 3 => ("GathersAllFaults$Tree", "digit", "[I", true)
  | 4 => ("GathersAllFaults$Tree", "span", "[I", true)
  | 5 => ("GathersAllFaults$Tree", "road", "[I", true)
  | _ => ("GathersAllFaults$Tree", "size", "I", false)
def ty3_ : Nat → FieldType := fun k => match k with
  | 0 => .array .int
  | 1 => .array .int
  | 2 => .array .int
  | 3 => .array .int
  | 4 => .array .int
  | 5 => .array .int
  | _ => .int
theorem nm3_ : ∀ a, a < 7 → ∀ b, b < 7 → a ≠ b → (T3_ a).2.1 ≠ (T3_ b).2.1 := by decide +kernel
theorem ty3_ok : ∀ k, k < 7 → parseFieldDescriptor (T3_ k).2.2.1 = some (ty3_ k) := by decide +kernel
def R4_ : String := "GathersAllFaults$ValueReader"
def T4_ : u_T := fun k => match k with
  | 0 => ("GathersAllFaults$Reader", "open", "[I", true)
  | 1 => ("GathersAllFaults$Reader", "height", "I", false)
  | 2 => ("GathersAllFaults$Reader", "state", "I", false)
  | 3 => ("GathersAllFaults$Reader", "lone", "Z", false)
  | 4 => ("GathersAllFaults$ValueReader", "made", "LGathersAllFaults$Tree;", true)
  | _ => ("GathersAllFaults$ValueReader", "digit", "I", false)
def ty4_ : Nat → FieldType := fun k => match k with
  | 0 => .array .int
  | 1 => .int
  | 2 => .int
  | 3 => .boolean
  | 4 => .object "GathersAllFaults$Tree"
  | _ => .int
theorem nm4_ : ∀ a, a < 6 → ∀ b, b < 6 → a ≠ b → (T4_ a).2.1 ≠ (T4_ b).2.1 := by decide +kernel
theorem ty4_ok : ∀ k, k < 6 → parseFieldDescriptor (T4_ k).2.2.1 = some (ty4_ k) := by decide +kernel
def R5_ : String := "GathersAllFaults"
def T5_ : u_T := fun k => match k with
  | 0 => ("GathersAllFaults", "now", "LGathersAllFaults$Tree;", true)
  | 1 => ("GathersAllFaults", "trial", "LGathersAllFaults$Tree;", true)
  | 2 => ("GathersAllFaults", "gatherer", "LGathersAllFaults$Gatherer;", true)
  | 3 => ("GathersAllFaults", "valueReader", "LGathersAllFaults$ValueReader;", true)
  | 4 => ("GathersAllFaults", "checkReader", "LGathersAllFaults$CheckReader;", true)
  | 5 => ("GathersAllFaults", "letters", "[I", true)
  | 6 => ("GathersAllFaults", "letterCount", "I", false)
  | 7 => ("GathersAllFaults", "told", "[I", true)
  | 8 => ("GathersAllFaults", "toldCount", "I", false)
  | 9 => ("GathersAllFaults", "refusals", "[I", true)
  | 10 => ("GathersAllFaults", "imageTree", "LGathersAllFaults$Tree;", true)
  | 11 => ("GathersAllFaults", "imagePlan", "LGathersAllFaults$Plan;", true)
  | 12 => ("GathersAllFaults", "imaged", "Z", false)
  | _ => ("GathersAllFaults", "seed", "I", false)
def ty5_ : Nat → FieldType := fun k => match k with
  | 0 => .object "GathersAllFaults$Tree"
  | 1 => .object "GathersAllFaults$Tree"
  | 2 => .object "GathersAllFaults$Gatherer"
  | 3 => .object "GathersAllFaults$ValueReader"
  | 4 => .object "GathersAllFaults$CheckReader"
  | 5 => .array .int
  | 6 => .int
  | 7 => .array .int
  | 8 => .int
  | 9 => .array .int
  | 10 => .object "GathersAllFaults$Tree"
  | 11 => .object "GathersAllFaults$Plan"
  | 12 => .boolean
  | _ => .int
theorem nm5_ : ∀ a, a < 14 → ∀ b, b < 14 → a ≠ b → (T5_ a).2.1 ≠ (T5_ b).2.1 := by decide +kernel
theorem ty5_ok : ∀ k, k < 14 → parseFieldDescriptor (T5_ k).2.2.1 = some (ty5_ k) := by decide +kernel
def R6_ : String := "GathersAllFaultsLaw$Tape"
def T6_ : u_T := fun k => match k with
  | 0 => ("GathersAllFaultsLaw$Tape", "c", "[I", true)
  | _ => ("GathersAllFaultsLaw$Tape", "n", "I", false)
def ty6_ : Nat → FieldType := fun k => match k with
  | 0 => .array .int
  | _ => .int
theorem nm6_ : ∀ a, a < 2 → ∀ b, b < 2 → a ≠ b → (T6_ a).2.1 ≠ (T6_ b).2.1 := by decide +kernel
theorem ty6_ok : ∀ k, k < 2 → parseFieldDescriptor (T6_ k).2.2.1 = some (ty6_ k) := by decide +kernel
def R7_ : String := "GathersAllFaultsLaw$Val"
def T7_ : u_T := fun k => match k with
  | 0 => ("GathersAllFaultsLaw$Val", "kind", "I", false)
  | 1 => ("GathersAllFaultsLaw$Val", "n", "I", false)
  | 2 => ("GathersAllFaultsLaw$Val", "names", "[I", false)
  | _ => ("GathersAllFaultsLaw$Val", "in", "[LGathersAllFaultsLaw$Val;", false)
def ty7_ : Nat → FieldType := fun k => match k with
  | 0 => .int
  | 1 => .int
  | 2 => .array .int
  | _ => .array (.object "GathersAllFaultsLaw$Val")
theorem nm7_ : ∀ a, a < 4 → ∀ b, b < 4 → a ≠ b → (T7_ a).2.1 ≠ (T7_ b).2.1 := by decide +kernel
theorem ty7_ok : ∀ k, k < 4 → parseFieldDescriptor (T7_ k).2.2.1 = some (ty7_ k) := by decide +kernel
def R8_ : String := "GathersAllFaultsLaw$Chk"
def T8_ : u_T := fun k => match k with
  | 0 => ("GathersAllFaultsLaw$Chk", "sign", "I", true)
  | 1 => ("GathersAllFaultsLaw$Chk", "low", "I", false)
  | 2 => ("GathersAllFaultsLaw$Chk", "high", "I", false)
  | 3 => ("GathersAllFaultsLaw$Chk", "names", "[I", false)
  | 4 => ("GathersAllFaultsLaw$Chk", "in", "[LGathersAllFaultsLaw$Chk;", false)
  | _ => ("GathersAllFaultsLaw$Chk", "waits", "[I", false)
def ty8_ : Nat → FieldType := fun k => match k with
  | 0 => .int
  | 1 => .int
  | 2 => .int
  | 3 => .array .int
  | 4 => .array (.object "GathersAllFaultsLaw$Chk")
  | _ => .array .int
theorem nm8_ : ∀ a, a < 6 → ∀ b, b < 6 → a ≠ b → (T8_ a).2.1 ≠ (T8_ b).2.1 := by decide +kernel
theorem ty8_ok : ∀ k, k < 6 → parseFieldDescriptor (T8_ k).2.2.1 = some (ty8_ k) := by decide +kernel
abbrev classes : List vw_C := [(R0_, T0_, 11), (R1_, T1_, 5), (R2_, T2_, 15), (R3_, T3_, 7), (R4_, T4_, 6), (R5_, T5_, 14), (R6_, T6_, 2), (R7_, T7_, 4), (R8_, T8_, 6)]
def fs0_ : List (Nat × Nat × (Nat ⊕ Nat)) := [(1, 1, .inr 96), (0, 0, .inl 0), (0, 0, .inl 0), (3, 0, .inl 0), (1, 2, .inl 2), (1, 16, .inr 96), (0, 0, .inl 0), (3, 0, .inl 0), (0, 0, .inl 0), (0, 0, .inl 0), (0, 0, .inl 0)]
def fs1_ : List (Nat × Nat × (Nat ⊕ Nat)) := [(1, 1, .inl 2), (2, 0, .inl 3), (1, 22, .inr 6144), (0, 0, .inl 0), (0, 0, .inl 0)]
def fs2_ : List (Nat × Nat × (Nat ⊕ Nat)) := [(1, 1, .inr 24), (1, 2, .inr 24), (1, 3, .inr 24), (1, 4, .inr 24), (1, 5, .inr 24), (1, 6, .inr 24), (1, 7, .inr 24), (1, 8, .inr 24), (1, 9, .inr 24), (1, 10, .inr 24), (1, 11, .inr 32), (1, 12, .inr 32), (1, 13, .inr 32), (0, 0, .inl 0), (0, 0, .inl 0)]
def fs3_ : List (Nat × Nat × (Nat ⊕ Nat)) := [(1, 1, .inr 20), (1, 2, .inr 20), (1, 3, .inr 20), (1, 4, .inr 20), (1, 5, .inr 20), (1, 6, .inr 20), (0, 0, .inl 0)]
def fs4_ : List (Nat × Nat × (Nat ⊕ Nat)) := [(1, 1, .inr 96), (0, 0, .inl 0), (0, 0, .inl 0), (3, 0, .inl 0), (1, 2, .inl 3), (0, 0, .inl 0)]
def fs5_ : List (Nat × Nat × (Nat ⊕ Nat)) := [(1, 1, .inl 3), (1, 8, .inl 3), (1, 15, .inl 1), (1, 38, .inl 4), (1, 47, .inl 0), (1, 64, .inr 96), (0, 0, .inl 0), (1, 65, .inr 32), (0, 0, .inl 0), (1, 66, .inr 7), (1, 67, .inl 3), (1, 74, .inl 2), (3, 0, .inl 0), (0, 0, .inl 0)]
def fs6_ : List (Nat × Nat × (Nat ⊕ Nat)) := []
def fs7_ : List (Nat × Nat × (Nat ⊕ Nat)) := []
def fs8_ : List (Nat × Nat × (Nat ⊕ Nat)) := []
/-- of each class the sorts of its fields: 0 an int, 1 a fixed reference (how far off, what kind), 2 a reference that changes, 3 a boolean -/
def cfs : List (List (Nat × Nat × (Nat ⊕ Nat))) := [fs0_, fs1_, fs2_, fs3_, fs4_, fs5_, fs6_, fs7_, fs8_]
def LX : List (Nat ⊕ Nat) := [.inl 5, .inl 3, .inr 20, .inr 20, .inr 20, .inr 20, .inr 20, .inr 20, .inl 3, .inr 20, .inr 20, .inr 20, .inr 20, .inr 20, .inr 20, .inl 1, .inl 2, .inr 24, .inr 24, .inr 24, .inr 24, .inr 24, .inr 24, .inr 24, .inr 24, .inr 24, .inr 24, .inr 32, .inr 32, .inr 32, .inl 3, .inr 20, .inr 20, .inr 20, .inr 20, .inr 20, .inr 20, .inr 6144, .inl 4, .inr 96, .inl 3, .inr 20, .inr 20, .inr 20, .inr 20, .inr 20, .inr 20, .inl 0, .inr 96, .inl 2, .inr 24, .inr 24, .inr 24, .inr 24, .inr 24, .inr 24, .inr 24, .inr 24, .inr 24, .inr 24, .inr 32, .inr 32, .inr 32, .inr 96, .inr 96, .inr 32, .inr 7, .inl 3, .inr 20, .inr 20, .inr 20, .inr 20, .inr 20, .inr 20, .inl 2, .inr 24, .inr 24, .inr 24, .inr 24, .inr 24, .inr 24, .inr 24, .inr 24, .inr 24, .inr 24, .inr 32, .inr 32, .inr 32]
/-- the words that every method of ours has: those of the tables that stay, and which stumble a reader runs -/
def EX : List Cond := [.selects "GathersAllFaults$ValueReader" ⟨"GathersAllFaults$Reader", "stumble", "([II)I"⟩ ⟨"GathersAllFaults$Reader", "stumble", "([II)I"⟩, .selects "GathersAllFaults$CheckReader" ⟨"GathersAllFaults$Reader", "stumble", "([II)I"⟩ ⟨"GathersAllFaults$Reader", "stumble", "([II)I"⟩]
def ALL : List Cond := EX ++ lw_tbl.filter goodWord
/-- words that stay by laws of their own -/
def NW : List Cond := [.methodLinkNest "GathersAllFaults$Tree" 34 ⟨"GathersAllFaults", "set", "([III)V"⟩ "GathersAllFaults", .methodLinkNest "GathersAllFaults$Plan" 55 ⟨"GathersAllFaults", "set", "([III)V"⟩ "GathersAllFaults", .methodLinkNest "GathersAllFaults$Gatherer" 40 ⟨"GathersAllFaults", "at", "([II)I"⟩ "GathersAllFaults", .methodLinkNest "GathersAllFaults$Gatherer" 52 ⟨"GathersAllFaults", "set", "([III)V"⟩ "GathersAllFaults", .methodLinkNest "GathersAllFaults$Tree" 42 ⟨"GathersAllFaults", "at", "([II)I"⟩ "GathersAllFaults", .methodLinkNest "GathersAllFaults$Plan" 66 ⟨"GathersAllFaults", "at", "([II)I"⟩ "GathersAllFaults", .methodLinkNest "GathersAllFaults$Gatherer" 154 ⟨"GathersAllFaults", "close", "([IIII)V"⟩ "GathersAllFaults", .methodLinkNest "GathersAllFaults$Tree" 38 ⟨"GathersAllFaults", "copy", "([I[I)V"⟩ "GathersAllFaults", .methodLinkNest "GathersAllFaults$Plan" 59 ⟨"GathersAllFaults", "copy", "([I[I)V"⟩ "GathersAllFaults", .methodLinkNest "GathersAllFaults$Reader" 33 ⟨"GathersAllFaults", "at", "([II)I"⟩ "GathersAllFaults", .methodLinkNest "GathersAllFaults$Reader" 40 ⟨"GathersAllFaults", "set", "([III)V"⟩ "GathersAllFaults", .methodLinkNest "GathersAllFaults$CheckReader" 36 ⟨"GathersAllFaults", "isDigit", "(I)Z"⟩ "GathersAllFaults", .methodLinkNest "GathersAllFaults$CheckReader" 45 ⟨"GathersAllFaults", "isName", "(I)Z"⟩ "GathersAllFaults", .methodLinkNest "GathersAllFaults$ValueReader" 22 ⟨"GathersAllFaults", "isDigit", "(I)Z"⟩ "GathersAllFaults", .methodLinkNest "GathersAllFaults$ValueReader" 37 ⟨"GathersAllFaults", "isName", "(I)Z"⟩ "GathersAllFaults", .methodLinkNest "GathersAllFaults$CheckReader" 88 ⟨"GathersAllFaults", "at", "([II)I"⟩ "GathersAllFaults", .methodLinkNest "GathersAllFaults$CheckReader" 99 ⟨"GathersAllFaults", "set", "([III)V"⟩ "GathersAllFaults", .methodLinkNest "GathersAllFaults$CheckReader" 106 ⟨"GathersAllFaults", "digitOf", "(I)I"⟩ "GathersAllFaults", .methodLinkNest "GathersAllFaults$ValueReader" 63 ⟨"GathersAllFaults", "at", "([II)I"⟩ "GathersAllFaults", .methodLinkNest "GathersAllFaults$ValueReader" 81 ⟨"GathersAllFaults", "set", "([III)V"⟩ "GathersAllFaults", .methodLinkNest "GathersAllFaults$ValueReader" 85 ⟨"GathersAllFaults", "digitOf", "(I)I"⟩ "GathersAllFaults", .declares ⟨"GathersAllFaults$Reader", "goesOn", "(I)Z"⟩, .declares ⟨"GathersAllFaults$Reader", "build", "([II)I"⟩]
theorem NW_t0 : (.methodLinkNest "GathersAllFaults$Tree" 34 ⟨"GathersAllFaults", "set", "([III)V"⟩ "GathersAllFaults" : Cond) ∈ tables_1 := List.mem_of_getElem? (i := 27) (by decide +kernel)
theorem NW_t1 : (.methodLinkNest "GathersAllFaults$Plan" 55 ⟨"GathersAllFaults", "set", "([III)V"⟩ "GathersAllFaults" : Cond) ∈ tables_1 := List.mem_of_getElem? (i := 79) (by decide +kernel)
theorem NW_t2 : (.methodLinkNest "GathersAllFaults$Gatherer" 40 ⟨"GathersAllFaults", "at", "([II)I"⟩ "GathersAllFaults" : Cond) ∈ tables_1 := List.mem_of_getElem? (i := 306) (by decide +kernel)
theorem NW_t3 : (.methodLinkNest "GathersAllFaults$Gatherer" 52 ⟨"GathersAllFaults", "set", "([III)V"⟩ "GathersAllFaults" : Cond) ∈ tables_1 := List.mem_of_getElem? (i := 313) (by decide +kernel)
theorem NW_t4 : (.methodLinkNest "GathersAllFaults$Tree" 42 ⟨"GathersAllFaults", "at", "([II)I"⟩ "GathersAllFaults" : Cond) ∈ tables_1 := List.mem_of_getElem? (i := 330) (by decide +kernel)
theorem NW_t5 : (.methodLinkNest "GathersAllFaults$Plan" 66 ⟨"GathersAllFaults", "at", "([II)I"⟩ "GathersAllFaults" : Cond) ∈ tables_1 := List.mem_of_getElem? (i := 339) (by decide +kernel)
theorem NW_t6 : (.methodLinkNest "GathersAllFaults$Gatherer" 154 ⟨"GathersAllFaults", "close", "([IIII)V"⟩ "GathersAllFaults" : Cond) ∈ tables_1 := List.mem_of_getElem? (i := 376) (by decide +kernel)
theorem NW_t7 : (.methodLinkNest "GathersAllFaults$Tree" 38 ⟨"GathersAllFaults", "copy", "([I[I)V"⟩ "GathersAllFaults" : Cond) ∈ tables_1 := List.mem_of_getElem? (i := 451) (by decide +kernel)
theorem NW_t8 : (.methodLinkNest "GathersAllFaults$Plan" 59 ⟨"GathersAllFaults", "copy", "([I[I)V"⟩ "GathersAllFaults" : Cond) ∈ tables_1 := List.mem_of_getElem? (i := 458) (by decide +kernel)
theorem NW_t9 : (.methodLinkNest "GathersAllFaults$Reader" 33 ⟨"GathersAllFaults", "at", "([II)I"⟩ "GathersAllFaults" : Cond) ∈ tables_1 := List.mem_of_getElem? (i := 566) (by decide +kernel)
theorem NW_t10 : (.methodLinkNest "GathersAllFaults$Reader" 40 ⟨"GathersAllFaults", "set", "([III)V"⟩ "GathersAllFaults" : Cond) ∈ tables_1 := List.mem_of_getElem? (i := 599) (by decide +kernel)
theorem NW_t11 : (.methodLinkNest "GathersAllFaults$CheckReader" 36 ⟨"GathersAllFaults", "isDigit", "(I)Z"⟩ "GathersAllFaults" : Cond) ∈ tables_1 := List.mem_of_getElem? (i := 604) (by decide +kernel)
theorem NW_t12 : (.methodLinkNest "GathersAllFaults$CheckReader" 45 ⟨"GathersAllFaults", "isName", "(I)Z"⟩ "GathersAllFaults" : Cond) ∈ tables_1 := List.mem_of_getElem? (i := 611) (by decide +kernel)
theorem NW_t13 : (.methodLinkNest "GathersAllFaults$ValueReader" 22 ⟨"GathersAllFaults", "isDigit", "(I)Z"⟩ "GathersAllFaults" : Cond) ∈ tables_1 := List.mem_of_getElem? (i := 621) (by decide +kernel)
theorem NW_t14 : (.methodLinkNest "GathersAllFaults$ValueReader" 37 ⟨"GathersAllFaults", "isName", "(I)Z"⟩ "GathersAllFaults" : Cond) ∈ tables_1 := List.mem_of_getElem? (i := 643) (by decide +kernel)
theorem NW_t15 : (.methodLinkNest "GathersAllFaults$CheckReader" 88 ⟨"GathersAllFaults", "at", "([II)I"⟩ "GathersAllFaults" : Cond) ∈ tables_1 := List.mem_of_getElem? (i := 654) (by decide +kernel)
theorem NW_t16 : (.methodLinkNest "GathersAllFaults$CheckReader" 99 ⟨"GathersAllFaults", "set", "([III)V"⟩ "GathersAllFaults" : Cond) ∈ tables_1 := List.mem_of_getElem? (i := 655) (by decide +kernel)
theorem NW_t17 : (.methodLinkNest "GathersAllFaults$CheckReader" 106 ⟨"GathersAllFaults", "digitOf", "(I)I"⟩ "GathersAllFaults" : Cond) ∈ tables_1 := List.mem_of_getElem? (i := 660) (by decide +kernel)
theorem NW_t18 : (.methodLinkNest "GathersAllFaults$ValueReader" 63 ⟨"GathersAllFaults", "at", "([II)I"⟩ "GathersAllFaults" : Cond) ∈ tables_1 := List.mem_of_getElem? (i := 700) (by decide +kernel)
theorem NW_t19 : (.methodLinkNest "GathersAllFaults$ValueReader" 81 ⟨"GathersAllFaults", "set", "([III)V"⟩ "GathersAllFaults" : Cond) ∈ tables_1 := List.mem_of_getElem? (i := 705) (by decide +kernel)
theorem NW_t20 : (.methodLinkNest "GathersAllFaults$ValueReader" 85 ⟨"GathersAllFaults", "digitOf", "(I)I"⟩ "GathersAllFaults" : Cond) ∈ tables_1 := List.mem_of_getElem? (i := 714) (by decide +kernel)
theorem NW_t21 : (.declares ⟨"GathersAllFaults$Reader", "goesOn", "(I)Z"⟩ : Cond) ∈ tables_1 := List.mem_of_getElem? (i := 568) (by decide +kernel)
theorem NW_t22 : (.declares ⟨"GathersAllFaults$Reader", "build", "([II)I"⟩ : Cond) ∈ tables_1 := List.mem_of_getElem? (i := 645) (by decide +kernel)
theorem NW_tbl : ∀ w ∈ NW, w ∈ tables_1 := (List.forall_mem_cons.mpr ⟨NW_t0, (List.forall_mem_cons.mpr ⟨NW_t1, (List.forall_mem_cons.mpr ⟨NW_t2, (List.forall_mem_cons.mpr ⟨NW_t3, (List.forall_mem_cons.mpr ⟨NW_t4, (List.forall_mem_cons.mpr ⟨NW_t5, (List.forall_mem_cons.mpr ⟨NW_t6, (List.forall_mem_cons.mpr ⟨NW_t7, (List.forall_mem_cons.mpr ⟨NW_t8, (List.forall_mem_cons.mpr ⟨NW_t9, (List.forall_mem_cons.mpr ⟨NW_t10, (List.forall_mem_cons.mpr ⟨NW_t11, (List.forall_mem_cons.mpr ⟨NW_t12, (List.forall_mem_cons.mpr ⟨NW_t13, (List.forall_mem_cons.mpr ⟨NW_t14, (List.forall_mem_cons.mpr ⟨NW_t15, (List.forall_mem_cons.mpr ⟨NW_t16, (List.forall_mem_cons.mpr ⟨NW_t17, (List.forall_mem_cons.mpr ⟨NW_t18, (List.forall_mem_cons.mpr ⟨NW_t19, (List.forall_mem_cons.mpr ⟨NW_t20, (List.forall_mem_cons.mpr ⟨NW_t21, (List.forall_mem_cons.mpr ⟨NW_t22, (fun _ h => absurd h List.not_mem_nil)⟩)⟩)⟩)⟩)⟩)⟩)⟩)⟩)⟩)⟩)⟩)⟩)⟩)⟩)⟩)⟩)⟩)⟩)⟩)⟩)⟩)⟩)⟩)
theorem NW_kind : ∀ w ∈ NW, (∃ a i x h, w = .methodLinkNest a i x h) ∨ ∃ x, w = .declares x := by
  intro w hw
  simp only [NW, List.mem_cons, List.not_mem_nil, or_false] at hw
  rcases hw with rfl | rfl | rfl | rfl | rfl | rfl | rfl | rfl | rfl | rfl | rfl | rfl | rfl | rfl | rfl | rfl | rfl | rfl | rfl | rfl | rfl | rfl | rfl
  all_goals first | exact Or.inl ⟨_, _, _, _, rfl⟩ | exact Or.inr ⟨_, rfl⟩
theorem NW_warm {s U : State} (hW : s.WarmedH U.vm) : ∀ w ∈ NW, va_Nw w s → va_Nw w U := by
  intro w hw h
  rcases NW_kind w hw with ⟨a, i, x, hh, rfl⟩ | ⟨x, rfl⟩
  · exact va_Nw.warmM hW h
  · exact va_Nw.warmD hW h
theorem NW_tab : ∀ w ∈ NW, w.onTables = true := by
  intro w hw
  rcases NW_kind w hw with ⟨a, i, x, hh, rfl⟩ | ⟨x, rfl⟩ <;> rfl
theorem ALL_good : ∀ w ∈ ALL, (w.onTables && w.keeps) = true ∨ ∃ ty, w = .arrayClass ty := by
  intro w h
  rcases List.mem_append.mp h with h | h
  · simp only [EX, List.mem_cons, List.not_mem_nil, or_false] at h
    rcases h with rfl | rfl <;> exact Or.inl rfl
  · exact good_of_word (List.mem_filter.mp h).2
theorem ALL_in {w : Cond} (i : Nat) (h : tables_1[i]? = some w) (hg : goodWord w = true) : w ∈ ALL := List.mem_append_right _ (List.mem_filter.mpr ⟨List.mem_append_right _ (List.mem_of_getElem? h), hg⟩)
theorem ALL_inP {w : Cond} (i : Nat) (h : (k2_sels lw_privs)[i]? = some w) (hg : goodWord w = true) : w ∈ ALL := List.mem_append_right _ (List.mem_filter.mpr ⟨List.mem_append_left _ (List.mem_of_getElem? h), hg⟩)
def CK : List (String × Nat × Int32) := [("GathersAllFaults", 134, 99999), ("GathersAllFaultsLaw", 7, 2147483647)]
theorem CK_in : ∀ q ∈ CK, Cond.constant q.1 q.2.1 q.2.2 ∈ ALL := (List.forall_mem_cons.mpr ⟨ALL_in 413 (by decide +kernel) rfl, (List.forall_mem_cons.mpr ⟨ALL_in 776 (by decide +kernel) rfl, (fun _ h => absurd h List.not_mem_nil)⟩)⟩)
def CKL : List (String × Nat × Int64) := []
theorem CKL_in : ∀ q ∈ CKL, Cond.constantLong q.1 q.2.1 q.2.2 ∈ ALL := (fun _ h => absurd h List.not_mem_nil)
theorem ws0_in : ∀ w ∈ u_ws R0_ T0_ 11, w ∈ ALL := by
  have h : (u_ws R0_ T0_ 11).all (fun w => decide (w ∈ tables_1) && goodWord w) = true := by decide +kernel
  intro w hw
  have h1 := List.all_eq_true.mp h w hw
  simp only [Bool.and_eq_true, decide_eq_true_eq] at h1
  exact List.mem_append_right _ (List.mem_filter.mpr ⟨List.mem_append_right _ h1.1, h1.2⟩)
theorem ws1_in : ∀ w ∈ u_ws R1_ T1_ 5, w ∈ ALL := by
  have h : (u_ws R1_ T1_ 5).all (fun w => decide (w ∈ tables_1) && goodWord w) = true := by decide +kernel
  intro w hw
  have h1 := List.all_eq_true.mp h w hw
  simp only [Bool.and_eq_true, decide_eq_true_eq] at h1
  exact List.mem_append_right _ (List.mem_filter.mpr ⟨List.mem_append_right _ h1.1, h1.2⟩)
theorem ws2_in : ∀ w ∈ u_ws R2_ T2_ 15, w ∈ ALL := by
  have h : (u_ws R2_ T2_ 15).all (fun w => decide (w ∈ tables_1) && goodWord w) = true := by decide +kernel
  intro w hw
  have h1 := List.all_eq_true.mp h w hw
  simp only [Bool.and_eq_true, decide_eq_true_eq] at h1
  exact List.mem_append_right _ (List.mem_filter.mpr ⟨List.mem_append_right _ h1.1, h1.2⟩)
theorem ws3_in : ∀ w ∈ u_ws R3_ T3_ 7, w ∈ ALL := by
  have h : (u_ws R3_ T3_ 7).all (fun w => decide (w ∈ tables_1) && goodWord w) = true := by decide +kernel
  intro w hw
  have h1 := List.all_eq_true.mp h w hw
  simp only [Bool.and_eq_true, decide_eq_true_eq] at h1
  exact List.mem_append_right _ (List.mem_filter.mpr ⟨List.mem_append_right _ h1.1, h1.2⟩)
theorem ws4_in : ∀ w ∈ u_ws R4_ T4_ 6, w ∈ ALL := by
  have h : (u_ws R4_ T4_ 6).all (fun w => decide (w ∈ tables_1) && goodWord w) = true := by decide +kernel
  intro w hw
  have h1 := List.all_eq_true.mp h w hw
  simp only [Bool.and_eq_true, decide_eq_true_eq] at h1
  exact List.mem_append_right _ (List.mem_filter.mpr ⟨List.mem_append_right _ h1.1, h1.2⟩)
theorem ws5_in : ∀ w ∈ u_ws R5_ T5_ 14, w ∈ ALL := by
  have h : (u_ws R5_ T5_ 14).all (fun w => decide (w ∈ tables_1) && goodWord w) = true := by decide +kernel
  intro w hw
  have h1 := List.all_eq_true.mp h w hw
  simp only [Bool.and_eq_true, decide_eq_true_eq] at h1
  exact List.mem_append_right _ (List.mem_filter.mpr ⟨List.mem_append_right _ h1.1, h1.2⟩)
theorem ws6_in : ∀ w ∈ u_ws R6_ T6_ 2, w ∈ ALL := by
  have h : (u_ws R6_ T6_ 2).all (fun w => decide (w ∈ tables_1) && goodWord w) = true := by decide +kernel
  intro w hw
  have h1 := List.all_eq_true.mp h w hw
  simp only [Bool.and_eq_true, decide_eq_true_eq] at h1
  exact List.mem_append_right _ (List.mem_filter.mpr ⟨List.mem_append_right _ h1.1, h1.2⟩)
theorem ws7_in : ∀ w ∈ u_ws R7_ T7_ 4, w ∈ ALL := by
  have h : (u_ws R7_ T7_ 4).all (fun w => decide (w ∈ tables_1) && goodWord w) = true := by decide +kernel
  intro w hw
  have h1 := List.all_eq_true.mp h w hw
  simp only [Bool.and_eq_true, decide_eq_true_eq] at h1
  exact List.mem_append_right _ (List.mem_filter.mpr ⟨List.mem_append_right _ h1.1, h1.2⟩)
theorem ws8_in : ∀ w ∈ u_ws R8_ T8_ 6, w ∈ ALL := by
  have h : (u_ws R8_ T8_ 6).all (fun w => decide (w ∈ tables_1) && goodWord w) = true := by decide +kernel
  intro w hw
  have h1 := List.all_eq_true.mp h w hw
  simp only [Bool.and_eq_true, decide_eq_true_eq] at h1
  exact List.mem_append_right _ (List.mem_filter.mpr ⟨List.mem_append_right _ h1.1, h1.2⟩)
/-- what the class of number ci is -/
def cOK (ci : Nat) (C : String) (T : u_T) (N : Nat) : Prop := classes[ci]? = some (C, T, N) ∧ (∀ w ∈ u_ws C T N, w ∈ ALL) ∧ (∀ a, a < N → ∀ b, b < N → a ≠ b → (T a).2.1 ≠ (T b).2.1) ∧ ∃ ty0 : Nat → FieldType, ∀ k, k < N → parseFieldDescriptor (T k).2.2.1 = some (ty0 k)
theorem c0_ok : cOK 0 R0_ T0_ 11 := ⟨rfl, ws0_in, nm0_, ty0_, ty0_ok⟩
theorem c1_ok : cOK 1 R1_ T1_ 5 := ⟨rfl, ws1_in, nm1_, ty1_, ty1_ok⟩
theorem c2_ok : cOK 2 R2_ T2_ 15 := ⟨rfl, ws2_in, nm2_, ty2_, ty2_ok⟩
theorem c3_ok : cOK 3 R3_ T3_ 7 := ⟨rfl, ws3_in, nm3_, ty3_, ty3_ok⟩
theorem c4_ok : cOK 4 R4_ T4_ 6 := ⟨rfl, ws4_in, nm4_, ty4_, ty4_ok⟩
theorem c5_ok : cOK 5 R5_ T5_ 14 := ⟨rfl, ws5_in, nm5_, ty5_, ty5_ok⟩
theorem c6_ok : cOK 6 R6_ T6_ 2 := ⟨rfl, ws6_in, nm6_, ty6_, ty6_ok⟩
theorem c7_ok : cOK 7 R7_ T7_ 4 := ⟨rfl, ws7_in, nm7_, ty7_, ty7_ok⟩
theorem c8_ok : cOK 8 R8_ T8_ 6 := ⟨rfl, ws8_in, nm8_, ty8_, ty8_ok⟩
