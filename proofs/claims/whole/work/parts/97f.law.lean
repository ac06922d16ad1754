/-! the law: for any relation of the two worlds that holds at the start and that every call keeps, with the same answer on both sides -/
theorem sel_stumble {C : String} {n : Nat} {args : Array Value} {s : State} {y : MethodName} (hy : y.cls ≠ "java/lang/invoke/MethodHandle" ∧ y.cls ≠ "java/lang/invoke/VarHandle") (hins : (Cond.instantiable C n).before args s = true) (hpriv : (Cond.privateMethod y).before args s = true) (hinst : (Cond.instanceMethod y).before args s = true) (hsame : (Cond.sameMethod y.cls y.cls y.name y.desc).before args s = true) : (Cond.selects C y y).before args s = true := by
  obtain ⟨c, k, hc, hk, -, hniab, -, -⟩ := Cond.instantiable_spec hins
  obtain ⟨mk, methM, hnamed, hmethM, -, -⟩ := Cond.instanceMethod_spec hinst
  have hfound : s.methodFound? y.cls y.name y.desc = some mk := State.methodFound?_of_named hnamed hy
  have hsel : selectMethod {} s.vm c mk = .method mk := selectMethod_private hmethM (Cond.privateMethod_at hpriv mk methM hnamed hmethM)
  obtain ⟨cn, ck, r1, hcn, hck, hni, hf, hn1⟩ := Cond.sameMethod_found hsame
  have hcls : mk.cls = cn := Option.some.inj ((findClass_of_methodNamed hnamed).symm.trans hcn)
  simp only [Cond.before, Cond.holds, Cond.value, hc, hfound, hnamed, hsel, hcls, hck]
  simp
  exact hni
theorem tb_in {w : Cond} (i : Nat) (h : tables_1[i]? = some w) : w ∈ lw_tbl := List.mem_append_right _ (List.mem_of_getElem? h)
theorem ALL_law {args : Array Value} {s : State} (hts : ∀ w ∈ lw_tbl, w.before args s = true) : ∀ w ∈ ALL, w.before args s = true := by
  intro w hw
  rcases List.mem_append.mp hw with hw | hw
  · simp only [EX, List.mem_cons, List.not_mem_nil, or_false] at hw
    rcases hw with rfl | rfl
    · exact sel_stumble (n := 6) ⟨by decide +kernel, by decide +kernel⟩ (hts _ (tb_in 171 (by decide +kernel))) (hts _ (tb_in 316 (by decide +kernel))) (hts _ (tb_in 317 (by decide +kernel))) (hts _ (tb_in 1402 (by decide +kernel)))
    · exact sel_stumble (n := 11) ⟨by decide +kernel, by decide +kernel⟩ (hts _ (tb_in 214 (by decide +kernel))) (hts _ (tb_in 316 (by decide +kernel))) (hts _ (tb_in 317 (by decide +kernel))) (hts _ (tb_in 1402 (by decide +kernel)))
  · exact hts w (List.mem_filter.mp hw).1
theorem NW_law {args : Array Value} {s : State} (hts : ∀ w ∈ lw_tbl, w.before args s = true) : ∀ w ∈ NW, va_Nw w s := fun w hw => va_Nw.of (NW_tab w hw) (hts w (List.mem_append_right _ (NW_tbl w hw)))
theorem NW2_law {args : Array Value} {s : State} (hts : ∀ w ∈ lw_tbl, w.before args s = true) : ∀ w ∈ NW2, va_Nw w s := fun w hw => va_Nw.of (NW2_tab w hw) (hts w (List.mem_append_right _ (NW2_tbl w hw)))
theorem lk_LW_9 : LinkC "GathersAllFaultsLaw" 9 y_GF_init := ⟨rfl, by decide +kernel, by decide, rfl, ⟨by decide +kernel, by decide +kernel⟩, by decide +kernel, ALL_in 16 (by decide +kernel) rfl, ALL_in 1 (by decide +kernel) rfl, ALL_in 15 (by decide +kernel) rfl, Or.inl (ALL_in 14 (by decide +kernel) rfl)⟩
theorem lk_LW_12 : LinkC "GathersAllFaultsLaw" 12 y_MO_init := ⟨rfl, by decide +kernel, by decide, rfl, ⟨by decide +kernel, by decide +kernel⟩, by decide +kernel, ALL_in 790 (by decide +kernel) rfl, ALL_in 8 (by decide +kernel) rfl, ALL_in 789 (by decide +kernel) rfl, Or.inl (ALL_in 788 (by decide +kernel) rfl)⟩
theorem lk0_GF_letter : plainName y_GF_letter.1.cls = true ∧ Cond.code y_GF_letter.1 y_GF_letter.2.1 y_GF_letter.2.2.1 y_GF_letter.2.2.2 ∈ ALL ∧ y_GF_letter.2.2.1 ≤ 21 ∧ notMH y_GF_letter.1.cls ∧ (parseMethodDescriptor y_GF_letter.1.desc).map (fun d => d.parameters.length) = some 1 := ⟨by decide +kernel, ALL_in 296 (by decide +kernel) rfl, by decide, ⟨by decide +kernel, by decide +kernel⟩, by decide +kernel⟩
theorem ct_LW_GF_letter (Y : List kd) : eOK Y "GathersAllFaultsLaw" (13, 0, 5, y_GF_letter, 1, ⟨"GathersAllFaults", "letter", "(I)I"⟩, "", pr0) := ⟨⟨lk0_GF_letter.1, lk0_GF_letter.2.1, lk0_GF_letter.2.2.1, lk0_GF_letter.2.2.2.1, lk0_GF_letter.2.2.2.2, fun _ _ _ _ h => by cases h⟩, R5_, T5_, 14, rfl, rfl, ALL_in 293 (by decide +kernel) rfl, ALL_in 294 (by decide +kernel) rfl, ALL_in 295 (by decide +kernel) rfl, ALL_in 1 (by decide +kernel) rfl⟩
theorem lk0_GF_value : plainName y_GF_value.1.cls = true ∧ Cond.code y_GF_value.1 y_GF_value.2.1 y_GF_value.2.2.1 y_GF_value.2.2.2 ∈ ALL ∧ y_GF_value.2.2.1 ≤ 21 ∧ notMH y_GF_value.1.cls ∧ (parseMethodDescriptor y_GF_value.1.desc).map (fun d => d.parameters.length) = some 0 := ⟨by decide +kernel, ALL_in 308 (by decide +kernel) rfl, by decide, ⟨by decide +kernel, by decide +kernel⟩, by decide +kernel⟩
theorem ct_LW_GF_value (Y : List kd) : eOK Y "GathersAllFaultsLaw" (18, 0, 5, y_GF_value, 0, ⟨"GathersAllFaults", "value", "()I"⟩, "", pr0) := ⟨⟨lk0_GF_value.1, lk0_GF_value.2.1, lk0_GF_value.2.2.1, lk0_GF_value.2.2.2.1, lk0_GF_value.2.2.2.2, fun _ _ _ _ h => by cases h⟩, R5_, T5_, 14, rfl, rfl, ALL_in 305 (by decide +kernel) rfl, ALL_in 306 (by decide +kernel) rfl, ALL_in 307 (by decide +kernel) rfl, ALL_in 1 (by decide +kernel) rfl⟩
theorem lk0_GF_check : plainName y_GF_check.1.cls = true ∧ Cond.code y_GF_check.1 y_GF_check.2.1 y_GF_check.2.2.1 y_GF_check.2.2.2 ∈ ALL ∧ y_GF_check.2.2.1 ≤ 21 ∧ notMH y_GF_check.1.cls ∧ (parseMethodDescriptor y_GF_check.1.desc).map (fun d => d.parameters.length) = some 0 := ⟨by decide +kernel, ALL_in 497 (by decide +kernel) rfl, by decide, ⟨by decide +kernel, by decide +kernel⟩, by decide +kernel⟩
theorem ct_LW_GF_check (Y : List kd) : eOK Y "GathersAllFaultsLaw" (23, 0, 5, y_GF_check, 0, ⟨"GathersAllFaults", "check", "()I"⟩, "", pr0) := ⟨⟨lk0_GF_check.1, lk0_GF_check.2.1, lk0_GF_check.2.2.1, lk0_GF_check.2.2.2.1, lk0_GF_check.2.2.2.2, fun _ _ _ _ h => by cases h⟩, R5_, T5_, 14, rfl, rfl, ALL_in 494 (by decide +kernel) rfl, ALL_in 495 (by decide +kernel) rfl, ALL_in 496 (by decide +kernel) rfl, ALL_in 1 (by decide +kernel) rfl⟩
theorem lk0_GF_part : plainName y_GF_part.1.cls = true ∧ Cond.code y_GF_part.1 y_GF_part.2.1 y_GF_part.2.2.1 y_GF_part.2.2.2 ∈ ALL ∧ y_GF_part.2.2.1 ≤ 21 ∧ notMH y_GF_part.1.cls ∧ (parseMethodDescriptor y_GF_part.1.desc).map (fun d => d.parameters.length) = some 2 := ⟨by decide +kernel, ALL_in 509 (by decide +kernel) rfl, by decide, ⟨by decide +kernel, by decide +kernel⟩, by decide +kernel⟩
theorem ct_LW_GF_part (Y : List kd) : eOK Y "GathersAllFaultsLaw" (27, 0, 5, y_GF_part, 2, ⟨"GathersAllFaults", "part", "(II)I"⟩, "", pr0) := ⟨⟨lk0_GF_part.1, lk0_GF_part.2.1, lk0_GF_part.2.2.1, lk0_GF_part.2.2.2.1, lk0_GF_part.2.2.2.2, fun _ _ _ _ h => by cases h⟩, R5_, T5_, 14, rfl, rfl, ALL_in 506 (by decide +kernel) rfl, ALL_in 507 (by decide +kernel) rfl, ALL_in 508 (by decide +kernel) rfl, ALL_in 1 (by decide +kernel) rfl⟩
theorem lk0_GF_path : plainName y_GF_path.1.cls = true ∧ Cond.code y_GF_path.1 y_GF_path.2.1 y_GF_path.2.2.1 y_GF_path.2.2.2 ∈ ALL ∧ y_GF_path.2.2.1 ≤ 21 ∧ notMH y_GF_path.1.cls ∧ (parseMethodDescriptor y_GF_path.1.desc).map (fun d => d.parameters.length) = some 1 := ⟨by decide +kernel, ALL_in 517 (by decide +kernel) rfl, by decide, ⟨by decide +kernel, by decide +kernel⟩, by decide +kernel⟩
theorem ct_LW_GF_path (Y : List kd) : eOK Y "GathersAllFaultsLaw" (32, 0, 5, y_GF_path, 1, ⟨"GathersAllFaults", "path", "(I)I"⟩, "", pr0) := ⟨⟨lk0_GF_path.1, lk0_GF_path.2.1, lk0_GF_path.2.2.1, lk0_GF_path.2.2.2.1, lk0_GF_path.2.2.2.2, fun _ _ _ _ h => by cases h⟩, R5_, T5_, 14, rfl, rfl, ALL_in 514 (by decide +kernel) rfl, ALL_in 515 (by decide +kernel) rfl, ALL_in 516 (by decide +kernel) rfl, ALL_in 1 (by decide +kernel) rfl⟩
theorem lk0_GF_puts : plainName y_GF_puts.1.cls = true ∧ Cond.code y_GF_puts.1 y_GF_puts.2.1 y_GF_puts.2.2.1 y_GF_puts.2.2.2 ∈ ALL ∧ y_GF_puts.2.2.1 ≤ 21 ∧ notMH y_GF_puts.1.cls ∧ (parseMethodDescriptor y_GF_puts.1.desc).map (fun d => d.parameters.length) = some 2 := ⟨by decide +kernel, ALL_in 521 (by decide +kernel) rfl, by decide, ⟨by decide +kernel, by decide +kernel⟩, by decide +kernel⟩
theorem ct_LW_GF_puts (Y : List kd) : eOK Y "GathersAllFaultsLaw" (36, 0, 5, y_GF_puts, 2, ⟨"GathersAllFaults", "puts", "(II)I"⟩, "", pr0) := ⟨⟨lk0_GF_puts.1, lk0_GF_puts.2.1, lk0_GF_puts.2.2.1, lk0_GF_puts.2.2.2.1, lk0_GF_puts.2.2.2.2, fun _ _ _ _ h => by cases h⟩, R5_, T5_, 14, rfl, rfl, ALL_in 518 (by decide +kernel) rfl, ALL_in 519 (by decide +kernel) rfl, ALL_in 520 (by decide +kernel) rfl, ALL_in 1 (by decide +kernel) rfl⟩
theorem lk0_GF_drops : plainName y_GF_drops.1.cls = true ∧ Cond.code y_GF_drops.1 y_GF_drops.2.1 y_GF_drops.2.2.1 y_GF_drops.2.2.2 ∈ ALL ∧ y_GF_drops.2.2.1 ≤ 21 ∧ notMH y_GF_drops.1.cls ∧ (parseMethodDescriptor y_GF_drops.1.desc).map (fun d => d.parameters.length) = some 1 := ⟨by decide +kernel, ALL_in 536 (by decide +kernel) rfl, by decide, ⟨by decide +kernel, by decide +kernel⟩, by decide +kernel⟩
theorem ct_LW_GF_drops (Y : List kd) : eOK Y "GathersAllFaultsLaw" (40, 0, 5, y_GF_drops, 1, ⟨"GathersAllFaults", "drops", "(I)I"⟩, "", pr0) := ⟨⟨lk0_GF_drops.1, lk0_GF_drops.2.1, lk0_GF_drops.2.2.1, lk0_GF_drops.2.2.2.1, lk0_GF_drops.2.2.2.2, fun _ _ _ _ h => by cases h⟩, R5_, T5_, 14, rfl, rfl, ALL_in 533 (by decide +kernel) rfl, ALL_in 534 (by decide +kernel) rfl, ALL_in 535 (by decide +kernel) rfl, ALL_in 1 (by decide +kernel) rfl⟩
theorem lk0_GF_faults : plainName y_GF_faults.1.cls = true ∧ Cond.code y_GF_faults.1 y_GF_faults.2.1 y_GF_faults.2.2.1 y_GF_faults.2.2.2 ∈ ALL ∧ y_GF_faults.2.2.1 ≤ 21 ∧ notMH y_GF_faults.1.cls ∧ (parseMethodDescriptor y_GF_faults.1.desc).map (fun d => d.parameters.length) = some 0 := ⟨by decide +kernel, ALL_in 540 (by decide +kernel) rfl, by decide, ⟨by decide +kernel, by decide +kernel⟩, by decide +kernel⟩
theorem ct_LW_GF_faults (Y : List kd) : eOK Y "GathersAllFaultsLaw" (44, 0, 5, y_GF_faults, 0, ⟨"GathersAllFaults", "faults", "()I"⟩, "", pr0) := ⟨⟨lk0_GF_faults.1, lk0_GF_faults.2.1, lk0_GF_faults.2.2.1, lk0_GF_faults.2.2.2.1, lk0_GF_faults.2.2.2.2, fun _ _ _ _ h => by cases h⟩, R5_, T5_, 14, rfl, rfl, ALL_in 537 (by decide +kernel) rfl, ALL_in 538 (by decide +kernel) rfl, ALL_in 539 (by decide +kernel) rfl, ALL_in 1 (by decide +kernel) rfl⟩
theorem lk0_GF_fault : plainName y_GF_fault.1.cls = true ∧ Cond.code y_GF_fault.1 y_GF_fault.2.1 y_GF_fault.2.2.1 y_GF_fault.2.2.2 ∈ ALL ∧ y_GF_fault.2.2.1 ≤ 21 ∧ notMH y_GF_fault.1.cls ∧ (parseMethodDescriptor y_GF_fault.1.desc).map (fun d => d.parameters.length) = some 2 := ⟨by decide +kernel, ALL_in 617 (by decide +kernel) rfl, by decide, ⟨by decide +kernel, by decide +kernel⟩, by decide +kernel⟩
theorem ct_LW_GF_fault (Y : List kd) : eOK Y "GathersAllFaultsLaw" (48, 0, 5, y_GF_fault, 2, ⟨"GathersAllFaults", "fault", "(II)I"⟩, "", pr0) := ⟨⟨lk0_GF_fault.1, lk0_GF_fault.2.1, lk0_GF_fault.2.2.1, lk0_GF_fault.2.2.2.1, lk0_GF_fault.2.2.2.2, fun _ _ _ _ h => by cases h⟩, R5_, T5_, 14, rfl, rfl, ALL_in 614 (by decide +kernel) rfl, ALL_in 615 (by decide +kernel) rfl, ALL_in 616 (by decide +kernel) rfl, ALL_in 1 (by decide +kernel) rfl⟩
theorem lk0_GF_coded : plainName y_GF_coded.1.cls = true ∧ Cond.code y_GF_coded.1 y_GF_coded.2.1 y_GF_coded.2.2.1 y_GF_coded.2.2.2 ∈ ALL ∧ y_GF_coded.2.2.1 ≤ 21 ∧ notMH y_GF_coded.1.cls ∧ (parseMethodDescriptor y_GF_coded.1.desc).map (fun d => d.parameters.length) = some 1 := ⟨by decide +kernel, ALL_in 629 (by decide +kernel) rfl, by decide, ⟨by decide +kernel, by decide +kernel⟩, by decide +kernel⟩
theorem ct_LW_GF_coded (Y : List kd) : eOK Y "GathersAllFaultsLaw" (52, 0, 5, y_GF_coded, 1, ⟨"GathersAllFaults", "coded", "(I)I"⟩, "", pr0) := ⟨⟨lk0_GF_coded.1, lk0_GF_coded.2.1, lk0_GF_coded.2.2.1, lk0_GF_coded.2.2.2.1, lk0_GF_coded.2.2.2.2, fun _ _ _ _ h => by cases h⟩, R5_, T5_, 14, rfl, rfl, ALL_in 626 (by decide +kernel) rfl, ALL_in 627 (by decide +kernel) rfl, ALL_in 628 (by decide +kernel) rfl, ALL_in 1 (by decide +kernel) rfl⟩
theorem lk0_GF_below : plainName y_GF_below.1.cls = true ∧ Cond.code y_GF_below.1 y_GF_below.2.1 y_GF_below.2.2.1 y_GF_below.2.2.2 ∈ ALL ∧ y_GF_below.2.2.1 ≤ 21 ∧ notMH y_GF_below.1.cls ∧ (parseMethodDescriptor y_GF_below.1.desc).map (fun d => d.parameters.length) = some 1 := ⟨by decide +kernel, ALL_in 638 (by decide +kernel) rfl, by decide, ⟨by decide +kernel, by decide +kernel⟩, by decide +kernel⟩
theorem ct_LW_GF_below (Y : List kd) : eOK Y "GathersAllFaultsLaw" (56, 0, 5, y_GF_below, 1, ⟨"GathersAllFaults", "below", "(I)I"⟩, "", pr0) := ⟨⟨lk0_GF_below.1, lk0_GF_below.2.1, lk0_GF_below.2.2.1, lk0_GF_below.2.2.2.1, lk0_GF_below.2.2.2.2, fun _ _ _ _ h => by cases h⟩, R5_, T5_, 14, rfl, rfl, ALL_in 635 (by decide +kernel) rfl, ALL_in 636 (by decide +kernel) rfl, ALL_in 637 (by decide +kernel) rfl, ALL_in 1 (by decide +kernel) rfl⟩
theorem lk0_GF_waits : plainName y_GF_waits.1.cls = true ∧ Cond.code y_GF_waits.1 y_GF_waits.2.1 y_GF_waits.2.2.1 y_GF_waits.2.2.2 ∈ ALL ∧ y_GF_waits.2.2.1 ≤ 21 ∧ notMH y_GF_waits.1.cls ∧ (parseMethodDescriptor y_GF_waits.1.desc).map (fun d => d.parameters.length) = some 0 := ⟨by decide +kernel, ALL_in 644 (by decide +kernel) rfl, by decide, ⟨by decide +kernel, by decide +kernel⟩, by decide +kernel⟩
theorem ct_LW_GF_waits (Y : List kd) : eOK Y "GathersAllFaultsLaw" (60, 0, 5, y_GF_waits, 0, ⟨"GathersAllFaults", "waits", "()I"⟩, "", pr0) := ⟨⟨lk0_GF_waits.1, lk0_GF_waits.2.1, lk0_GF_waits.2.2.1, lk0_GF_waits.2.2.2.1, lk0_GF_waits.2.2.2.2, fun _ _ _ _ h => by cases h⟩, R5_, T5_, 14, rfl, rfl, ALL_in 641 (by decide +kernel) rfl, ALL_in 642 (by decide +kernel) rfl, ALL_in 643 (by decide +kernel) rfl, ALL_in 1 (by decide +kernel) rfl⟩
theorem lk0_GF_first : plainName y_GF_first.1.cls = true ∧ Cond.code y_GF_first.1 y_GF_first.2.1 y_GF_first.2.2.1 y_GF_first.2.2.2 ∈ ALL ∧ y_GF_first.2.2.1 ≤ 21 ∧ notMH y_GF_first.1.cls ∧ (parseMethodDescriptor y_GF_first.1.desc).map (fun d => d.parameters.length) = some 0 := ⟨by decide +kernel, ALL_in 648 (by decide +kernel) rfl, by decide, ⟨by decide +kernel, by decide +kernel⟩, by decide +kernel⟩
theorem ct_LW_GF_first (Y : List kd) : eOK Y "GathersAllFaultsLaw" (64, 0, 5, y_GF_first, 0, ⟨"GathersAllFaults", "first", "()I"⟩, "", pr0) := ⟨⟨lk0_GF_first.1, lk0_GF_first.2.1, lk0_GF_first.2.2.1, lk0_GF_first.2.2.2.1, lk0_GF_first.2.2.2.2, fun _ _ _ _ h => by cases h⟩, R5_, T5_, 14, rfl, rfl, ALL_in 645 (by decide +kernel) rfl, ALL_in 646 (by decide +kernel) rfl, ALL_in 647 (by decide +kernel) rfl, ALL_in 1 (by decide +kernel) rfl⟩
theorem lk0_GF_limited : plainName y_GF_limited.1.cls = true ∧ Cond.code y_GF_limited.1 y_GF_limited.2.1 y_GF_limited.2.2.1 y_GF_limited.2.2.2 ∈ ALL ∧ y_GF_limited.2.2.1 ≤ 21 ∧ notMH y_GF_limited.1.cls ∧ (parseMethodDescriptor y_GF_limited.1.desc).map (fun d => d.parameters.length) = some 2 := ⟨by decide +kernel, ALL_in 652 (by decide +kernel) rfl, by decide, ⟨by decide +kernel, by decide +kernel⟩, by decide +kernel⟩
theorem ct_LW_GF_limited (Y : List kd) : eOK Y "GathersAllFaultsLaw" (68, 0, 5, y_GF_limited, 2, ⟨"GathersAllFaults", "limited", "(II)I"⟩, "", pr0) := ⟨⟨lk0_GF_limited.1, lk0_GF_limited.2.1, lk0_GF_limited.2.2.1, lk0_GF_limited.2.2.2.1, lk0_GF_limited.2.2.2.2, fun _ _ _ _ h => by cases h⟩, R5_, T5_, 14, rfl, rfl, ALL_in 649 (by decide +kernel) rfl, ALL_in 650 (by decide +kernel) rfl, ALL_in 651 (by decide +kernel) rfl, ALL_in 1 (by decide +kernel) rfl⟩
theorem lk0_GF_total : plainName y_GF_total.1.cls = true ∧ Cond.code y_GF_total.1 y_GF_total.2.1 y_GF_total.2.2.1 y_GF_total.2.2.2 ∈ ALL ∧ y_GF_total.2.2.1 ≤ 21 ∧ notMH y_GF_total.1.cls ∧ (parseMethodDescriptor y_GF_total.1.desc).map (fun d => d.parameters.length) = some 0 := ⟨by decide +kernel, ALL_in 656 (by decide +kernel) rfl, by decide, ⟨by decide +kernel, by decide +kernel⟩, by decide +kernel⟩
theorem ct_LW_GF_total (Y : List kd) : eOK Y "GathersAllFaultsLaw" (72, 0, 5, y_GF_total, 0, ⟨"GathersAllFaults", "total", "()I"⟩, "", pr0) := ⟨⟨lk0_GF_total.1, lk0_GF_total.2.1, lk0_GF_total.2.2.1, lk0_GF_total.2.2.2.1, lk0_GF_total.2.2.2.2, fun _ _ _ _ h => by cases h⟩, R5_, T5_, 14, rfl, rfl, ALL_in 653 (by decide +kernel) rfl, ALL_in 654 (by decide +kernel) rfl, ALL_in 655 (by decide +kernel) rfl, ALL_in 1 (by decide +kernel) rfl⟩
theorem lk0_GF_same : plainName y_GF_same.1.cls = true ∧ Cond.code y_GF_same.1 y_GF_same.2.1 y_GF_same.2.2.1 y_GF_same.2.2.2 ∈ ALL ∧ y_GF_same.2.2.1 ≤ 21 ∧ notMH y_GF_same.1.cls ∧ (parseMethodDescriptor y_GF_same.1.desc).map (fun d => d.parameters.length) = some 2 := ⟨by decide +kernel, ALL_in 660 (by decide +kernel) rfl, by decide, ⟨by decide +kernel, by decide +kernel⟩, by decide +kernel⟩
theorem ct_LW_GF_same (Y : List kd) : eOK Y "GathersAllFaultsLaw" (76, 0, 5, y_GF_same, 2, ⟨"GathersAllFaults", "same", "(II)I"⟩, "", pr0) := ⟨⟨lk0_GF_same.1, lk0_GF_same.2.1, lk0_GF_same.2.2.1, lk0_GF_same.2.2.2.1, lk0_GF_same.2.2.2.2, fun _ _ _ _ h => by cases h⟩, R5_, T5_, 14, rfl, rfl, ALL_in 657 (by decide +kernel) rfl, ALL_in 658 (by decide +kernel) rfl, ALL_in 659 (by decide +kernel) rfl, ALL_in 1 (by decide +kernel) rfl⟩
theorem lk0_GF_different : plainName y_GF_different.1.cls = true ∧ Cond.code y_GF_different.1 y_GF_different.2.1 y_GF_different.2.2.1 y_GF_different.2.2.2 ∈ ALL ∧ y_GF_different.2.2.1 ≤ 21 ∧ notMH y_GF_different.1.cls ∧ (parseMethodDescriptor y_GF_different.1.desc).map (fun d => d.parameters.length) = some 0 := ⟨by decide +kernel, ALL_in 665 (by decide +kernel) rfl, by decide, ⟨by decide +kernel, by decide +kernel⟩, by decide +kernel⟩
theorem ct_LW_GF_different (Y : List kd) : eOK Y "GathersAllFaultsLaw" (80, 0, 5, y_GF_different, 0, ⟨"GathersAllFaults", "different", "()I"⟩, "", pr0) := ⟨⟨lk0_GF_different.1, lk0_GF_different.2.1, lk0_GF_different.2.2.1, lk0_GF_different.2.2.2.1, lk0_GF_different.2.2.2.2, fun _ _ _ _ h => by cases h⟩, R5_, T5_, 14, rfl, rfl, ALL_in 662 (by decide +kernel) rfl, ALL_in 663 (by decide +kernel) rfl, ALL_in 664 (by decide +kernel) rfl, ALL_in 1 (by decide +kernel) rfl⟩
theorem lk0_GF_often : plainName y_GF_often.1.cls = true ∧ Cond.code y_GF_often.1 y_GF_often.2.1 y_GF_often.2.2.1 y_GF_often.2.2.2 ∈ ALL ∧ y_GF_often.2.2.1 ≤ 21 ∧ notMH y_GF_often.1.cls ∧ (parseMethodDescriptor y_GF_often.1.desc).map (fun d => d.parameters.length) = some 1 := ⟨by decide +kernel, ALL_in 673 (by decide +kernel) rfl, by decide, ⟨by decide +kernel, by decide +kernel⟩, by decide +kernel⟩
theorem ct_LW_GF_often (Y : List kd) : eOK Y "GathersAllFaultsLaw" (84, 0, 5, y_GF_often, 1, ⟨"GathersAllFaults", "often", "(I)I"⟩, "", pr0) := ⟨⟨lk0_GF_often.1, lk0_GF_often.2.1, lk0_GF_often.2.2.1, lk0_GF_often.2.2.2.1, lk0_GF_often.2.2.2.2, fun _ _ _ _ h => by cases h⟩, R5_, T5_, 14, rfl, rfl, ALL_in 670 (by decide +kernel) rfl, ALL_in 671 (by decide +kernel) rfl, ALL_in 672 (by decide +kernel) rfl, ALL_in 1 (by decide +kernel) rfl⟩
theorem lk0_GF_without : plainName y_GF_without.1.cls = true ∧ Cond.code y_GF_without.1 y_GF_without.2.1 y_GF_without.2.2.1 y_GF_without.2.2.2 ∈ ALL ∧ y_GF_without.2.2.1 ≤ 21 ∧ notMH y_GF_without.1.cls ∧ (parseMethodDescriptor y_GF_without.1.desc).map (fun d => d.parameters.length) = some 1 := ⟨by decide +kernel, ALL_in 681 (by decide +kernel) rfl, by decide, ⟨by decide +kernel, by decide +kernel⟩, by decide +kernel⟩
theorem ct_LW_GF_without (Y : List kd) : eOK Y "GathersAllFaultsLaw" (88, 0, 5, y_GF_without, 1, ⟨"GathersAllFaults", "without", "(I)I"⟩, "", pr0) := ⟨⟨lk0_GF_without.1, lk0_GF_without.2.1, lk0_GF_without.2.2.1, lk0_GF_without.2.2.2.1, lk0_GF_without.2.2.2.2, fun _ _ _ _ h => by cases h⟩, R5_, T5_, 14, rfl, rfl, ALL_in 678 (by decide +kernel) rfl, ALL_in 679 (by decide +kernel) rfl, ALL_in 680 (by decide +kernel) rfl, ALL_in 1 (by decide +kernel) rfl⟩
theorem lk0_GF_mend : plainName y_GF_mend.1.cls = true ∧ Cond.code y_GF_mend.1 y_GF_mend.2.1 y_GF_mend.2.2.1 y_GF_mend.2.2.2 ∈ ALL ∧ y_GF_mend.2.2.1 ≤ 21 ∧ notMH y_GF_mend.1.cls ∧ (parseMethodDescriptor y_GF_mend.1.desc).map (fun d => d.parameters.length) = some 1 := ⟨by decide +kernel, ALL_in 694 (by decide +kernel) rfl, by decide, ⟨by decide +kernel, by decide +kernel⟩, by decide +kernel⟩
theorem ct_LW_GF_mend (Y : List kd) : eOK Y "GathersAllFaultsLaw" (92, 0, 5, y_GF_mend, 1, ⟨"GathersAllFaults", "mend", "(I)I"⟩, "", pr0) := ⟨⟨lk0_GF_mend.1, lk0_GF_mend.2.1, lk0_GF_mend.2.2.1, lk0_GF_mend.2.2.2.1, lk0_GF_mend.2.2.2.2, fun _ _ _ _ h => by cases h⟩, R5_, T5_, 14, rfl, rfl, ALL_in 691 (by decide +kernel) rfl, ALL_in 692 (by decide +kernel) rfl, ALL_in 693 (by decide +kernel) rfl, ALL_in 1 (by decide +kernel) rfl⟩
theorem lk0_GF_range : plainName y_GF_range.1.cls = true ∧ Cond.code y_GF_range.1 y_GF_range.2.1 y_GF_range.2.2.1 y_GF_range.2.2.2 ∈ ALL ∧ y_GF_range.2.2.1 ≤ 21 ∧ notMH y_GF_range.1.cls ∧ (parseMethodDescriptor y_GF_range.1.desc).map (fun d => d.parameters.length) = some 2 := ⟨by decide +kernel, ALL_in 698 (by decide +kernel) rfl, by decide, ⟨by decide +kernel, by decide +kernel⟩, by decide +kernel⟩
theorem ct_LW_GF_range (Y : List kd) : eOK Y "GathersAllFaultsLaw" (96, 0, 5, y_GF_range, 2, ⟨"GathersAllFaults", "range", "(II)I"⟩, "", pr0) := ⟨⟨lk0_GF_range.1, lk0_GF_range.2.1, lk0_GF_range.2.2.1, lk0_GF_range.2.2.2.1, lk0_GF_range.2.2.2.2, fun _ _ _ _ h => by cases h⟩, R5_, T5_, 14, rfl, rfl, ALL_in 695 (by decide +kernel) rfl, ALL_in 696 (by decide +kernel) rfl, ALL_in 697 (by decide +kernel) rfl, ALL_in 1 (by decide +kernel) rfl⟩
theorem lk0_GF_loss : plainName y_GF_loss.1.cls = true ∧ Cond.code y_GF_loss.1 y_GF_loss.2.1 y_GF_loss.2.2.1 y_GF_loss.2.2.2 ∈ ALL ∧ y_GF_loss.2.2.1 ≤ 21 ∧ notMH y_GF_loss.1.cls ∧ (parseMethodDescriptor y_GF_loss.1.desc).map (fun d => d.parameters.length) = some 2 := ⟨by decide +kernel, ALL_in 702 (by decide +kernel) rfl, by decide, ⟨by decide +kernel, by decide +kernel⟩, by decide +kernel⟩
theorem ct_LW_GF_loss (Y : List kd) : eOK Y "GathersAllFaultsLaw" (100, 0, 5, y_GF_loss, 2, ⟨"GathersAllFaults", "loss", "(II)J"⟩, "", pr0) := ⟨⟨lk0_GF_loss.1, lk0_GF_loss.2.1, lk0_GF_loss.2.2.1, lk0_GF_loss.2.2.2.1, lk0_GF_loss.2.2.2.2, fun _ _ _ _ h => by cases h⟩, R5_, T5_, 14, rfl, rfl, ALL_in 699 (by decide +kernel) rfl, ALL_in 700 (by decide +kernel) rfl, ALL_in 701 (by decide +kernel) rfl, ALL_in 1 (by decide +kernel) rfl⟩
theorem lk0_GF_mean : plainName y_GF_mean.1.cls = true ∧ Cond.code y_GF_mean.1 y_GF_mean.2.1 y_GF_mean.2.2.1 y_GF_mean.2.2.2 ∈ ALL ∧ y_GF_mean.2.2.1 ≤ 21 ∧ notMH y_GF_mean.1.cls ∧ (parseMethodDescriptor y_GF_mean.1.desc).map (fun d => d.parameters.length) = some 1 := ⟨by decide +kernel, ALL_in 731 (by decide +kernel) rfl, by decide, ⟨by decide +kernel, by decide +kernel⟩, by decide +kernel⟩
theorem ct_LW_GF_mean (Y : List kd) : eOK Y "GathersAllFaultsLaw" (105, 0, 5, y_GF_mean, 1, ⟨"GathersAllFaults", "mean", "(I)J"⟩, "", pr0) := ⟨⟨lk0_GF_mean.1, lk0_GF_mean.2.1, lk0_GF_mean.2.2.1, lk0_GF_mean.2.2.2.1, lk0_GF_mean.2.2.2.2, fun _ _ _ _ h => by cases h⟩, R5_, T5_, 14, rfl, rfl, ALL_in 728 (by decide +kernel) rfl, ALL_in 729 (by decide +kernel) rfl, ALL_in 730 (by decide +kernel) rfl, ALL_in 1 (by decide +kernel) rfl⟩
theorem lk0_GF_which : plainName y_GF_which.1.cls = true ∧ Cond.code y_GF_which.1 y_GF_which.2.1 y_GF_which.2.2.1 y_GF_which.2.2.2 ∈ ALL ∧ y_GF_which.2.2.1 ≤ 21 ∧ notMH y_GF_which.1.cls ∧ (parseMethodDescriptor y_GF_which.1.desc).map (fun d => d.parameters.length) = some 1 := ⟨by decide +kernel, ALL_in 735 (by decide +kernel) rfl, by decide, ⟨by decide +kernel, by decide +kernel⟩, by decide +kernel⟩
theorem ct_LW_GF_which (Y : List kd) : eOK Y "GathersAllFaultsLaw" (110, 0, 5, y_GF_which, 1, ⟨"GathersAllFaults", "which", "(I)I"⟩, "", pr0) := ⟨⟨lk0_GF_which.1, lk0_GF_which.2.1, lk0_GF_which.2.2.1, lk0_GF_which.2.2.2.1, lk0_GF_which.2.2.2.2, fun _ _ _ _ h => by cases h⟩, R5_, T5_, 14, rfl, rfl, ALL_in 732 (by decide +kernel) rfl, ALL_in 733 (by decide +kernel) rfl, ALL_in 734 (by decide +kernel) rfl, ALL_in 1 (by decide +kernel) rfl⟩
theorem lk0_GF_row : plainName y_GF_row.1.cls = true ∧ Cond.code y_GF_row.1 y_GF_row.2.1 y_GF_row.2.2.1 y_GF_row.2.2.2 ∈ ALL ∧ y_GF_row.2.2.1 ≤ 21 ∧ notMH y_GF_row.1.cls ∧ (parseMethodDescriptor y_GF_row.1.desc).map (fun d => d.parameters.length) = some 1 := ⟨by decide +kernel, ALL_in 743 (by decide +kernel) rfl, by decide, ⟨by decide +kernel, by decide +kernel⟩, by decide +kernel⟩
theorem ct_LW_GF_row (Y : List kd) : eOK Y "GathersAllFaultsLaw" (114, 0, 5, y_GF_row, 1, ⟨"GathersAllFaults", "row", "(I)I"⟩, "", pr0) := ⟨⟨lk0_GF_row.1, lk0_GF_row.2.1, lk0_GF_row.2.2.1, lk0_GF_row.2.2.2.1, lk0_GF_row.2.2.2.2, fun _ _ _ _ h => by cases h⟩, R5_, T5_, 14, rfl, rfl, ALL_in 740 (by decide +kernel) rfl, ALL_in 741 (by decide +kernel) rfl, ALL_in 742 (by decide +kernel) rfl, ALL_in 1 (by decide +kernel) rfl⟩
theorem lk0_GF_judge : plainName y_GF_judge.1.cls = true ∧ Cond.code y_GF_judge.1 y_GF_judge.2.1 y_GF_judge.2.2.1 y_GF_judge.2.2.2 ∈ ALL ∧ y_GF_judge.2.2.1 ≤ 21 ∧ notMH y_GF_judge.1.cls ∧ (parseMethodDescriptor y_GF_judge.1.desc).map (fun d => d.parameters.length) = some 0 := ⟨by decide +kernel, ALL_in 747 (by decide +kernel) rfl, by decide, ⟨by decide +kernel, by decide +kernel⟩, by decide +kernel⟩
theorem ct_LW_GF_judge (Y : List kd) : eOK Y "GathersAllFaultsLaw" (118, 0, 5, y_GF_judge, 0, ⟨"GathersAllFaults", "judge", "()I"⟩, "", pr0) := ⟨⟨lk0_GF_judge.1, lk0_GF_judge.2.1, lk0_GF_judge.2.2.1, lk0_GF_judge.2.2.2.1, lk0_GF_judge.2.2.2.2, fun _ _ _ _ h => by cases h⟩, R5_, T5_, 14, rfl, rfl, ALL_in 744 (by decide +kernel) rfl, ALL_in 745 (by decide +kernel) rfl, ALL_in 746 (by decide +kernel) rfl, ALL_in 1 (by decide +kernel) rfl⟩
theorem lk0_GF_clear : plainName y_GF_clear.1.cls = true ∧ Cond.code y_GF_clear.1 y_GF_clear.2.1 y_GF_clear.2.2.1 y_GF_clear.2.2.2 ∈ ALL ∧ y_GF_clear.2.2.1 ≤ 21 ∧ notMH y_GF_clear.1.cls ∧ (parseMethodDescriptor y_GF_clear.1.desc).map (fun d => d.parameters.length) = some 0 := ⟨by decide +kernel, ALL_in 751 (by decide +kernel) rfl, by decide, ⟨by decide +kernel, by decide +kernel⟩, by decide +kernel⟩
theorem ct_LW_GF_clear (Y : List kd) : eOK Y "GathersAllFaultsLaw" (122, 0, 5, y_GF_clear, 0, ⟨"GathersAllFaults", "clear", "()I"⟩, "", pr0) := ⟨⟨lk0_GF_clear.1, lk0_GF_clear.2.1, lk0_GF_clear.2.2.1, lk0_GF_clear.2.2.2.1, lk0_GF_clear.2.2.2.2, fun _ _ _ _ h => by cases h⟩, R5_, T5_, 14, rfl, rfl, ALL_in 748 (by decide +kernel) rfl, ALL_in 749 (by decide +kernel) rfl, ALL_in 750 (by decide +kernel) rfl, ALL_in 1 (by decide +kernel) rfl⟩
theorem lk0_GF_lots : plainName y_GF_lots.1.cls = true ∧ Cond.code y_GF_lots.1 y_GF_lots.2.1 y_GF_lots.2.2.1 y_GF_lots.2.2.2 ∈ ALL ∧ y_GF_lots.2.2.1 ≤ 21 ∧ notMH y_GF_lots.1.cls ∧ (parseMethodDescriptor y_GF_lots.1.desc).map (fun d => d.parameters.length) = some 3 := ⟨by decide +kernel, ALL_in 755 (by decide +kernel) rfl, by decide, ⟨by decide +kernel, by decide +kernel⟩, by decide +kernel⟩
theorem ct_LW_GF_lots (Y : List kd) : eOK Y "GathersAllFaultsLaw" (126, 0, 5, y_GF_lots, 3, ⟨"GathersAllFaults", "lots", "(III)I"⟩, "", pr0) := ⟨⟨lk0_GF_lots.1, lk0_GF_lots.2.1, lk0_GF_lots.2.2.1, lk0_GF_lots.2.2.2.1, lk0_GF_lots.2.2.2.2, fun _ _ _ _ h => by cases h⟩, R5_, T5_, 14, rfl, rfl, ALL_in 752 (by decide +kernel) rfl, ALL_in 753 (by decide +kernel) rfl, ALL_in 754 (by decide +kernel) rfl, ALL_in 1 (by decide +kernel) rfl⟩
theorem lk0_GF_image : plainName y_GF_image.1.cls = true ∧ Cond.code y_GF_image.1 y_GF_image.2.1 y_GF_image.2.2.1 y_GF_image.2.2.2 ∈ ALL ∧ y_GF_image.2.2.1 ≤ 21 ∧ notMH y_GF_image.1.cls ∧ (parseMethodDescriptor y_GF_image.1.desc).map (fun d => d.parameters.length) = some 0 := ⟨by decide +kernel, ALL_in 770 (by decide +kernel) rfl, by decide, ⟨by decide +kernel, by decide +kernel⟩, by decide +kernel⟩
theorem ct_LW_GF_image (Y : List kd) : eOK Y "GathersAllFaultsLaw" (131, 0, 5, y_GF_image, 0, ⟨"GathersAllFaults", "image", "()I"⟩, "", pr0) := ⟨⟨lk0_GF_image.1, lk0_GF_image.2.1, lk0_GF_image.2.2.1, lk0_GF_image.2.2.2.1, lk0_GF_image.2.2.2.2, fun _ _ _ _ h => by cases h⟩, R5_, T5_, 14, rfl, rfl, ALL_in 767 (by decide +kernel) rfl, ALL_in 768 (by decide +kernel) rfl, ALL_in 769 (by decide +kernel) rfl, ALL_in 1 (by decide +kernel) rfl⟩
theorem lk0_GF_on : plainName y_GF_on.1.cls = true ∧ Cond.code y_GF_on.1 y_GF_on.2.1 y_GF_on.2.2.1 y_GF_on.2.2.2 ∈ ALL ∧ y_GF_on.2.2.1 ≤ 21 ∧ notMH y_GF_on.1.cls ∧ (parseMethodDescriptor y_GF_on.1.desc).map (fun d => d.parameters.length) = some 0 := ⟨by decide +kernel, ALL_in 774 (by decide +kernel) rfl, by decide, ⟨by decide +kernel, by decide +kernel⟩, by decide +kernel⟩
theorem ct_LW_GF_on (Y : List kd) : eOK Y "GathersAllFaultsLaw" (135, 0, 5, y_GF_on, 0, ⟨"GathersAllFaults", "on", "()I"⟩, "", pr0) := ⟨⟨lk0_GF_on.1, lk0_GF_on.2.1, lk0_GF_on.2.2.1, lk0_GF_on.2.2.2.1, lk0_GF_on.2.2.2.2, fun _ _ _ _ h => by cases h⟩, R5_, T5_, 14, rfl, rfl, ALL_in 771 (by decide +kernel) rfl, ALL_in 772 (by decide +kernel) rfl, ALL_in 773 (by decide +kernel) rfl, ALL_in 1 (by decide +kernel) rfl⟩
theorem lk0_GF_count : plainName y_GF_count.1.cls = true ∧ Cond.code y_GF_count.1 y_GF_count.2.1 y_GF_count.2.2.1 y_GF_count.2.2.2 ∈ ALL ∧ y_GF_count.2.2.1 ≤ 21 ∧ notMH y_GF_count.1.cls ∧ (parseMethodDescriptor y_GF_count.1.desc).map (fun d => d.parameters.length) = some 1 := ⟨by decide +kernel, ALL_in 778 (by decide +kernel) rfl, by decide, ⟨by decide +kernel, by decide +kernel⟩, by decide +kernel⟩
theorem ct_LW_GF_count (Y : List kd) : eOK Y "GathersAllFaultsLaw" (139, 0, 5, y_GF_count, 1, ⟨"GathersAllFaults", "count", "(I)I"⟩, "", pr0) := ⟨⟨lk0_GF_count.1, lk0_GF_count.2.1, lk0_GF_count.2.2.1, lk0_GF_count.2.2.2.1, lk0_GF_count.2.2.2.2, fun _ _ _ _ h => by cases h⟩, R5_, T5_, 14, rfl, rfl, ALL_in 775 (by decide +kernel) rfl, ALL_in 776 (by decide +kernel) rfl, ALL_in 777 (by decide +kernel) rfl, ALL_in 1 (by decide +kernel) rfl⟩
theorem lk0_MO_letter : plainName y_MO_letter.1.cls = true ∧ Cond.code y_MO_letter.1 y_MO_letter.2.1 y_MO_letter.2.2.1 y_MO_letter.2.2.2 ∈ ALL ∧ y_MO_letter.2.2.1 ≤ 21 ∧ notMH y_MO_letter.1.cls ∧ (parseMethodDescriptor y_MO_letter.1.desc).map (fun d => d.parameters.length) = some 1 := ⟨by decide +kernel, ALL_in 970 (by decide +kernel) rfl, by decide, ⟨by decide +kernel, by decide +kernel⟩, by decide +kernel⟩
theorem ct_LW_MO_letter (Y : List kd) : eOK Y "GathersAllFaultsLaw" (17, 0, 6, y_MO_letter, 1, ⟨"GathersAllFaultsModel", "letter", "(I)I"⟩, "", pr0) := ⟨⟨lk0_MO_letter.1, lk0_MO_letter.2.1, lk0_MO_letter.2.2.1, lk0_MO_letter.2.2.2.1, lk0_MO_letter.2.2.2.2, fun _ _ _ _ h => by cases h⟩, R6_, T6_, 54, rfl, rfl, ALL_in 967 (by decide +kernel) rfl, ALL_in 968 (by decide +kernel) rfl, ALL_in 969 (by decide +kernel) rfl, ALL_in 8 (by decide +kernel) rfl⟩
theorem lk0_MO_value : plainName y_MO_value.1.cls = true ∧ Cond.code y_MO_value.1 y_MO_value.2.1 y_MO_value.2.2.1 y_MO_value.2.2.2 ∈ ALL ∧ y_MO_value.2.2.1 ≤ 21 ∧ notMH y_MO_value.1.cls ∧ (parseMethodDescriptor y_MO_value.1.desc).map (fun d => d.parameters.length) = some 0 := ⟨by decide +kernel, ALL_in 981 (by decide +kernel) rfl, by decide, ⟨by decide +kernel, by decide +kernel⟩, by decide +kernel⟩
theorem ct_LW_MO_value (Y : List kd) : eOK Y "GathersAllFaultsLaw" (22, 0, 6, y_MO_value, 0, ⟨"GathersAllFaultsModel", "value", "()I"⟩, "", pr0) := ⟨⟨lk0_MO_value.1, lk0_MO_value.2.1, lk0_MO_value.2.2.1, lk0_MO_value.2.2.2.1, lk0_MO_value.2.2.2.2, fun _ _ _ _ h => by cases h⟩, R6_, T6_, 54, rfl, rfl, ALL_in 978 (by decide +kernel) rfl, ALL_in 979 (by decide +kernel) rfl, ALL_in 980 (by decide +kernel) rfl, ALL_in 8 (by decide +kernel) rfl⟩
theorem lk0_MO_check : plainName y_MO_check.1.cls = true ∧ Cond.code y_MO_check.1 y_MO_check.2.1 y_MO_check.2.2.1 y_MO_check.2.2.2 ∈ ALL ∧ y_MO_check.2.2.1 ≤ 21 ∧ notMH y_MO_check.1.cls ∧ (parseMethodDescriptor y_MO_check.1.desc).map (fun d => d.parameters.length) = some 0 := ⟨by decide +kernel, ALL_in 1055 (by decide +kernel) rfl, by decide, ⟨by decide +kernel, by decide +kernel⟩, by decide +kernel⟩
theorem ct_LW_MO_check (Y : List kd) : eOK Y "GathersAllFaultsLaw" (26, 0, 6, y_MO_check, 0, ⟨"GathersAllFaultsModel", "check", "()I"⟩, "", pr0) := ⟨⟨lk0_MO_check.1, lk0_MO_check.2.1, lk0_MO_check.2.2.1, lk0_MO_check.2.2.2.1, lk0_MO_check.2.2.2.2, fun _ _ _ _ h => by cases h⟩, R6_, T6_, 54, rfl, rfl, ALL_in 1052 (by decide +kernel) rfl, ALL_in 1053 (by decide +kernel) rfl, ALL_in 1054 (by decide +kernel) rfl, ALL_in 8 (by decide +kernel) rfl⟩
theorem lk0_MO_image : plainName y_MO_image.1.cls = true ∧ Cond.code y_MO_image.1 y_MO_image.2.1 y_MO_image.2.2.1 y_MO_image.2.2.2 ∈ ALL ∧ y_MO_image.2.2.1 ≤ 21 ∧ notMH y_MO_image.1.cls ∧ (parseMethodDescriptor y_MO_image.1.desc).map (fun d => d.parameters.length) = some 0 := ⟨by decide +kernel, ALL_in 1103 (by decide +kernel) rfl, by decide, ⟨by decide +kernel, by decide +kernel⟩, by decide +kernel⟩
theorem ct_LW_MO_image (Y : List kd) : eOK Y "GathersAllFaultsLaw" (134, 0, 6, y_MO_image, 0, ⟨"GathersAllFaultsModel", "image", "()I"⟩, "", pr0) := ⟨⟨lk0_MO_image.1, lk0_MO_image.2.1, lk0_MO_image.2.2.1, lk0_MO_image.2.2.2.1, lk0_MO_image.2.2.2.2, fun _ _ _ _ h => by cases h⟩, R6_, T6_, 54, rfl, rfl, ALL_in 1100 (by decide +kernel) rfl, ALL_in 1101 (by decide +kernel) rfl, ALL_in 1102 (by decide +kernel) rfl, ALL_in 8 (by decide +kernel) rfl⟩
theorem lk0_MO_on : plainName y_MO_on.1.cls = true ∧ Cond.code y_MO_on.1 y_MO_on.2.1 y_MO_on.2.2.1 y_MO_on.2.2.2 ∈ ALL ∧ y_MO_on.2.2.1 ≤ 21 ∧ notMH y_MO_on.1.cls ∧ (parseMethodDescriptor y_MO_on.1.desc).map (fun d => d.parameters.length) = some 0 := ⟨by decide +kernel, ALL_in 1107 (by decide +kernel) rfl, by decide, ⟨by decide +kernel, by decide +kernel⟩, by decide +kernel⟩
theorem ct_LW_MO_on (Y : List kd) : eOK Y "GathersAllFaultsLaw" (138, 0, 6, y_MO_on, 0, ⟨"GathersAllFaultsModel", "on", "()I"⟩, "", pr0) := ⟨⟨lk0_MO_on.1, lk0_MO_on.2.1, lk0_MO_on.2.2.1, lk0_MO_on.2.2.2.1, lk0_MO_on.2.2.2.2, fun _ _ _ _ h => by cases h⟩, R6_, T6_, 54, rfl, rfl, ALL_in 1104 (by decide +kernel) rfl, ALL_in 1105 (by decide +kernel) rfl, ALL_in 1106 (by decide +kernel) rfl, ALL_in 8 (by decide +kernel) rfl⟩
theorem lk0_MO_part : plainName y_MO_part.1.cls = true ∧ Cond.code y_MO_part.1 y_MO_part.2.1 y_MO_part.2.2.1 y_MO_part.2.2.2 ∈ ALL ∧ y_MO_part.2.2.1 ≤ 21 ∧ notMH y_MO_part.1.cls ∧ (parseMethodDescriptor y_MO_part.1.desc).map (fun d => d.parameters.length) = some 2 := ⟨by decide +kernel, ALL_in 1111 (by decide +kernel) rfl, by decide, ⟨by decide +kernel, by decide +kernel⟩, by decide +kernel⟩
theorem ct_LW_MO_part (Y : List kd) : eOK Y "GathersAllFaultsLaw" (31, 0, 6, y_MO_part, 2, ⟨"GathersAllFaultsModel", "part", "(II)I"⟩, "", pr0) := ⟨⟨lk0_MO_part.1, lk0_MO_part.2.1, lk0_MO_part.2.2.1, lk0_MO_part.2.2.2.1, lk0_MO_part.2.2.2.2, fun _ _ _ _ h => by cases h⟩, R6_, T6_, 54, rfl, rfl, ALL_in 1108 (by decide +kernel) rfl, ALL_in 1109 (by decide +kernel) rfl, ALL_in 1110 (by decide +kernel) rfl, ALL_in 8 (by decide +kernel) rfl⟩
theorem lk0_MO_path : plainName y_MO_path.1.cls = true ∧ Cond.code y_MO_path.1 y_MO_path.2.1 y_MO_path.2.2.1 y_MO_path.2.2.2 ∈ ALL ∧ y_MO_path.2.2.1 ≤ 21 ∧ notMH y_MO_path.1.cls ∧ (parseMethodDescriptor y_MO_path.1.desc).map (fun d => d.parameters.length) = some 1 := ⟨by decide +kernel, ALL_in 1119 (by decide +kernel) rfl, by decide, ⟨by decide +kernel, by decide +kernel⟩, by decide +kernel⟩
theorem ct_LW_MO_path (Y : List kd) : eOK Y "GathersAllFaultsLaw" (35, 0, 6, y_MO_path, 1, ⟨"GathersAllFaultsModel", "path", "(I)I"⟩, "", pr0) := ⟨⟨lk0_MO_path.1, lk0_MO_path.2.1, lk0_MO_path.2.2.1, lk0_MO_path.2.2.2.1, lk0_MO_path.2.2.2.2, fun _ _ _ _ h => by cases h⟩, R6_, T6_, 54, rfl, rfl, ALL_in 1116 (by decide +kernel) rfl, ALL_in 1117 (by decide +kernel) rfl, ALL_in 1118 (by decide +kernel) rfl, ALL_in 8 (by decide +kernel) rfl⟩
theorem lk0_MO_puts : plainName y_MO_puts.1.cls = true ∧ Cond.code y_MO_puts.1 y_MO_puts.2.1 y_MO_puts.2.2.1 y_MO_puts.2.2.2 ∈ ALL ∧ y_MO_puts.2.2.1 ≤ 21 ∧ notMH y_MO_puts.1.cls ∧ (parseMethodDescriptor y_MO_puts.1.desc).map (fun d => d.parameters.length) = some 2 := ⟨by decide +kernel, ALL_in 1123 (by decide +kernel) rfl, by decide, ⟨by decide +kernel, by decide +kernel⟩, by decide +kernel⟩
theorem ct_LW_MO_puts (Y : List kd) : eOK Y "GathersAllFaultsLaw" (39, 0, 6, y_MO_puts, 2, ⟨"GathersAllFaultsModel", "puts", "(II)I"⟩, "", pr0) := ⟨⟨lk0_MO_puts.1, lk0_MO_puts.2.1, lk0_MO_puts.2.2.1, lk0_MO_puts.2.2.2.1, lk0_MO_puts.2.2.2.2, fun _ _ _ _ h => by cases h⟩, R6_, T6_, 54, rfl, rfl, ALL_in 1120 (by decide +kernel) rfl, ALL_in 1121 (by decide +kernel) rfl, ALL_in 1122 (by decide +kernel) rfl, ALL_in 8 (by decide +kernel) rfl⟩
theorem lk0_MO_drops : plainName y_MO_drops.1.cls = true ∧ Cond.code y_MO_drops.1 y_MO_drops.2.1 y_MO_drops.2.2.1 y_MO_drops.2.2.2 ∈ ALL ∧ y_MO_drops.2.2.1 ≤ 21 ∧ notMH y_MO_drops.1.cls ∧ (parseMethodDescriptor y_MO_drops.1.desc).map (fun d => d.parameters.length) = some 1 := ⟨by decide +kernel, ALL_in 1135 (by decide +kernel) rfl, by decide, ⟨by decide +kernel, by decide +kernel⟩, by decide +kernel⟩
theorem ct_LW_MO_drops (Y : List kd) : eOK Y "GathersAllFaultsLaw" (43, 0, 6, y_MO_drops, 1, ⟨"GathersAllFaultsModel", "drops", "(I)I"⟩, "", pr0) := ⟨⟨lk0_MO_drops.1, lk0_MO_drops.2.1, lk0_MO_drops.2.2.1, lk0_MO_drops.2.2.2.1, lk0_MO_drops.2.2.2.2, fun _ _ _ _ h => by cases h⟩, R6_, T6_, 54, rfl, rfl, ALL_in 1132 (by decide +kernel) rfl, ALL_in 1133 (by decide +kernel) rfl, ALL_in 1134 (by decide +kernel) rfl, ALL_in 8 (by decide +kernel) rfl⟩
theorem lk0_MO_faults : plainName y_MO_faults.1.cls = true ∧ Cond.code y_MO_faults.1 y_MO_faults.2.1 y_MO_faults.2.2.1 y_MO_faults.2.2.2 ∈ ALL ∧ y_MO_faults.2.2.1 ≤ 21 ∧ notMH y_MO_faults.1.cls ∧ (parseMethodDescriptor y_MO_faults.1.desc).map (fun d => d.parameters.length) = some 0 := ⟨by decide +kernel, ALL_in 1139 (by decide +kernel) rfl, by decide, ⟨by decide +kernel, by decide +kernel⟩, by decide +kernel⟩
theorem ct_LW_MO_faults (Y : List kd) : eOK Y "GathersAllFaultsLaw" (47, 0, 6, y_MO_faults, 0, ⟨"GathersAllFaultsModel", "faults", "()I"⟩, "", pr0) := ⟨⟨lk0_MO_faults.1, lk0_MO_faults.2.1, lk0_MO_faults.2.2.1, lk0_MO_faults.2.2.2.1, lk0_MO_faults.2.2.2.2, fun _ _ _ _ h => by cases h⟩, R6_, T6_, 54, rfl, rfl, ALL_in 1136 (by decide +kernel) rfl, ALL_in 1137 (by decide +kernel) rfl, ALL_in 1138 (by decide +kernel) rfl, ALL_in 8 (by decide +kernel) rfl⟩
theorem lk0_MO_fault : plainName y_MO_fault.1.cls = true ∧ Cond.code y_MO_fault.1 y_MO_fault.2.1 y_MO_fault.2.2.1 y_MO_fault.2.2.2 ∈ ALL ∧ y_MO_fault.2.2.1 ≤ 21 ∧ notMH y_MO_fault.1.cls ∧ (parseMethodDescriptor y_MO_fault.1.desc).map (fun d => d.parameters.length) = some 2 := ⟨by decide +kernel, ALL_in 1253 (by decide +kernel) rfl, by decide, ⟨by decide +kernel, by decide +kernel⟩, by decide +kernel⟩
theorem ct_LW_MO_fault (Y : List kd) : eOK Y "GathersAllFaultsLaw" (51, 0, 6, y_MO_fault, 2, ⟨"GathersAllFaultsModel", "fault", "(II)I"⟩, "", pr0) := ⟨⟨lk0_MO_fault.1, lk0_MO_fault.2.1, lk0_MO_fault.2.2.1, lk0_MO_fault.2.2.2.1, lk0_MO_fault.2.2.2.2, fun _ _ _ _ h => by cases h⟩, R6_, T6_, 54, rfl, rfl, ALL_in 1250 (by decide +kernel) rfl, ALL_in 1251 (by decide +kernel) rfl, ALL_in 1252 (by decide +kernel) rfl, ALL_in 8 (by decide +kernel) rfl⟩
theorem lk0_MO_coded : plainName y_MO_coded.1.cls = true ∧ Cond.code y_MO_coded.1 y_MO_coded.2.1 y_MO_coded.2.2.1 y_MO_coded.2.2.2 ∈ ALL ∧ y_MO_coded.2.2.1 ≤ 21 ∧ notMH y_MO_coded.1.cls ∧ (parseMethodDescriptor y_MO_coded.1.desc).map (fun d => d.parameters.length) = some 1 := ⟨by decide +kernel, ALL_in 1257 (by decide +kernel) rfl, by decide, ⟨by decide +kernel, by decide +kernel⟩, by decide +kernel⟩
theorem ct_LW_MO_coded (Y : List kd) : eOK Y "GathersAllFaultsLaw" (55, 0, 6, y_MO_coded, 1, ⟨"GathersAllFaultsModel", "coded", "(I)I"⟩, "", pr0) := ⟨⟨lk0_MO_coded.1, lk0_MO_coded.2.1, lk0_MO_coded.2.2.1, lk0_MO_coded.2.2.2.1, lk0_MO_coded.2.2.2.2, fun _ _ _ _ h => by cases h⟩, R6_, T6_, 54, rfl, rfl, ALL_in 1254 (by decide +kernel) rfl, ALL_in 1255 (by decide +kernel) rfl, ALL_in 1256 (by decide +kernel) rfl, ALL_in 8 (by decide +kernel) rfl⟩
theorem lk0_MO_below : plainName y_MO_below.1.cls = true ∧ Cond.code y_MO_below.1 y_MO_below.2.1 y_MO_below.2.2.1 y_MO_below.2.2.2 ∈ ALL ∧ y_MO_below.2.2.1 ≤ 21 ∧ notMH y_MO_below.1.cls ∧ (parseMethodDescriptor y_MO_below.1.desc).map (fun d => d.parameters.length) = some 1 := ⟨by decide +kernel, ALL_in 1261 (by decide +kernel) rfl, by decide, ⟨by decide +kernel, by decide +kernel⟩, by decide +kernel⟩
theorem ct_LW_MO_below (Y : List kd) : eOK Y "GathersAllFaultsLaw" (59, 0, 6, y_MO_below, 1, ⟨"GathersAllFaultsModel", "below", "(I)I"⟩, "", pr0) := ⟨⟨lk0_MO_below.1, lk0_MO_below.2.1, lk0_MO_below.2.2.1, lk0_MO_below.2.2.2.1, lk0_MO_below.2.2.2.2, fun _ _ _ _ h => by cases h⟩, R6_, T6_, 54, rfl, rfl, ALL_in 1258 (by decide +kernel) rfl, ALL_in 1259 (by decide +kernel) rfl, ALL_in 1260 (by decide +kernel) rfl, ALL_in 8 (by decide +kernel) rfl⟩
theorem lk0_MO_waits : plainName y_MO_waits.1.cls = true ∧ Cond.code y_MO_waits.1 y_MO_waits.2.1 y_MO_waits.2.2.1 y_MO_waits.2.2.2 ∈ ALL ∧ y_MO_waits.2.2.1 ≤ 21 ∧ notMH y_MO_waits.1.cls ∧ (parseMethodDescriptor y_MO_waits.1.desc).map (fun d => d.parameters.length) = some 0 := ⟨by decide +kernel, ALL_in 1266 (by decide +kernel) rfl, by decide, ⟨by decide +kernel, by decide +kernel⟩, by decide +kernel⟩
theorem ct_LW_MO_waits (Y : List kd) : eOK Y "GathersAllFaultsLaw" (63, 0, 6, y_MO_waits, 0, ⟨"GathersAllFaultsModel", "waits", "()I"⟩, "", pr0) := ⟨⟨lk0_MO_waits.1, lk0_MO_waits.2.1, lk0_MO_waits.2.2.1, lk0_MO_waits.2.2.2.1, lk0_MO_waits.2.2.2.2, fun _ _ _ _ h => by cases h⟩, R6_, T6_, 54, rfl, rfl, ALL_in 1263 (by decide +kernel) rfl, ALL_in 1264 (by decide +kernel) rfl, ALL_in 1265 (by decide +kernel) rfl, ALL_in 8 (by decide +kernel) rfl⟩
theorem lk0_MO_first : plainName y_MO_first.1.cls = true ∧ Cond.code y_MO_first.1 y_MO_first.2.1 y_MO_first.2.2.1 y_MO_first.2.2.2 ∈ ALL ∧ y_MO_first.2.2.1 ≤ 21 ∧ notMH y_MO_first.1.cls ∧ (parseMethodDescriptor y_MO_first.1.desc).map (fun d => d.parameters.length) = some 0 := ⟨by decide +kernel, ALL_in 1270 (by decide +kernel) rfl, by decide, ⟨by decide +kernel, by decide +kernel⟩, by decide +kernel⟩
theorem ct_LW_MO_first (Y : List kd) : eOK Y "GathersAllFaultsLaw" (67, 0, 6, y_MO_first, 0, ⟨"GathersAllFaultsModel", "first", "()I"⟩, "", pr0) := ⟨⟨lk0_MO_first.1, lk0_MO_first.2.1, lk0_MO_first.2.2.1, lk0_MO_first.2.2.2.1, lk0_MO_first.2.2.2.2, fun _ _ _ _ h => by cases h⟩, R6_, T6_, 54, rfl, rfl, ALL_in 1267 (by decide +kernel) rfl, ALL_in 1268 (by decide +kernel) rfl, ALL_in 1269 (by decide +kernel) rfl, ALL_in 8 (by decide +kernel) rfl⟩
theorem lk0_MO_limited : plainName y_MO_limited.1.cls = true ∧ Cond.code y_MO_limited.1 y_MO_limited.2.1 y_MO_limited.2.2.1 y_MO_limited.2.2.2 ∈ ALL ∧ y_MO_limited.2.2.1 ≤ 21 ∧ notMH y_MO_limited.1.cls ∧ (parseMethodDescriptor y_MO_limited.1.desc).map (fun d => d.parameters.length) = some 2 := ⟨by decide +kernel, ALL_in 1278 (by decide +kernel) rfl, by decide, ⟨by decide +kernel, by decide +kernel⟩, by decide +kernel⟩
theorem ct_LW_MO_limited (Y : List kd) : eOK Y "GathersAllFaultsLaw" (71, 0, 6, y_MO_limited, 2, ⟨"GathersAllFaultsModel", "limited", "(II)I"⟩, "", pr0) := ⟨⟨lk0_MO_limited.1, lk0_MO_limited.2.1, lk0_MO_limited.2.2.1, lk0_MO_limited.2.2.2.1, lk0_MO_limited.2.2.2.2, fun _ _ _ _ h => by cases h⟩, R6_, T6_, 54, rfl, rfl, ALL_in 1275 (by decide +kernel) rfl, ALL_in 1276 (by decide +kernel) rfl, ALL_in 1277 (by decide +kernel) rfl, ALL_in 8 (by decide +kernel) rfl⟩
theorem lk0_MO_total : plainName y_MO_total.1.cls = true ∧ Cond.code y_MO_total.1 y_MO_total.2.1 y_MO_total.2.2.1 y_MO_total.2.2.2 ∈ ALL ∧ y_MO_total.2.2.1 ≤ 21 ∧ notMH y_MO_total.1.cls ∧ (parseMethodDescriptor y_MO_total.1.desc).map (fun d => d.parameters.length) = some 0 := ⟨by decide +kernel, ALL_in 1282 (by decide +kernel) rfl, by decide, ⟨by decide +kernel, by decide +kernel⟩, by decide +kernel⟩
theorem ct_LW_MO_total (Y : List kd) : eOK Y "GathersAllFaultsLaw" (75, 0, 6, y_MO_total, 0, ⟨"GathersAllFaultsModel", "total", "()I"⟩, "", pr0) := ⟨⟨lk0_MO_total.1, lk0_MO_total.2.1, lk0_MO_total.2.2.1, lk0_MO_total.2.2.2.1, lk0_MO_total.2.2.2.2, fun _ _ _ _ h => by cases h⟩, R6_, T6_, 54, rfl, rfl, ALL_in 1279 (by decide +kernel) rfl, ALL_in 1280 (by decide +kernel) rfl, ALL_in 1281 (by decide +kernel) rfl, ALL_in 8 (by decide +kernel) rfl⟩
theorem lk0_MO_same : plainName y_MO_same.1.cls = true ∧ Cond.code y_MO_same.1 y_MO_same.2.1 y_MO_same.2.2.1 y_MO_same.2.2.2 ∈ ALL ∧ y_MO_same.2.2.1 ≤ 21 ∧ notMH y_MO_same.1.cls ∧ (parseMethodDescriptor y_MO_same.1.desc).map (fun d => d.parameters.length) = some 2 := ⟨by decide +kernel, ALL_in 1290 (by decide +kernel) rfl, by decide, ⟨by decide +kernel, by decide +kernel⟩, by decide +kernel⟩
theorem ct_LW_MO_same (Y : List kd) : eOK Y "GathersAllFaultsLaw" (79, 0, 6, y_MO_same, 2, ⟨"GathersAllFaultsModel", "same", "(II)I"⟩, "", pr0) := ⟨⟨lk0_MO_same.1, lk0_MO_same.2.1, lk0_MO_same.2.2.1, lk0_MO_same.2.2.2.1, lk0_MO_same.2.2.2.2, fun _ _ _ _ h => by cases h⟩, R6_, T6_, 54, rfl, rfl, ALL_in 1287 (by decide +kernel) rfl, ALL_in 1288 (by decide +kernel) rfl, ALL_in 1289 (by decide +kernel) rfl, ALL_in 8 (by decide +kernel) rfl⟩
theorem lk0_MO_different : plainName y_MO_different.1.cls = true ∧ Cond.code y_MO_different.1 y_MO_different.2.1 y_MO_different.2.2.1 y_MO_different.2.2.2 ∈ ALL ∧ y_MO_different.2.2.1 ≤ 21 ∧ notMH y_MO_different.1.cls ∧ (parseMethodDescriptor y_MO_different.1.desc).map (fun d => d.parameters.length) = some 0 := ⟨by decide +kernel, ALL_in 1294 (by decide +kernel) rfl, by decide, ⟨by decide +kernel, by decide +kernel⟩, by decide +kernel⟩
theorem ct_LW_MO_different (Y : List kd) : eOK Y "GathersAllFaultsLaw" (83, 0, 6, y_MO_different, 0, ⟨"GathersAllFaultsModel", "different", "()I"⟩, "", pr0) := ⟨⟨lk0_MO_different.1, lk0_MO_different.2.1, lk0_MO_different.2.2.1, lk0_MO_different.2.2.2.1, lk0_MO_different.2.2.2.2, fun _ _ _ _ h => by cases h⟩, R6_, T6_, 54, rfl, rfl, ALL_in 1291 (by decide +kernel) rfl, ALL_in 1292 (by decide +kernel) rfl, ALL_in 1293 (by decide +kernel) rfl, ALL_in 8 (by decide +kernel) rfl⟩
theorem lk0_MO_often : plainName y_MO_often.1.cls = true ∧ Cond.code y_MO_often.1 y_MO_often.2.1 y_MO_often.2.2.1 y_MO_often.2.2.2 ∈ ALL ∧ y_MO_often.2.2.1 ≤ 21 ∧ notMH y_MO_often.1.cls ∧ (parseMethodDescriptor y_MO_often.1.desc).map (fun d => d.parameters.length) = some 1 := ⟨by decide +kernel, ALL_in 1302 (by decide +kernel) rfl, by decide, ⟨by decide +kernel, by decide +kernel⟩, by decide +kernel⟩
theorem ct_LW_MO_often (Y : List kd) : eOK Y "GathersAllFaultsLaw" (87, 0, 6, y_MO_often, 1, ⟨"GathersAllFaultsModel", "often", "(I)I"⟩, "", pr0) := ⟨⟨lk0_MO_often.1, lk0_MO_often.2.1, lk0_MO_often.2.2.1, lk0_MO_often.2.2.2.1, lk0_MO_often.2.2.2.2, fun _ _ _ _ h => by cases h⟩, R6_, T6_, 54, rfl, rfl, ALL_in 1299 (by decide +kernel) rfl, ALL_in 1300 (by decide +kernel) rfl, ALL_in 1301 (by decide +kernel) rfl, ALL_in 8 (by decide +kernel) rfl⟩
theorem lk0_MO_without : plainName y_MO_without.1.cls = true ∧ Cond.code y_MO_without.1 y_MO_without.2.1 y_MO_without.2.2.1 y_MO_without.2.2.2 ∈ ALL ∧ y_MO_without.2.2.1 ≤ 21 ∧ notMH y_MO_without.1.cls ∧ (parseMethodDescriptor y_MO_without.1.desc).map (fun d => d.parameters.length) = some 1 := ⟨by decide +kernel, ALL_in 1306 (by decide +kernel) rfl, by decide, ⟨by decide +kernel, by decide +kernel⟩, by decide +kernel⟩
theorem ct_LW_MO_without (Y : List kd) : eOK Y "GathersAllFaultsLaw" (91, 0, 6, y_MO_without, 1, ⟨"GathersAllFaultsModel", "without", "(I)I"⟩, "", pr0) := ⟨⟨lk0_MO_without.1, lk0_MO_without.2.1, lk0_MO_without.2.2.1, lk0_MO_without.2.2.2.1, lk0_MO_without.2.2.2.2, fun _ _ _ _ h => by cases h⟩, R6_, T6_, 54, rfl, rfl, ALL_in 1303 (by decide +kernel) rfl, ALL_in 1304 (by decide +kernel) rfl, ALL_in 1305 (by decide +kernel) rfl, ALL_in 8 (by decide +kernel) rfl⟩
theorem lk0_MO_mend : plainName y_MO_mend.1.cls = true ∧ Cond.code y_MO_mend.1 y_MO_mend.2.1 y_MO_mend.2.2.1 y_MO_mend.2.2.2 ∈ ALL ∧ y_MO_mend.2.2.1 ≤ 21 ∧ notMH y_MO_mend.1.cls ∧ (parseMethodDescriptor y_MO_mend.1.desc).map (fun d => d.parameters.length) = some 1 := ⟨by decide +kernel, ALL_in 1322 (by decide +kernel) rfl, by decide, ⟨by decide +kernel, by decide +kernel⟩, by decide +kernel⟩
theorem ct_LW_MO_mend (Y : List kd) : eOK Y "GathersAllFaultsLaw" (95, 0, 6, y_MO_mend, 1, ⟨"GathersAllFaultsModel", "mend", "(I)I"⟩, "", pr0) := ⟨⟨lk0_MO_mend.1, lk0_MO_mend.2.1, lk0_MO_mend.2.2.1, lk0_MO_mend.2.2.2.1, lk0_MO_mend.2.2.2.2, fun _ _ _ _ h => by cases h⟩, R6_, T6_, 54, rfl, rfl, ALL_in 1319 (by decide +kernel) rfl, ALL_in 1320 (by decide +kernel) rfl, ALL_in 1321 (by decide +kernel) rfl, ALL_in 8 (by decide +kernel) rfl⟩
theorem lk0_MO_range : plainName y_MO_range.1.cls = true ∧ Cond.code y_MO_range.1 y_MO_range.2.1 y_MO_range.2.2.1 y_MO_range.2.2.2 ∈ ALL ∧ y_MO_range.2.2.1 ≤ 21 ∧ notMH y_MO_range.1.cls ∧ (parseMethodDescriptor y_MO_range.1.desc).map (fun d => d.parameters.length) = some 2 := ⟨by decide +kernel, ALL_in 1330 (by decide +kernel) rfl, by decide, ⟨by decide +kernel, by decide +kernel⟩, by decide +kernel⟩
theorem ct_LW_MO_range (Y : List kd) : eOK Y "GathersAllFaultsLaw" (99, 0, 6, y_MO_range, 2, ⟨"GathersAllFaultsModel", "range", "(II)I"⟩, "", pr0) := ⟨⟨lk0_MO_range.1, lk0_MO_range.2.1, lk0_MO_range.2.2.1, lk0_MO_range.2.2.2.1, lk0_MO_range.2.2.2.2, fun _ _ _ _ h => by cases h⟩, R6_, T6_, 54, rfl, rfl, ALL_in 1327 (by decide +kernel) rfl, ALL_in 1328 (by decide +kernel) rfl, ALL_in 1329 (by decide +kernel) rfl, ALL_in 8 (by decide +kernel) rfl⟩
theorem lk0_MO_loss : plainName y_MO_loss.1.cls = true ∧ Cond.code y_MO_loss.1 y_MO_loss.2.1 y_MO_loss.2.2.1 y_MO_loss.2.2.2 ∈ ALL ∧ y_MO_loss.2.2.1 ≤ 21 ∧ notMH y_MO_loss.1.cls ∧ (parseMethodDescriptor y_MO_loss.1.desc).map (fun d => d.parameters.length) = some 2 := ⟨by decide +kernel, ALL_in 1334 (by decide +kernel) rfl, by decide, ⟨by decide +kernel, by decide +kernel⟩, by decide +kernel⟩
theorem ct_LW_MO_loss (Y : List kd) : eOK Y "GathersAllFaultsLaw" (104, 0, 6, y_MO_loss, 2, ⟨"GathersAllFaultsModel", "loss", "(II)J"⟩, "", pr0) := ⟨⟨lk0_MO_loss.1, lk0_MO_loss.2.1, lk0_MO_loss.2.2.1, lk0_MO_loss.2.2.2.1, lk0_MO_loss.2.2.2.2, fun _ _ _ _ h => by cases h⟩, R6_, T6_, 54, rfl, rfl, ALL_in 1331 (by decide +kernel) rfl, ALL_in 1332 (by decide +kernel) rfl, ALL_in 1333 (by decide +kernel) rfl, ALL_in 8 (by decide +kernel) rfl⟩
theorem lk0_MO_mean : plainName y_MO_mean.1.cls = true ∧ Cond.code y_MO_mean.1 y_MO_mean.2.1 y_MO_mean.2.2.1 y_MO_mean.2.2.2 ∈ ALL ∧ y_MO_mean.2.2.1 ≤ 21 ∧ notMH y_MO_mean.1.cls ∧ (parseMethodDescriptor y_MO_mean.1.desc).map (fun d => d.parameters.length) = some 1 := ⟨by decide +kernel, ALL_in 1357 (by decide +kernel) rfl, by decide, ⟨by decide +kernel, by decide +kernel⟩, by decide +kernel⟩
theorem ct_LW_MO_mean (Y : List kd) : eOK Y "GathersAllFaultsLaw" (109, 0, 6, y_MO_mean, 1, ⟨"GathersAllFaultsModel", "mean", "(I)J"⟩, "", pr0) := ⟨⟨lk0_MO_mean.1, lk0_MO_mean.2.1, lk0_MO_mean.2.2.1, lk0_MO_mean.2.2.2.1, lk0_MO_mean.2.2.2.2, fun _ _ _ _ h => by cases h⟩, R6_, T6_, 54, rfl, rfl, ALL_in 1354 (by decide +kernel) rfl, ALL_in 1355 (by decide +kernel) rfl, ALL_in 1356 (by decide +kernel) rfl, ALL_in 8 (by decide +kernel) rfl⟩
theorem lk0_MO_which : plainName y_MO_which.1.cls = true ∧ Cond.code y_MO_which.1 y_MO_which.2.1 y_MO_which.2.2.1 y_MO_which.2.2.2 ∈ ALL ∧ y_MO_which.2.2.1 ≤ 21 ∧ notMH y_MO_which.1.cls ∧ (parseMethodDescriptor y_MO_which.1.desc).map (fun d => d.parameters.length) = some 1 := ⟨by decide +kernel, ALL_in 1361 (by decide +kernel) rfl, by decide, ⟨by decide +kernel, by decide +kernel⟩, by decide +kernel⟩
theorem ct_LW_MO_which (Y : List kd) : eOK Y "GathersAllFaultsLaw" (113, 0, 6, y_MO_which, 1, ⟨"GathersAllFaultsModel", "which", "(I)I"⟩, "", pr0) := ⟨⟨lk0_MO_which.1, lk0_MO_which.2.1, lk0_MO_which.2.2.1, lk0_MO_which.2.2.2.1, lk0_MO_which.2.2.2.2, fun _ _ _ _ h => by cases h⟩, R6_, T6_, 54, rfl, rfl, ALL_in 1358 (by decide +kernel) rfl, ALL_in 1359 (by decide +kernel) rfl, ALL_in 1360 (by decide +kernel) rfl, ALL_in 8 (by decide +kernel) rfl⟩
theorem lk0_MO_row : plainName y_MO_row.1.cls = true ∧ Cond.code y_MO_row.1 y_MO_row.2.1 y_MO_row.2.2.1 y_MO_row.2.2.2 ∈ ALL ∧ y_MO_row.2.2.1 ≤ 21 ∧ notMH y_MO_row.1.cls ∧ (parseMethodDescriptor y_MO_row.1.desc).map (fun d => d.parameters.length) = some 1 := ⟨by decide +kernel, ALL_in 1369 (by decide +kernel) rfl, by decide, ⟨by decide +kernel, by decide +kernel⟩, by decide +kernel⟩
theorem ct_LW_MO_row (Y : List kd) : eOK Y "GathersAllFaultsLaw" (117, 0, 6, y_MO_row, 1, ⟨"GathersAllFaultsModel", "row", "(I)I"⟩, "", pr0) := ⟨⟨lk0_MO_row.1, lk0_MO_row.2.1, lk0_MO_row.2.2.1, lk0_MO_row.2.2.2.1, lk0_MO_row.2.2.2.2, fun _ _ _ _ h => by cases h⟩, R6_, T6_, 54, rfl, rfl, ALL_in 1366 (by decide +kernel) rfl, ALL_in 1367 (by decide +kernel) rfl, ALL_in 1368 (by decide +kernel) rfl, ALL_in 8 (by decide +kernel) rfl⟩
theorem lk0_MO_judge : plainName y_MO_judge.1.cls = true ∧ Cond.code y_MO_judge.1 y_MO_judge.2.1 y_MO_judge.2.2.1 y_MO_judge.2.2.2 ∈ ALL ∧ y_MO_judge.2.2.1 ≤ 21 ∧ notMH y_MO_judge.1.cls ∧ (parseMethodDescriptor y_MO_judge.1.desc).map (fun d => d.parameters.length) = some 0 := ⟨by decide +kernel, ALL_in 1373 (by decide +kernel) rfl, by decide, ⟨by decide +kernel, by decide +kernel⟩, by decide +kernel⟩
theorem ct_LW_MO_judge (Y : List kd) : eOK Y "GathersAllFaultsLaw" (121, 0, 6, y_MO_judge, 0, ⟨"GathersAllFaultsModel", "judge", "()I"⟩, "", pr0) := ⟨⟨lk0_MO_judge.1, lk0_MO_judge.2.1, lk0_MO_judge.2.2.1, lk0_MO_judge.2.2.2.1, lk0_MO_judge.2.2.2.2, fun _ _ _ _ h => by cases h⟩, R6_, T6_, 54, rfl, rfl, ALL_in 1370 (by decide +kernel) rfl, ALL_in 1371 (by decide +kernel) rfl, ALL_in 1372 (by decide +kernel) rfl, ALL_in 8 (by decide +kernel) rfl⟩
theorem lk0_MO_clear : plainName y_MO_clear.1.cls = true ∧ Cond.code y_MO_clear.1 y_MO_clear.2.1 y_MO_clear.2.2.1 y_MO_clear.2.2.2 ∈ ALL ∧ y_MO_clear.2.2.1 ≤ 21 ∧ notMH y_MO_clear.1.cls ∧ (parseMethodDescriptor y_MO_clear.1.desc).map (fun d => d.parameters.length) = some 0 := ⟨by decide +kernel, ALL_in 1377 (by decide +kernel) rfl, by decide, ⟨by decide +kernel, by decide +kernel⟩, by decide +kernel⟩
theorem ct_LW_MO_clear (Y : List kd) : eOK Y "GathersAllFaultsLaw" (125, 0, 6, y_MO_clear, 0, ⟨"GathersAllFaultsModel", "clear", "()I"⟩, "", pr0) := ⟨⟨lk0_MO_clear.1, lk0_MO_clear.2.1, lk0_MO_clear.2.2.1, lk0_MO_clear.2.2.2.1, lk0_MO_clear.2.2.2.2, fun _ _ _ _ h => by cases h⟩, R6_, T6_, 54, rfl, rfl, ALL_in 1374 (by decide +kernel) rfl, ALL_in 1375 (by decide +kernel) rfl, ALL_in 1376 (by decide +kernel) rfl, ALL_in 8 (by decide +kernel) rfl⟩
theorem lk0_MO_lots : plainName y_MO_lots.1.cls = true ∧ Cond.code y_MO_lots.1 y_MO_lots.2.1 y_MO_lots.2.2.1 y_MO_lots.2.2.2 ∈ ALL ∧ y_MO_lots.2.2.1 ≤ 21 ∧ notMH y_MO_lots.1.cls ∧ (parseMethodDescriptor y_MO_lots.1.desc).map (fun d => d.parameters.length) = some 3 := ⟨by decide +kernel, ALL_in 1381 (by decide +kernel) rfl, by decide, ⟨by decide +kernel, by decide +kernel⟩, by decide +kernel⟩
theorem ct_LW_MO_lots (Y : List kd) : eOK Y "GathersAllFaultsLaw" (130, 0, 6, y_MO_lots, 3, ⟨"GathersAllFaultsModel", "lots", "(III)I"⟩, "", pr0) := ⟨⟨lk0_MO_lots.1, lk0_MO_lots.2.1, lk0_MO_lots.2.2.1, lk0_MO_lots.2.2.2.1, lk0_MO_lots.2.2.2.2, fun _ _ _ _ h => by cases h⟩, R6_, T6_, 54, rfl, rfl, ALL_in 1378 (by decide +kernel) rfl, ALL_in 1379 (by decide +kernel) rfl, ALL_in 1380 (by decide +kernel) rfl, ALL_in 8 (by decide +kernel) rfl⟩
theorem lk0_MO_count : plainName y_MO_count.1.cls = true ∧ Cond.code y_MO_count.1 y_MO_count.2.1 y_MO_count.2.2.1 y_MO_count.2.2.2 ∈ ALL ∧ y_MO_count.2.2.1 ≤ 21 ∧ notMH y_MO_count.1.cls ∧ (parseMethodDescriptor y_MO_count.1.desc).map (fun d => d.parameters.length) = some 1 := ⟨by decide +kernel, ALL_in 1396 (by decide +kernel) rfl, by decide, ⟨by decide +kernel, by decide +kernel⟩, by decide +kernel⟩
theorem ct_LW_MO_count (Y : List kd) : eOK Y "GathersAllFaultsLaw" (142, 0, 6, y_MO_count, 1, ⟨"GathersAllFaultsModel", "count", "(I)I"⟩, "", pr0) := ⟨⟨lk0_MO_count.1, lk0_MO_count.2.1, lk0_MO_count.2.2.1, lk0_MO_count.2.2.2.1, lk0_MO_count.2.2.2.2, fun _ _ _ _ h => by cases h⟩, R6_, T6_, 54, rfl, rfl, ALL_in 1393 (by decide +kernel) rfl, ALL_in 1394 (by decide +kernel) rfl, ALL_in 1395 (by decide +kernel) rfl, ALL_in 8 (by decide +kernel) rfl⟩
/-- one call, on both sides: both come to an end, with the same answer, and the relation is kept -/
def StI (Rel : sS → sS → Prop) (yx ym : sY) (as : List sv) : Prop := ∀ σx σm, Rel σx σm → ∃ (r : Int32) (Px Pm : sS → Prop), CJ LX 300 yx (sR 0 (.inl 5) :: as) σx (rI fun r0 σ0 => r0 = r ∧ Px σ0) ∧ CJ LM 300 ym (sR 0 (.inl 6) :: as) σm (rI fun r0 σ0 => r0 = r ∧ Pm σ0) ∧ ∀ σ σ', Px σ → Pm σ' → Rel σ σ'
def StJ (Rel : sS → sS → Prop) (yx ym : sY) (as : List sv) : Prop := ∀ σx σm, Rel σx σm → ∃ (r : Int64) (Px Pm : sS → Prop), CJ LX 300 yx (sR 0 (.inl 5) :: as) σx (rJ fun r0 σ0 => r0 = r ∧ Px σ0) ∧ CJ LM 300 ym (sR 0 (.inl 6) :: as) σm (rJ fun r0 σ0 => r0 = r ∧ Pm σ0) ∧ ∀ σ σ', Px σ → Pm σ' → Rel σ σ'
theorem rI_eq {r : Int32} {P : sS → Prop} {σ : sS} {q : Option sv} (h : (rI fun r0 σ0 => r0 = r ∧ P σ0) q σ) : q = some (.inl r) ∧ P σ := by
  unfold rI at h
  split at h
  · obtain ⟨rfl, h2⟩ := h
    exact ⟨rfl, h2⟩
  · exact h.elim
theorem rJ_eq {r : Int64} {P : sS → Prop} {σ : sS} {q : Option sv} (h : (rJ fun r0 σ0 => r0 = r ∧ P σ0) q σ) : q = some (.inr (.inl r)) ∧ P σ := by
  unfold rJ at h
  split at h
  · obtain ⟨rfl, h2⟩ := h
    exact ⟨rfl, h2⟩
  · exact h.elim
/-- every call of the law -/
def AllSt (Rel : sS → sS → Prop) : Prop := (∀ a1 : Int32, StI Rel y_GF_letter y_MO_letter [sI a1]) ∧ (StI Rel y_GF_value y_MO_value []) ∧ (StI Rel y_GF_check y_MO_check []) ∧ (∀ a1 a2 : Int32, StI Rel y_GF_part y_MO_part [sI a1, sI a2]) ∧ (∀ a1 : Int32, StI Rel y_GF_path y_MO_path [sI a1]) ∧ (∀ a1 a2 : Int32, StI Rel y_GF_puts y_MO_puts [sI a1, sI a2]) ∧ (∀ a1 : Int32, StI Rel y_GF_drops y_MO_drops [sI a1]) ∧ (StI Rel y_GF_faults y_MO_faults []) ∧ (∀ a1 a2 : Int32, StI Rel y_GF_fault y_MO_fault [sI a1, sI a2]) ∧ (∀ a1 : Int32, StI Rel y_GF_coded y_MO_coded [sI a1]) ∧ (∀ a1 : Int32, StI Rel y_GF_below y_MO_below [sI a1]) ∧ (StI Rel y_GF_waits y_MO_waits []) ∧ (StI Rel y_GF_first y_MO_first []) ∧ (∀ a1 a2 : Int32, StI Rel y_GF_limited y_MO_limited [sI a1, sI a2]) ∧ (StI Rel y_GF_total y_MO_total []) ∧ (∀ a1 a2 : Int32, StI Rel y_GF_same y_MO_same [sI a1, sI a2]) ∧ (StI Rel y_GF_different y_MO_different []) ∧ (∀ a1 : Int32, StI Rel y_GF_often y_MO_often [sI a1]) ∧ (∀ a1 : Int32, StI Rel y_GF_without y_MO_without [sI a1]) ∧ (∀ a1 : Int32, StI Rel y_GF_mend y_MO_mend [sI a1]) ∧ (∀ a1 a2 : Int32, StI Rel y_GF_range y_MO_range [sI a1, sI a2]) ∧ (∀ a1 a2 : Int32, StJ Rel y_GF_loss y_MO_loss [sI a1, sI a2]) ∧ (∀ a1 : Int32, StJ Rel y_GF_mean y_MO_mean [sI a1]) ∧ (∀ a1 : Int32, StI Rel y_GF_which y_MO_which [sI a1]) ∧ (∀ a1 : Int32, StI Rel y_GF_row y_MO_row [sI a1]) ∧ (StI Rel y_GF_judge y_MO_judge []) ∧ (StI Rel y_GF_clear y_MO_clear []) ∧ (∀ a1 a2 a3 : Int32, StI Rel y_GF_lots y_MO_lots [sI a1, sI a2, sI a3]) ∧ (StI Rel y_GF_image y_MO_image []) ∧ (StI Rel y_GF_on y_MO_on []) ∧ (∀ a1 : Int32, StI Rel y_GF_count y_MO_count [sI a1])
section LAW
variable {p : Program} {e : Env} {s : State} {m : MethodId} {below : List Frame} {meth : Method} {c : Code} {b L : Nat} {xs : Nat → Int32}
theorem va_keep {D : va_G} {ws wc : va_W} {H H1 : Heap} (hP : va_P D classes ws H) (hk : ∀ q : Nat, q < H.size → ¬ va_A wc H.size q → H1[q]? = H[q]?) (hd : ∀ (i j : Nat) (x y : Nat × va_E), ws[i]? = some x → wc[j]? = some y → x.1 ≠ y.1) : va_P D classes ws H1 := by
  refine hP.kept (fun k q hq => hk q.1 (hP k q hq).lt ?_)
  rintro (⟨j, en, hj⟩ | h)
  · exact hd k j q _ hq hj rfl
  · have := (hP k q hq).lt
    omega
theorem wl_ad {cA : ClassId} {ad : Nat → Nat} {σ : sS} {Y : List kd} {i : Nat} {x : Nat × va_E} (h : (wl cA ad σ Y)[i]? = some x) : x.1 = ad i ∧ i < Y.length := by
  unfold wl at h
  rw [List.getElem?_mapIdx] at h
  cases hY : Y[i]? with
  | none => rw [hY] at h; cases h
  | some k =>
    rw [hY] at h
    have : (ad i, ent cA ad σ i k) = x := by simpa using h
    subst this
    exact ⟨rfl, (List.getElem?_eq_some_iff.mp hY).1⟩
theorem wsw_law {l : Launch} {H : Heap} {locs : List Loc} {cells slots : Nat} {Qf : State → Prop} {cc : ByteArray} {pc len tgt : Nat} {ls : Array Slot} {rest : List Value} {args : Array Value} {R : Room} {dd lo hi : Int} {offs : Array Int} {cs : List (Int32 × Nat)} {x : Int32} (hx : p.tables.exec = Jvm.exec) (hb : c.code = cc) (hdg : decode cc pc = .ok (.tableswitch dd lo hi offs, len)) (h1 : (pc : Int) + dd = (tgt : Int)) (h2 : hi = lo + offs.size - 1) (h3 : csT pc lo offs.toList cs = true)
    (hk : wsw x (W p l e R s m args below meth c H locs cells slots Qf (F0 m tgt ls rest)) (fun t => W p l e R s m args below meth c H locs cells slots Qf (F0 m t ls rest)) cs) : W p l e R s m args below meth c H locs cells slots Qf (F0 m pc ls (.int x :: rest)) := by
  rcases csT_ok offs.toList cs lo h3 hk with ⟨j, off, t, e1, e2, e3, e4⟩ | ⟨e1, e2⟩
  · have hj : j < offs.size := by
      have := (List.getElem?_eq_some_iff.mp e1).1
      simpa using this
    have e5 : offs[(x.toInt - lo).toNat]? = some off := by
      have : (x.toInt - lo).toNat = j := by omega
      rw [this, ← Array.getElem?_toList]
      exact e1
    exact lv_tableIn hx hb hdg (by omega) (by omega) e5 e3 e4
  · have hout : x.toInt < lo ∨ hi < x.toInt := by
      by_cases q1 : x.toInt < lo
      · exact Or.inl q1
      · by_cases q2 : hi < x.toInt
        · exact Or.inr q2
        · exfalso
          refine e1 (x.toInt - lo).toNat ?_ ?_
          · simp only [Array.length_toList]; omega
          · omega
    exact lv_tableOut hx hb hdg hout h1 e2
set_option maxHeartbeats 4000000 in
set_option maxRecDepth 100000 in
theorem law_letter (l : Launch) {Rel : sS → sS → Prop} (hL : L ≤ 2048) (C0 : lw_At p s m meth c b L xs) {D : va_G} {cA : ClassId} {ax am : Nat → Nat} (hKK : va_K D classes [(cA, .int)] s) (hDx : va_D (fun q : Nat => s.heap.size ≤ q) (wl cA ax σX0 LX)) (hDm : va_D (fun q : Nat => s.heap.size ≤ q) (wl cA am σM1 LM)) (hdis : ∀ i j : Nat, i < 88 → j < 37 → ax i ≠ am j) (hst : ∀ a1 : Int32, StI Rel y_GF_letter y_MO_letter [sI a1]) {n i : Nat} (hi : i + 4 ≤ L) (hn : L + 4 - i < n + 1) (ih : ∀ (i : Nat), i + 4 ≤ L + 4 → L + 4 - i < n → ∀ (σx σm : sS), Rel σx σm → ∀ (H : Heap) (locs : List Loc) (ls : Array Slot), va_P D classes (wl cA ax σx LX) H → va_P D classes (wl cA am σm LM) H → va_S (fun q : Nat => s.heap.size ≤ q) s.heap H locs → lv_has ls 4 [(0, .ref b), (1, .ref (ax 0)), (2, .ref (am 0)), (3, .int (nI i))] → W p l e room_1 s m #[Value.ref b] below meth c H locs 125 46410 (lw_Z below #[Value.ref b] s) (F0 m 18 ls []))
    {σx σm : sS} (hR : Rel σx σm) {H : Heap} {locs : List Loc} {ls : Array Slot} (hPx : va_P D classes (wl cA ax σx LX) H) (hPm : va_P D classes (wl cA am σm LM) H) (hS : va_S (fun q : Nat => s.heap.size ≤ q) s.heap H locs) (hl : lv_has ls 4 [(0, .ref b), (1, .ref (ax 0)), (2, .ref (am 0)), (3, .int (nI i))]) : W p l e room_1 s m #[Value.ref b] below meth c H locs 125 46410 (lw_Z below #[Value.ref b] s) (F0 m 172 ls []) := by
  obtain ⟨hx, hb, hr, hml, hown, hts, hX, hbl, hlocks, hgv⟩ := id C0
  have hA : ∀ q : Nat, s.heap.size ≤ q → (fun q : Nat => s.heap.size ≤ q) q := fun _ h => h
  have hbA : ¬ (fun q : Nat => s.heap.size ≤ q) b := Nat.not_le.mpr hbl
  have htA := ALL_law hts
  have hN := NW_law hts
  obtain ⟨r, Px, Pm, hcx, hcm, hR2⟩ := hst (xs (nI i + 1).toNatClampNeg) σx σm hR
  have hin1 : vp_in (nI i + 1) L := by rw [show (1 : Int32) = nI 1 from rfl, nI_add]; exact vp_in_nI (by omega) (by omega)
  refine lv_aload_n hx hb (by decide +kernel : decode code 172 = .ok (.aload_n 1, 1)) rfl (lv_at hl 1 rfl) ?_
  refine lv_aload_n hx hb (by decide +kernel : decode code 173 = .ok (.aload_n 0, 1)) rfl (lv_at hl 0 rfl) ?_
  refine lv_iload_n hx hb (by decide +kernel : decode code 174 = .ok (.iload_n 3, 1)) rfl (lv_at hl 3 rfl) ?_
  refine lv_iconst (v := 1) hx hb (by decide +kernel : decode code 175 = .ok (.iconst 1, 1)) (by decide) ?_
  refine lv_iadd hx hb (by decide +kernel : decode code 176 = .ok (.iadd, 1)) ?_
  refine va_sld hx hb hX hbl hbA hS hin1 (by decide +kernel : decode code 177 = .ok (.iaload, 1)) ?_
  refine sm_call (Y := LX) (ad := ax) (d := 300) (b := 0) (as0 := [sI (xs (nI i + 1).toNatClampNeg)]) (rest := []) (ct_LW_GF_letter LX) rfl rfl hcx LX_ok (fun v hv => by simp only [List.mem_cons, List.not_mem_nil, or_false] at hv; rcases hv with rfl <;> trivial) hx hb hml hown htA hN hKK hPx (wl_D _ hDx) hS hA hl.1 (Nat.le_of_ble_eq_true rfl) rfl (Nat.le_of_ble_eq_true rfl) ⟨Nat.le_of_ble_eq_true rfl, Nat.le_of_ble_eq_true rfl⟩ ⟨Nat.le_of_ble_eq_true rfl, Nat.le_of_ble_eq_true rfl⟩ (by decide +kernel : decode code 178 = .ok (.invokevirtual 13, 3)) rfl (fun r0 σ0 H1 locs1 hq hP1 hz hkk hS1 => ?_)
  obtain ⟨e1, e2⟩ := rI_eq hq
  subst e1
  have gx := e2
  have hPm1 := va_keep hPm hkk (fun i j x y hi hj => by rw [(wl_ad hi).1, (wl_ad hj).1]; exact fun z => hdis j i (wl_ad hj).2 (wl_ad hi).2 z.symm)
  clear hkk hz hS hPm hPx hq
  have hPx := hP1
  have hPm := hPm1
  have hS := hS1
  clear hP1 hPm1 hS1
  refine lv_aload_n hx hb (by decide +kernel : decode code 181 = .ok (.aload_n 2, 1)) rfl (lv_at hl 2 rfl) ?_
  refine lv_aload_n hx hb (by decide +kernel : decode code 182 = .ok (.aload_n 0, 1)) rfl (lv_at hl 0 rfl) ?_
  refine lv_iload_n hx hb (by decide +kernel : decode code 183 = .ok (.iload_n 3, 1)) rfl (lv_at hl 3 rfl) ?_
  refine lv_iconst (v := 1) hx hb (by decide +kernel : decode code 184 = .ok (.iconst 1, 1)) (by decide) ?_
  refine lv_iadd hx hb (by decide +kernel : decode code 185 = .ok (.iadd, 1)) ?_
  refine va_sld hx hb hX hbl hbA hS hin1 (by decide +kernel : decode code 186 = .ok (.iaload, 1)) ?_
  refine sm_call (Y := LM) (ad := am) (d := 300) (b := 0) (as0 := [sI (xs (nI i + 1).toNatClampNeg)]) (rest := [.int r]) (ct_LW_MO_letter LM) rfl rfl hcm LM_ok (fun v hv => by simp only [List.mem_cons, List.not_mem_nil, or_false] at hv; rcases hv with rfl <;> trivial) hx hb hml hown htA hN hKK hPm (wl_D _ hDm) hS hA hl.1 (Nat.le_of_ble_eq_true rfl) rfl (Nat.le_of_ble_eq_true rfl) ⟨Nat.le_of_ble_eq_true rfl, Nat.le_of_ble_eq_true rfl⟩ ⟨Nat.le_of_ble_eq_true rfl, Nat.le_of_ble_eq_true rfl⟩ (by decide +kernel : decode code 187 = .ok (.invokevirtual 17, 3)) rfl (fun r0 σ0 H1 locs1 hq hP1 hz hkk hS1 => ?_)
  obtain ⟨e1, e2⟩ := rI_eq hq
  subst e1
  have gm := e2
  have hPx1 := va_keep hPx hkk (fun i j x y hi hj => by rw [(wl_ad hi).1, (wl_ad hj).1]; exact hdis i j (wl_ad hi).2 (wl_ad hj).2)
  clear hkk hz hS hPm hPx hq
  have hPm := hP1
  have hPx := hPx1
  have hS := hS1
  clear hP1 hPx1 hS1
  refine lv_icmp_eq (tgt := 867) hx hb (by decide +kernel : decode code 190 = .ok (.if_icmp .eq 677, 3)) (by decide) (fun _ => ?_) (fun z => absurd rfl z)
  refine lv_iinc (v := nI (i + 4)) (lv' := [(3, .int (nI (i + 4))), (0, .ref b), (1, .ref (ax 0)), (2, .ref (am 0))]) hx hb (by decide +kernel : decode code 867 = .ok (.iinc 3 4, 3)) hl (k := 3) rfl (by rw [← nI_add]; rfl) (by decide) rfl (fun ls hl => ?_)
  refine lv_goto (tgt := 18) hx hb (by decide +kernel : decode code 870 = .ok (.goto (-852), 3)) (by decide) ?_
  exact ih (i + 4) (by omega) (by omega) _ _ (hR2 _ _ gx gm) _ _ ls hPx hPm hS (lv_sub hl [1, 2, 3, 0] rfl)
set_option maxHeartbeats 4000000 in
set_option maxRecDepth 100000 in
theorem law_value (l : Launch) {Rel : sS → sS → Prop} (hL : L ≤ 2048) (C0 : lw_At p s m meth c b L xs) {D : va_G} {cA : ClassId} {ax am : Nat → Nat} (hKK : va_K D classes [(cA, .int)] s) (hDx : va_D (fun q : Nat => s.heap.size ≤ q) (wl cA ax σX0 LX)) (hDm : va_D (fun q : Nat => s.heap.size ≤ q) (wl cA am σM1 LM)) (hdis : ∀ i j : Nat, i < 88 → j < 37 → ax i ≠ am j) (hst : StI Rel y_GF_value y_MO_value []) {n i : Nat} (hi : i + 4 ≤ L) (hn : L + 4 - i < n + 1) (ih : ∀ (i : Nat), i + 4 ≤ L + 4 → L + 4 - i < n → ∀ (σx σm : sS), Rel σx σm → ∀ (H : Heap) (locs : List Loc) (ls : Array Slot), va_P D classes (wl cA ax σx LX) H → va_P D classes (wl cA am σm LM) H → va_S (fun q : Nat => s.heap.size ≤ q) s.heap H locs → lv_has ls 4 [(0, .ref b), (1, .ref (ax 0)), (2, .ref (am 0)), (3, .int (nI i))] → W p l e room_1 s m #[Value.ref b] below meth c H locs 125 46410 (lw_Z below #[Value.ref b] s) (F0 m 18 ls []))
    {σx σm : sS} (hR : Rel σx σm) {H : Heap} {locs : List Loc} {ls : Array Slot} (hPx : va_P D classes (wl cA ax σx LX) H) (hPm : va_P D classes (wl cA am σm LM) H) (hS : va_S (fun q : Nat => s.heap.size ≤ q) s.heap H locs) (hl : lv_has ls 4 [(0, .ref b), (1, .ref (ax 0)), (2, .ref (am 0)), (3, .int (nI i))]) : W p l e room_1 s m #[Value.ref b] below meth c H locs 125 46410 (lw_Z below #[Value.ref b] s) (F0 m 195 ls []) := by
  obtain ⟨hx, hb, hr, hml, hown, hts, hX, hbl, hlocks, hgv⟩ := id C0
  have hA : ∀ q : Nat, s.heap.size ≤ q → (fun q : Nat => s.heap.size ≤ q) q := fun _ h => h
  have hbA : ¬ (fun q : Nat => s.heap.size ≤ q) b := Nat.not_le.mpr hbl
  have htA := ALL_law hts
  have hN := NW_law hts
  obtain ⟨r, Px, Pm, hcx, hcm, hR2⟩ := hst  σx σm hR
  refine lv_aload_n hx hb (by decide +kernel : decode code 195 = .ok (.aload_n 1, 1)) rfl (lv_at hl 1 rfl) ?_
  refine sm_call (Y := LX) (ad := ax) (d := 300) (b := 0) (as0 := []) (rest := []) (ct_LW_GF_value LX) rfl rfl hcx LX_ok (fun v hv => by cases hv) hx hb hml hown htA hN hKK hPx (wl_D _ hDx) hS hA hl.1 (Nat.le_of_ble_eq_true rfl) rfl (Nat.le_of_ble_eq_true rfl) ⟨Nat.le_of_ble_eq_true rfl, Nat.le_of_ble_eq_true rfl⟩ ⟨Nat.le_of_ble_eq_true rfl, Nat.le_of_ble_eq_true rfl⟩ (by decide +kernel : decode code 196 = .ok (.invokevirtual 18, 3)) rfl (fun r0 σ0 H1 locs1 hq hP1 hz hkk hS1 => ?_)
  obtain ⟨e1, e2⟩ := rI_eq hq
  subst e1
  have gx := e2
  have hPm1 := va_keep hPm hkk (fun i j x y hi hj => by rw [(wl_ad hi).1, (wl_ad hj).1]; exact fun z => hdis j i (wl_ad hj).2 (wl_ad hi).2 z.symm)
  clear hkk hz hS hPm hPx hq
  have hPx := hP1
  have hPm := hPm1
  have hS := hS1
  clear hP1 hPm1 hS1
  refine lv_aload_n hx hb (by decide +kernel : decode code 199 = .ok (.aload_n 2, 1)) rfl (lv_at hl 2 rfl) ?_
  refine sm_call (Y := LM) (ad := am) (d := 300) (b := 0) (as0 := []) (rest := [.int r]) (ct_LW_MO_value LM) rfl rfl hcm LM_ok (fun v hv => by cases hv) hx hb hml hown htA hN hKK hPm (wl_D _ hDm) hS hA hl.1 (Nat.le_of_ble_eq_true rfl) rfl (Nat.le_of_ble_eq_true rfl) ⟨Nat.le_of_ble_eq_true rfl, Nat.le_of_ble_eq_true rfl⟩ ⟨Nat.le_of_ble_eq_true rfl, Nat.le_of_ble_eq_true rfl⟩ (by decide +kernel : decode code 200 = .ok (.invokevirtual 22, 3)) rfl (fun r0 σ0 H1 locs1 hq hP1 hz hkk hS1 => ?_)
  obtain ⟨e1, e2⟩ := rI_eq hq
  subst e1
  have gm := e2
  have hPx1 := va_keep hPx hkk (fun i j x y hi hj => by rw [(wl_ad hi).1, (wl_ad hj).1]; exact hdis i j (wl_ad hi).2 (wl_ad hj).2)
  clear hkk hz hS hPm hPx hq
  have hPm := hP1
  have hPx := hPx1
  have hS := hS1
  clear hP1 hPx1 hS1
  refine lv_icmp_eq (tgt := 867) hx hb (by decide +kernel : decode code 203 = .ok (.if_icmp .eq 664, 3)) (by decide) (fun _ => ?_) (fun z => absurd rfl z)
  refine lv_iinc (v := nI (i + 4)) (lv' := [(3, .int (nI (i + 4))), (0, .ref b), (1, .ref (ax 0)), (2, .ref (am 0))]) hx hb (by decide +kernel : decode code 867 = .ok (.iinc 3 4, 3)) hl (k := 3) rfl (by rw [← nI_add]; rfl) (by decide) rfl (fun ls hl => ?_)
  refine lv_goto (tgt := 18) hx hb (by decide +kernel : decode code 870 = .ok (.goto (-852), 3)) (by decide) ?_
  exact ih (i + 4) (by omega) (by omega) _ _ (hR2 _ _ gx gm) _ _ ls hPx hPm hS (lv_sub hl [1, 2, 3, 0] rfl)
set_option maxHeartbeats 4000000 in
set_option maxRecDepth 100000 in
theorem law_check (l : Launch) {Rel : sS → sS → Prop} (hL : L ≤ 2048) (C0 : lw_At p s m meth c b L xs) {D : va_G} {cA : ClassId} {ax am : Nat → Nat} (hKK : va_K D classes [(cA, .int)] s) (hDx : va_D (fun q : Nat => s.heap.size ≤ q) (wl cA ax σX0 LX)) (hDm : va_D (fun q : Nat => s.heap.size ≤ q) (wl cA am σM1 LM)) (hdis : ∀ i j : Nat, i < 88 → j < 37 → ax i ≠ am j) (hst : StI Rel y_GF_check y_MO_check []) {n i : Nat} (hi : i + 4 ≤ L) (hn : L + 4 - i < n + 1) (ih : ∀ (i : Nat), i + 4 ≤ L + 4 → L + 4 - i < n → ∀ (σx σm : sS), Rel σx σm → ∀ (H : Heap) (locs : List Loc) (ls : Array Slot), va_P D classes (wl cA ax σx LX) H → va_P D classes (wl cA am σm LM) H → va_S (fun q : Nat => s.heap.size ≤ q) s.heap H locs → lv_has ls 4 [(0, .ref b), (1, .ref (ax 0)), (2, .ref (am 0)), (3, .int (nI i))] → W p l e room_1 s m #[Value.ref b] below meth c H locs 125 46410 (lw_Z below #[Value.ref b] s) (F0 m 18 ls []))
    {σx σm : sS} (hR : Rel σx σm) {H : Heap} {locs : List Loc} {ls : Array Slot} (hPx : va_P D classes (wl cA ax σx LX) H) (hPm : va_P D classes (wl cA am σm LM) H) (hS : va_S (fun q : Nat => s.heap.size ≤ q) s.heap H locs) (hl : lv_has ls 4 [(0, .ref b), (1, .ref (ax 0)), (2, .ref (am 0)), (3, .int (nI i))]) : W p l e room_1 s m #[Value.ref b] below meth c H locs 125 46410 (lw_Z below #[Value.ref b] s) (F0 m 208 ls []) := by
  obtain ⟨hx, hb, hr, hml, hown, hts, hX, hbl, hlocks, hgv⟩ := id C0
  have hA : ∀ q : Nat, s.heap.size ≤ q → (fun q : Nat => s.heap.size ≤ q) q := fun _ h => h
  have hbA : ¬ (fun q : Nat => s.heap.size ≤ q) b := Nat.not_le.mpr hbl
  have htA := ALL_law hts
  have hN := NW_law hts
  obtain ⟨r, Px, Pm, hcx, hcm, hR2⟩ := hst  σx σm hR
  refine lv_aload_n hx hb (by decide +kernel : decode code 208 = .ok (.aload_n 1, 1)) rfl (lv_at hl 1 rfl) ?_
  refine sm_call (Y := LX) (ad := ax) (d := 300) (b := 0) (as0 := []) (rest := []) (ct_LW_GF_check LX) rfl rfl hcx LX_ok (fun v hv => by cases hv) hx hb hml hown htA hN hKK hPx (wl_D _ hDx) hS hA hl.1 (Nat.le_of_ble_eq_true rfl) rfl (Nat.le_of_ble_eq_true rfl) ⟨Nat.le_of_ble_eq_true rfl, Nat.le_of_ble_eq_true rfl⟩ ⟨Nat.le_of_ble_eq_true rfl, Nat.le_of_ble_eq_true rfl⟩ (by decide +kernel : decode code 209 = .ok (.invokevirtual 23, 3)) rfl (fun r0 σ0 H1 locs1 hq hP1 hz hkk hS1 => ?_)
  obtain ⟨e1, e2⟩ := rI_eq hq
  subst e1
  have gx := e2
  have hPm1 := va_keep hPm hkk (fun i j x y hi hj => by rw [(wl_ad hi).1, (wl_ad hj).1]; exact fun z => hdis j i (wl_ad hj).2 (wl_ad hi).2 z.symm)
  clear hkk hz hS hPm hPx hq
  have hPx := hP1
  have hPm := hPm1
  have hS := hS1
  clear hP1 hPm1 hS1
  refine lv_aload_n hx hb (by decide +kernel : decode code 212 = .ok (.aload_n 2, 1)) rfl (lv_at hl 2 rfl) ?_
  refine sm_call (Y := LM) (ad := am) (d := 300) (b := 0) (as0 := []) (rest := [.int r]) (ct_LW_MO_check LM) rfl rfl hcm LM_ok (fun v hv => by cases hv) hx hb hml hown htA hN hKK hPm (wl_D _ hDm) hS hA hl.1 (Nat.le_of_ble_eq_true rfl) rfl (Nat.le_of_ble_eq_true rfl) ⟨Nat.le_of_ble_eq_true rfl, Nat.le_of_ble_eq_true rfl⟩ ⟨Nat.le_of_ble_eq_true rfl, Nat.le_of_ble_eq_true rfl⟩ (by decide +kernel : decode code 213 = .ok (.invokevirtual 26, 3)) rfl (fun r0 σ0 H1 locs1 hq hP1 hz hkk hS1 => ?_)
  obtain ⟨e1, e2⟩ := rI_eq hq
  subst e1
  have gm := e2
  have hPx1 := va_keep hPx hkk (fun i j x y hi hj => by rw [(wl_ad hi).1, (wl_ad hj).1]; exact hdis i j (wl_ad hi).2 (wl_ad hj).2)
  clear hkk hz hS hPm hPx hq
  have hPm := hP1
  have hPx := hPx1
  have hS := hS1
  clear hP1 hPx1 hS1
  refine lv_icmp_eq (tgt := 867) hx hb (by decide +kernel : decode code 216 = .ok (.if_icmp .eq 651, 3)) (by decide) (fun _ => ?_) (fun z => absurd rfl z)
  refine lv_iinc (v := nI (i + 4)) (lv' := [(3, .int (nI (i + 4))), (0, .ref b), (1, .ref (ax 0)), (2, .ref (am 0))]) hx hb (by decide +kernel : decode code 867 = .ok (.iinc 3 4, 3)) hl (k := 3) rfl (by rw [← nI_add]; rfl) (by decide) rfl (fun ls hl => ?_)
  refine lv_goto (tgt := 18) hx hb (by decide +kernel : decode code 870 = .ok (.goto (-852), 3)) (by decide) ?_
  exact ih (i + 4) (by omega) (by omega) _ _ (hR2 _ _ gx gm) _ _ ls hPx hPm hS (lv_sub hl [1, 2, 3, 0] rfl)
set_option maxHeartbeats 4000000 in
set_option maxRecDepth 100000 in
theorem law_part (l : Launch) {Rel : sS → sS → Prop} (hL : L ≤ 2048) (C0 : lw_At p s m meth c b L xs) {D : va_G} {cA : ClassId} {ax am : Nat → Nat} (hKK : va_K D classes [(cA, .int)] s) (hDx : va_D (fun q : Nat => s.heap.size ≤ q) (wl cA ax σX0 LX)) (hDm : va_D (fun q : Nat => s.heap.size ≤ q) (wl cA am σM1 LM)) (hdis : ∀ i j : Nat, i < 88 → j < 37 → ax i ≠ am j) (hst : ∀ a1 a2 : Int32, StI Rel y_GF_part y_MO_part [sI a1, sI a2]) {n i : Nat} (hi : i + 4 ≤ L) (hn : L + 4 - i < n + 1) (ih : ∀ (i : Nat), i + 4 ≤ L + 4 → L + 4 - i < n → ∀ (σx σm : sS), Rel σx σm → ∀ (H : Heap) (locs : List Loc) (ls : Array Slot), va_P D classes (wl cA ax σx LX) H → va_P D classes (wl cA am σm LM) H → va_S (fun q : Nat => s.heap.size ≤ q) s.heap H locs → lv_has ls 4 [(0, .ref b), (1, .ref (ax 0)), (2, .ref (am 0)), (3, .int (nI i))] → W p l e room_1 s m #[Value.ref b] below meth c H locs 125 46410 (lw_Z below #[Value.ref b] s) (F0 m 18 ls []))
    {σx σm : sS} (hR : Rel σx σm) {H : Heap} {locs : List Loc} {ls : Array Slot} (hPx : va_P D classes (wl cA ax σx LX) H) (hPm : va_P D classes (wl cA am σm LM) H) (hS : va_S (fun q : Nat => s.heap.size ≤ q) s.heap H locs) (hl : lv_has ls 4 [(0, .ref b), (1, .ref (ax 0)), (2, .ref (am 0)), (3, .int (nI i))]) : W p l e room_1 s m #[Value.ref b] below meth c H locs 125 46410 (lw_Z below #[Value.ref b] s) (F0 m 221 ls []) := by
  obtain ⟨hx, hb, hr, hml, hown, hts, hX, hbl, hlocks, hgv⟩ := id C0
  have hA : ∀ q : Nat, s.heap.size ≤ q → (fun q : Nat => s.heap.size ≤ q) q := fun _ h => h
  have hbA : ¬ (fun q : Nat => s.heap.size ≤ q) b := Nat.not_le.mpr hbl
  have htA := ALL_law hts
  have hN := NW_law hts
  obtain ⟨r, Px, Pm, hcx, hcm, hR2⟩ := hst (xs (nI i + 1).toNatClampNeg) (xs (nI i + 2).toNatClampNeg) σx σm hR
  have hin1 : vp_in (nI i + 1) L := by rw [show (1 : Int32) = nI 1 from rfl, nI_add]; exact vp_in_nI (by omega) (by omega)
  have hin2 : vp_in (nI i + 2) L := by rw [show (2 : Int32) = nI 2 from rfl, nI_add]; exact vp_in_nI (by omega) (by omega)
  refine lv_aload_n hx hb (by decide +kernel : decode code 221 = .ok (.aload_n 1, 1)) rfl (lv_at hl 1 rfl) ?_
  refine lv_aload_n hx hb (by decide +kernel : decode code 222 = .ok (.aload_n 0, 1)) rfl (lv_at hl 0 rfl) ?_
  refine lv_iload_n hx hb (by decide +kernel : decode code 223 = .ok (.iload_n 3, 1)) rfl (lv_at hl 3 rfl) ?_
  refine lv_iconst (v := 1) hx hb (by decide +kernel : decode code 224 = .ok (.iconst 1, 1)) (by decide) ?_
  refine lv_iadd hx hb (by decide +kernel : decode code 225 = .ok (.iadd, 1)) ?_
  refine va_sld hx hb hX hbl hbA hS hin1 (by decide +kernel : decode code 226 = .ok (.iaload, 1)) ?_
  refine lv_aload_n hx hb (by decide +kernel : decode code 227 = .ok (.aload_n 0, 1)) rfl (lv_at hl 0 rfl) ?_
  refine lv_iload_n hx hb (by decide +kernel : decode code 228 = .ok (.iload_n 3, 1)) rfl (lv_at hl 3 rfl) ?_
  refine lv_iconst (v := 2) hx hb (by decide +kernel : decode code 229 = .ok (.iconst 2, 1)) (by decide) ?_
  refine lv_iadd hx hb (by decide +kernel : decode code 230 = .ok (.iadd, 1)) ?_
  refine va_sld hx hb hX hbl hbA hS hin2 (by decide +kernel : decode code 231 = .ok (.iaload, 1)) ?_
  refine sm_call (Y := LX) (ad := ax) (d := 300) (b := 0) (as0 := [sI (xs (nI i + 1).toNatClampNeg), sI (xs (nI i + 2).toNatClampNeg)]) (rest := []) (ct_LW_GF_part LX) rfl rfl hcx LX_ok (fun v hv => by simp only [List.mem_cons, List.not_mem_nil, or_false] at hv; rcases hv with rfl | rfl <;> trivial) hx hb hml hown htA hN hKK hPx (wl_D _ hDx) hS hA hl.1 (Nat.le_of_ble_eq_true rfl) rfl (Nat.le_of_ble_eq_true rfl) ⟨Nat.le_of_ble_eq_true rfl, Nat.le_of_ble_eq_true rfl⟩ ⟨Nat.le_of_ble_eq_true rfl, Nat.le_of_ble_eq_true rfl⟩ (by decide +kernel : decode code 232 = .ok (.invokevirtual 27, 3)) rfl (fun r0 σ0 H1 locs1 hq hP1 hz hkk hS1 => ?_)
  obtain ⟨e1, e2⟩ := rI_eq hq
  subst e1
  have gx := e2
  have hPm1 := va_keep hPm hkk (fun i j x y hi hj => by rw [(wl_ad hi).1, (wl_ad hj).1]; exact fun z => hdis j i (wl_ad hj).2 (wl_ad hi).2 z.symm)
  clear hkk hz hS hPm hPx hq
  have hPx := hP1
  have hPm := hPm1
  have hS := hS1
  clear hP1 hPm1 hS1
  refine lv_aload_n hx hb (by decide +kernel : decode code 235 = .ok (.aload_n 2, 1)) rfl (lv_at hl 2 rfl) ?_
  refine lv_aload_n hx hb (by decide +kernel : decode code 236 = .ok (.aload_n 0, 1)) rfl (lv_at hl 0 rfl) ?_
  refine lv_iload_n hx hb (by decide +kernel : decode code 237 = .ok (.iload_n 3, 1)) rfl (lv_at hl 3 rfl) ?_
  refine lv_iconst (v := 1) hx hb (by decide +kernel : decode code 238 = .ok (.iconst 1, 1)) (by decide) ?_
  refine lv_iadd hx hb (by decide +kernel : decode code 239 = .ok (.iadd, 1)) ?_
  refine va_sld hx hb hX hbl hbA hS hin1 (by decide +kernel : decode code 240 = .ok (.iaload, 1)) ?_
  refine lv_aload_n hx hb (by decide +kernel : decode code 241 = .ok (.aload_n 0, 1)) rfl (lv_at hl 0 rfl) ?_
  refine lv_iload_n hx hb (by decide +kernel : decode code 242 = .ok (.iload_n 3, 1)) rfl (lv_at hl 3 rfl) ?_
  refine lv_iconst (v := 2) hx hb (by decide +kernel : decode code 243 = .ok (.iconst 2, 1)) (by decide) ?_
  refine lv_iadd hx hb (by decide +kernel : decode code 244 = .ok (.iadd, 1)) ?_
  refine va_sld hx hb hX hbl hbA hS hin2 (by decide +kernel : decode code 245 = .ok (.iaload, 1)) ?_
  refine sm_call (Y := LM) (ad := am) (d := 300) (b := 0) (as0 := [sI (xs (nI i + 1).toNatClampNeg), sI (xs (nI i + 2).toNatClampNeg)]) (rest := [.int r]) (ct_LW_MO_part LM) rfl rfl hcm LM_ok (fun v hv => by simp only [List.mem_cons, List.not_mem_nil, or_false] at hv; rcases hv with rfl | rfl <;> trivial) hx hb hml hown htA hN hKK hPm (wl_D _ hDm) hS hA hl.1 (Nat.le_of_ble_eq_true rfl) rfl (Nat.le_of_ble_eq_true rfl) ⟨Nat.le_of_ble_eq_true rfl, Nat.le_of_ble_eq_true rfl⟩ ⟨Nat.le_of_ble_eq_true rfl, Nat.le_of_ble_eq_true rfl⟩ (by decide +kernel : decode code 246 = .ok (.invokevirtual 31, 3)) rfl (fun r0 σ0 H1 locs1 hq hP1 hz hkk hS1 => ?_)
  obtain ⟨e1, e2⟩ := rI_eq hq
  subst e1
  have gm := e2
  have hPx1 := va_keep hPx hkk (fun i j x y hi hj => by rw [(wl_ad hi).1, (wl_ad hj).1]; exact hdis i j (wl_ad hi).2 (wl_ad hj).2)
  clear hkk hz hS hPm hPx hq
  have hPm := hP1
  have hPx := hPx1
  have hS := hS1
  clear hP1 hPx1 hS1
  refine lv_icmp_eq (tgt := 867) hx hb (by decide +kernel : decode code 249 = .ok (.if_icmp .eq 618, 3)) (by decide) (fun _ => ?_) (fun z => absurd rfl z)
  refine lv_iinc (v := nI (i + 4)) (lv' := [(3, .int (nI (i + 4))), (0, .ref b), (1, .ref (ax 0)), (2, .ref (am 0))]) hx hb (by decide +kernel : decode code 867 = .ok (.iinc 3 4, 3)) hl (k := 3) rfl (by rw [← nI_add]; rfl) (by decide) rfl (fun ls hl => ?_)
  refine lv_goto (tgt := 18) hx hb (by decide +kernel : decode code 870 = .ok (.goto (-852), 3)) (by decide) ?_
  exact ih (i + 4) (by omega) (by omega) _ _ (hR2 _ _ gx gm) _ _ ls hPx hPm hS (lv_sub hl [1, 2, 3, 0] rfl)
set_option maxHeartbeats 4000000 in
set_option maxRecDepth 100000 in
theorem law_path (l : Launch) {Rel : sS → sS → Prop} (hL : L ≤ 2048) (C0 : lw_At p s m meth c b L xs) {D : va_G} {cA : ClassId} {ax am : Nat → Nat} (hKK : va_K D classes [(cA, .int)] s) (hDx : va_D (fun q : Nat => s.heap.size ≤ q) (wl cA ax σX0 LX)) (hDm : va_D (fun q : Nat => s.heap.size ≤ q) (wl cA am σM1 LM)) (hdis : ∀ i j : Nat, i < 88 → j < 37 → ax i ≠ am j) (hst : ∀ a1 : Int32, StI Rel y_GF_path y_MO_path [sI a1]) {n i : Nat} (hi : i + 4 ≤ L) (hn : L + 4 - i < n + 1) (ih : ∀ (i : Nat), i + 4 ≤ L + 4 → L + 4 - i < n → ∀ (σx σm : sS), Rel σx σm → ∀ (H : Heap) (locs : List Loc) (ls : Array Slot), va_P D classes (wl cA ax σx LX) H → va_P D classes (wl cA am σm LM) H → va_S (fun q : Nat => s.heap.size ≤ q) s.heap H locs → lv_has ls 4 [(0, .ref b), (1, .ref (ax 0)), (2, .ref (am 0)), (3, .int (nI i))] → W p l e room_1 s m #[Value.ref b] below meth c H locs 125 46410 (lw_Z below #[Value.ref b] s) (F0 m 18 ls []))
    {σx σm : sS} (hR : Rel σx σm) {H : Heap} {locs : List Loc} {ls : Array Slot} (hPx : va_P D classes (wl cA ax σx LX) H) (hPm : va_P D classes (wl cA am σm LM) H) (hS : va_S (fun q : Nat => s.heap.size ≤ q) s.heap H locs) (hl : lv_has ls 4 [(0, .ref b), (1, .ref (ax 0)), (2, .ref (am 0)), (3, .int (nI i))]) : W p l e room_1 s m #[Value.ref b] below meth c H locs 125 46410 (lw_Z below #[Value.ref b] s) (F0 m 254 ls []) := by
  obtain ⟨hx, hb, hr, hml, hown, hts, hX, hbl, hlocks, hgv⟩ := id C0
  have hA : ∀ q : Nat, s.heap.size ≤ q → (fun q : Nat => s.heap.size ≤ q) q := fun _ h => h
  have hbA : ¬ (fun q : Nat => s.heap.size ≤ q) b := Nat.not_le.mpr hbl
  have htA := ALL_law hts
  have hN := NW_law hts
  obtain ⟨r, Px, Pm, hcx, hcm, hR2⟩ := hst (xs (nI i + 1).toNatClampNeg) σx σm hR
  have hin1 : vp_in (nI i + 1) L := by rw [show (1 : Int32) = nI 1 from rfl, nI_add]; exact vp_in_nI (by omega) (by omega)
  refine lv_aload_n hx hb (by decide +kernel : decode code 254 = .ok (.aload_n 1, 1)) rfl (lv_at hl 1 rfl) ?_
  refine lv_aload_n hx hb (by decide +kernel : decode code 255 = .ok (.aload_n 0, 1)) rfl (lv_at hl 0 rfl) ?_
  refine lv_iload_n hx hb (by decide +kernel : decode code 256 = .ok (.iload_n 3, 1)) rfl (lv_at hl 3 rfl) ?_
  refine lv_iconst (v := 1) hx hb (by decide +kernel : decode code 257 = .ok (.iconst 1, 1)) (by decide) ?_
  refine lv_iadd hx hb (by decide +kernel : decode code 258 = .ok (.iadd, 1)) ?_
  refine va_sld hx hb hX hbl hbA hS hin1 (by decide +kernel : decode code 259 = .ok (.iaload, 1)) ?_
  refine sm_call (Y := LX) (ad := ax) (d := 300) (b := 0) (as0 := [sI (xs (nI i + 1).toNatClampNeg)]) (rest := []) (ct_LW_GF_path LX) rfl rfl hcx LX_ok (fun v hv => by simp only [List.mem_cons, List.not_mem_nil, or_false] at hv; rcases hv with rfl <;> trivial) hx hb hml hown htA hN hKK hPx (wl_D _ hDx) hS hA hl.1 (Nat.le_of_ble_eq_true rfl) rfl (Nat.le_of_ble_eq_true rfl) ⟨Nat.le_of_ble_eq_true rfl, Nat.le_of_ble_eq_true rfl⟩ ⟨Nat.le_of_ble_eq_true rfl, Nat.le_of_ble_eq_true rfl⟩ (by decide +kernel : decode code 260 = .ok (.invokevirtual 32, 3)) rfl (fun r0 σ0 H1 locs1 hq hP1 hz hkk hS1 => ?_)
  obtain ⟨e1, e2⟩ := rI_eq hq
  subst e1
  have gx := e2
  have hPm1 := va_keep hPm hkk (fun i j x y hi hj => by rw [(wl_ad hi).1, (wl_ad hj).1]; exact fun z => hdis j i (wl_ad hj).2 (wl_ad hi).2 z.symm)
  clear hkk hz hS hPm hPx hq
  have hPx := hP1
  have hPm := hPm1
  have hS := hS1
  clear hP1 hPm1 hS1
  refine lv_aload_n hx hb (by decide +kernel : decode code 263 = .ok (.aload_n 2, 1)) rfl (lv_at hl 2 rfl) ?_
  refine lv_aload_n hx hb (by decide +kernel : decode code 264 = .ok (.aload_n 0, 1)) rfl (lv_at hl 0 rfl) ?_
  refine lv_iload_n hx hb (by decide +kernel : decode code 265 = .ok (.iload_n 3, 1)) rfl (lv_at hl 3 rfl) ?_
  refine lv_iconst (v := 1) hx hb (by decide +kernel : decode code 266 = .ok (.iconst 1, 1)) (by decide) ?_
  refine lv_iadd hx hb (by decide +kernel : decode code 267 = .ok (.iadd, 1)) ?_
  refine va_sld hx hb hX hbl hbA hS hin1 (by decide +kernel : decode code 268 = .ok (.iaload, 1)) ?_
  refine sm_call (Y := LM) (ad := am) (d := 300) (b := 0) (as0 := [sI (xs (nI i + 1).toNatClampNeg)]) (rest := [.int r]) (ct_LW_MO_path LM) rfl rfl hcm LM_ok (fun v hv => by simp only [List.mem_cons, List.not_mem_nil, or_false] at hv; rcases hv with rfl <;> trivial) hx hb hml hown htA hN hKK hPm (wl_D _ hDm) hS hA hl.1 (Nat.le_of_ble_eq_true rfl) rfl (Nat.le_of_ble_eq_true rfl) ⟨Nat.le_of_ble_eq_true rfl, Nat.le_of_ble_eq_true rfl⟩ ⟨Nat.le_of_ble_eq_true rfl, Nat.le_of_ble_eq_true rfl⟩ (by decide +kernel : decode code 269 = .ok (.invokevirtual 35, 3)) rfl (fun r0 σ0 H1 locs1 hq hP1 hz hkk hS1 => ?_)
  obtain ⟨e1, e2⟩ := rI_eq hq
  subst e1
  have gm := e2
  have hPx1 := va_keep hPx hkk (fun i j x y hi hj => by rw [(wl_ad hi).1, (wl_ad hj).1]; exact hdis i j (wl_ad hi).2 (wl_ad hj).2)
  clear hkk hz hS hPm hPx hq
  have hPm := hP1
  have hPx := hPx1
  have hS := hS1
  clear hP1 hPx1 hS1
  refine lv_icmp_eq (tgt := 867) hx hb (by decide +kernel : decode code 272 = .ok (.if_icmp .eq 595, 3)) (by decide) (fun _ => ?_) (fun z => absurd rfl z)
  refine lv_iinc (v := nI (i + 4)) (lv' := [(3, .int (nI (i + 4))), (0, .ref b), (1, .ref (ax 0)), (2, .ref (am 0))]) hx hb (by decide +kernel : decode code 867 = .ok (.iinc 3 4, 3)) hl (k := 3) rfl (by rw [← nI_add]; rfl) (by decide) rfl (fun ls hl => ?_)
  refine lv_goto (tgt := 18) hx hb (by decide +kernel : decode code 870 = .ok (.goto (-852), 3)) (by decide) ?_
  exact ih (i + 4) (by omega) (by omega) _ _ (hR2 _ _ gx gm) _ _ ls hPx hPm hS (lv_sub hl [1, 2, 3, 0] rfl)
set_option maxHeartbeats 4000000 in
set_option maxRecDepth 100000 in
theorem law_puts (l : Launch) {Rel : sS → sS → Prop} (hL : L ≤ 2048) (C0 : lw_At p s m meth c b L xs) {D : va_G} {cA : ClassId} {ax am : Nat → Nat} (hKK : va_K D classes [(cA, .int)] s) (hDx : va_D (fun q : Nat => s.heap.size ≤ q) (wl cA ax σX0 LX)) (hDm : va_D (fun q : Nat => s.heap.size ≤ q) (wl cA am σM1 LM)) (hdis : ∀ i j : Nat, i < 88 → j < 37 → ax i ≠ am j) (hst : ∀ a1 a2 : Int32, StI Rel y_GF_puts y_MO_puts [sI a1, sI a2]) {n i : Nat} (hi : i + 4 ≤ L) (hn : L + 4 - i < n + 1) (ih : ∀ (i : Nat), i + 4 ≤ L + 4 → L + 4 - i < n → ∀ (σx σm : sS), Rel σx σm → ∀ (H : Heap) (locs : List Loc) (ls : Array Slot), va_P D classes (wl cA ax σx LX) H → va_P D classes (wl cA am σm LM) H → va_S (fun q : Nat => s.heap.size ≤ q) s.heap H locs → lv_has ls 4 [(0, .ref b), (1, .ref (ax 0)), (2, .ref (am 0)), (3, .int (nI i))] → W p l e room_1 s m #[Value.ref b] below meth c H locs 125 46410 (lw_Z below #[Value.ref b] s) (F0 m 18 ls []))
    {σx σm : sS} (hR : Rel σx σm) {H : Heap} {locs : List Loc} {ls : Array Slot} (hPx : va_P D classes (wl cA ax σx LX) H) (hPm : va_P D classes (wl cA am σm LM) H) (hS : va_S (fun q : Nat => s.heap.size ≤ q) s.heap H locs) (hl : lv_has ls 4 [(0, .ref b), (1, .ref (ax 0)), (2, .ref (am 0)), (3, .int (nI i))]) : W p l e room_1 s m #[Value.ref b] below meth c H locs 125 46410 (lw_Z below #[Value.ref b] s) (F0 m 277 ls []) := by
  obtain ⟨hx, hb, hr, hml, hown, hts, hX, hbl, hlocks, hgv⟩ := id C0
  have hA : ∀ q : Nat, s.heap.size ≤ q → (fun q : Nat => s.heap.size ≤ q) q := fun _ h => h
  have hbA : ¬ (fun q : Nat => s.heap.size ≤ q) b := Nat.not_le.mpr hbl
  have htA := ALL_law hts
  have hN := NW_law hts
  obtain ⟨r, Px, Pm, hcx, hcm, hR2⟩ := hst (xs (nI i + 1).toNatClampNeg) (xs (nI i + 2).toNatClampNeg) σx σm hR
  have hin1 : vp_in (nI i + 1) L := by rw [show (1 : Int32) = nI 1 from rfl, nI_add]; exact vp_in_nI (by omega) (by omega)
  have hin2 : vp_in (nI i + 2) L := by rw [show (2 : Int32) = nI 2 from rfl, nI_add]; exact vp_in_nI (by omega) (by omega)
  refine lv_aload_n hx hb (by decide +kernel : decode code 277 = .ok (.aload_n 1, 1)) rfl (lv_at hl 1 rfl) ?_
  refine lv_aload_n hx hb (by decide +kernel : decode code 278 = .ok (.aload_n 0, 1)) rfl (lv_at hl 0 rfl) ?_
  refine lv_iload_n hx hb (by decide +kernel : decode code 279 = .ok (.iload_n 3, 1)) rfl (lv_at hl 3 rfl) ?_
  refine lv_iconst (v := 1) hx hb (by decide +kernel : decode code 280 = .ok (.iconst 1, 1)) (by decide) ?_
  refine lv_iadd hx hb (by decide +kernel : decode code 281 = .ok (.iadd, 1)) ?_
  refine va_sld hx hb hX hbl hbA hS hin1 (by decide +kernel : decode code 282 = .ok (.iaload, 1)) ?_
  refine lv_aload_n hx hb (by decide +kernel : decode code 283 = .ok (.aload_n 0, 1)) rfl (lv_at hl 0 rfl) ?_
  refine lv_iload_n hx hb (by decide +kernel : decode code 284 = .ok (.iload_n 3, 1)) rfl (lv_at hl 3 rfl) ?_
  refine lv_iconst (v := 2) hx hb (by decide +kernel : decode code 285 = .ok (.iconst 2, 1)) (by decide) ?_
  refine lv_iadd hx hb (by decide +kernel : decode code 286 = .ok (.iadd, 1)) ?_
  refine va_sld hx hb hX hbl hbA hS hin2 (by decide +kernel : decode code 287 = .ok (.iaload, 1)) ?_
  refine sm_call (Y := LX) (ad := ax) (d := 300) (b := 0) (as0 := [sI (xs (nI i + 1).toNatClampNeg), sI (xs (nI i + 2).toNatClampNeg)]) (rest := []) (ct_LW_GF_puts LX) rfl rfl hcx LX_ok (fun v hv => by simp only [List.mem_cons, List.not_mem_nil, or_false] at hv; rcases hv with rfl | rfl <;> trivial) hx hb hml hown htA hN hKK hPx (wl_D _ hDx) hS hA hl.1 (Nat.le_of_ble_eq_true rfl) rfl (Nat.le_of_ble_eq_true rfl) ⟨Nat.le_of_ble_eq_true rfl, Nat.le_of_ble_eq_true rfl⟩ ⟨Nat.le_of_ble_eq_true rfl, Nat.le_of_ble_eq_true rfl⟩ (by decide +kernel : decode code 288 = .ok (.invokevirtual 36, 3)) rfl (fun r0 σ0 H1 locs1 hq hP1 hz hkk hS1 => ?_)
  obtain ⟨e1, e2⟩ := rI_eq hq
  subst e1
  have gx := e2
  have hPm1 := va_keep hPm hkk (fun i j x y hi hj => by rw [(wl_ad hi).1, (wl_ad hj).1]; exact fun z => hdis j i (wl_ad hj).2 (wl_ad hi).2 z.symm)
  clear hkk hz hS hPm hPx hq
  have hPx := hP1
  have hPm := hPm1
  have hS := hS1
  clear hP1 hPm1 hS1
  refine lv_aload_n hx hb (by decide +kernel : decode code 291 = .ok (.aload_n 2, 1)) rfl (lv_at hl 2 rfl) ?_
  refine lv_aload_n hx hb (by decide +kernel : decode code 292 = .ok (.aload_n 0, 1)) rfl (lv_at hl 0 rfl) ?_
  refine lv_iload_n hx hb (by decide +kernel : decode code 293 = .ok (.iload_n 3, 1)) rfl (lv_at hl 3 rfl) ?_
  refine lv_iconst (v := 1) hx hb (by decide +kernel : decode code 294 = .ok (.iconst 1, 1)) (by decide) ?_
  refine lv_iadd hx hb (by decide +kernel : decode code 295 = .ok (.iadd, 1)) ?_
  refine va_sld hx hb hX hbl hbA hS hin1 (by decide +kernel : decode code 296 = .ok (.iaload, 1)) ?_
  refine lv_aload_n hx hb (by decide +kernel : decode code 297 = .ok (.aload_n 0, 1)) rfl (lv_at hl 0 rfl) ?_
  refine lv_iload_n hx hb (by decide +kernel : decode code 298 = .ok (.iload_n 3, 1)) rfl (lv_at hl 3 rfl) ?_
  refine lv_iconst (v := 2) hx hb (by decide +kernel : decode code 299 = .ok (.iconst 2, 1)) (by decide) ?_
  refine lv_iadd hx hb (by decide +kernel : decode code 300 = .ok (.iadd, 1)) ?_
  refine va_sld hx hb hX hbl hbA hS hin2 (by decide +kernel : decode code 301 = .ok (.iaload, 1)) ?_
  refine sm_call (Y := LM) (ad := am) (d := 300) (b := 0) (as0 := [sI (xs (nI i + 1).toNatClampNeg), sI (xs (nI i + 2).toNatClampNeg)]) (rest := [.int r]) (ct_LW_MO_puts LM) rfl rfl hcm LM_ok (fun v hv => by simp only [List.mem_cons, List.not_mem_nil, or_false] at hv; rcases hv with rfl | rfl <;> trivial) hx hb hml hown htA hN hKK hPm (wl_D _ hDm) hS hA hl.1 (Nat.le_of_ble_eq_true rfl) rfl (Nat.le_of_ble_eq_true rfl) ⟨Nat.le_of_ble_eq_true rfl, Nat.le_of_ble_eq_true rfl⟩ ⟨Nat.le_of_ble_eq_true rfl, Nat.le_of_ble_eq_true rfl⟩ (by decide +kernel : decode code 302 = .ok (.invokevirtual 39, 3)) rfl (fun r0 σ0 H1 locs1 hq hP1 hz hkk hS1 => ?_)
  obtain ⟨e1, e2⟩ := rI_eq hq
  subst e1
  have gm := e2
  have hPx1 := va_keep hPx hkk (fun i j x y hi hj => by rw [(wl_ad hi).1, (wl_ad hj).1]; exact hdis i j (wl_ad hi).2 (wl_ad hj).2)
  clear hkk hz hS hPm hPx hq
  have hPm := hP1
  have hPx := hPx1
  have hS := hS1
  clear hP1 hPx1 hS1
  refine lv_icmp_eq (tgt := 867) hx hb (by decide +kernel : decode code 305 = .ok (.if_icmp .eq 562, 3)) (by decide) (fun _ => ?_) (fun z => absurd rfl z)
  refine lv_iinc (v := nI (i + 4)) (lv' := [(3, .int (nI (i + 4))), (0, .ref b), (1, .ref (ax 0)), (2, .ref (am 0))]) hx hb (by decide +kernel : decode code 867 = .ok (.iinc 3 4, 3)) hl (k := 3) rfl (by rw [← nI_add]; rfl) (by decide) rfl (fun ls hl => ?_)
  refine lv_goto (tgt := 18) hx hb (by decide +kernel : decode code 870 = .ok (.goto (-852), 3)) (by decide) ?_
  exact ih (i + 4) (by omega) (by omega) _ _ (hR2 _ _ gx gm) _ _ ls hPx hPm hS (lv_sub hl [1, 2, 3, 0] rfl)
set_option maxHeartbeats 4000000 in
set_option maxRecDepth 100000 in
theorem law_drops (l : Launch) {Rel : sS → sS → Prop} (hL : L ≤ 2048) (C0 : lw_At p s m meth c b L xs) {D : va_G} {cA : ClassId} {ax am : Nat → Nat} (hKK : va_K D classes [(cA, .int)] s) (hDx : va_D (fun q : Nat => s.heap.size ≤ q) (wl cA ax σX0 LX)) (hDm : va_D (fun q : Nat => s.heap.size ≤ q) (wl cA am σM1 LM)) (hdis : ∀ i j : Nat, i < 88 → j < 37 → ax i ≠ am j) (hst : ∀ a1 : Int32, StI Rel y_GF_drops y_MO_drops [sI a1]) {n i : Nat} (hi : i + 4 ≤ L) (hn : L + 4 - i < n + 1) (ih : ∀ (i : Nat), i + 4 ≤ L + 4 → L + 4 - i < n → ∀ (σx σm : sS), Rel σx σm → ∀ (H : Heap) (locs : List Loc) (ls : Array Slot), va_P D classes (wl cA ax σx LX) H → va_P D classes (wl cA am σm LM) H → va_S (fun q : Nat => s.heap.size ≤ q) s.heap H locs → lv_has ls 4 [(0, .ref b), (1, .ref (ax 0)), (2, .ref (am 0)), (3, .int (nI i))] → W p l e room_1 s m #[Value.ref b] below meth c H locs 125 46410 (lw_Z below #[Value.ref b] s) (F0 m 18 ls []))
    {σx σm : sS} (hR : Rel σx σm) {H : Heap} {locs : List Loc} {ls : Array Slot} (hPx : va_P D classes (wl cA ax σx LX) H) (hPm : va_P D classes (wl cA am σm LM) H) (hS : va_S (fun q : Nat => s.heap.size ≤ q) s.heap H locs) (hl : lv_has ls 4 [(0, .ref b), (1, .ref (ax 0)), (2, .ref (am 0)), (3, .int (nI i))]) : W p l e room_1 s m #[Value.ref b] below meth c H locs 125 46410 (lw_Z below #[Value.ref b] s) (F0 m 310 ls []) := by
  obtain ⟨hx, hb, hr, hml, hown, hts, hX, hbl, hlocks, hgv⟩ := id C0
  have hA : ∀ q : Nat, s.heap.size ≤ q → (fun q : Nat => s.heap.size ≤ q) q := fun _ h => h
  have hbA : ¬ (fun q : Nat => s.heap.size ≤ q) b := Nat.not_le.mpr hbl
  have htA := ALL_law hts
  have hN := NW_law hts
  obtain ⟨r, Px, Pm, hcx, hcm, hR2⟩ := hst (xs (nI i + 1).toNatClampNeg) σx σm hR
  have hin1 : vp_in (nI i + 1) L := by rw [show (1 : Int32) = nI 1 from rfl, nI_add]; exact vp_in_nI (by omega) (by omega)
  refine lv_aload_n hx hb (by decide +kernel : decode code 310 = .ok (.aload_n 1, 1)) rfl (lv_at hl 1 rfl) ?_
  refine lv_aload_n hx hb (by decide +kernel : decode code 311 = .ok (.aload_n 0, 1)) rfl (lv_at hl 0 rfl) ?_
  refine lv_iload_n hx hb (by decide +kernel : decode code 312 = .ok (.iload_n 3, 1)) rfl (lv_at hl 3 rfl) ?_
  refine lv_iconst (v := 1) hx hb (by decide +kernel : decode code 313 = .ok (.iconst 1, 1)) (by decide) ?_
  refine lv_iadd hx hb (by decide +kernel : decode code 314 = .ok (.iadd, 1)) ?_
  refine va_sld hx hb hX hbl hbA hS hin1 (by decide +kernel : decode code 315 = .ok (.iaload, 1)) ?_
  refine sm_call (Y := LX) (ad := ax) (d := 300) (b := 0) (as0 := [sI (xs (nI i + 1).toNatClampNeg)]) (rest := []) (ct_LW_GF_drops LX) rfl rfl hcx LX_ok (fun v hv => by simp only [List.mem_cons, List.not_mem_nil, or_false] at hv; rcases hv with rfl <;> trivial) hx hb hml hown htA hN hKK hPx (wl_D _ hDx) hS hA hl.1 (Nat.le_of_ble_eq_true rfl) rfl (Nat.le_of_ble_eq_true rfl) ⟨Nat.le_of_ble_eq_true rfl, Nat.le_of_ble_eq_true rfl⟩ ⟨Nat.le_of_ble_eq_true rfl, Nat.le_of_ble_eq_true rfl⟩ (by decide +kernel : decode code 316 = .ok (.invokevirtual 40, 3)) rfl (fun r0 σ0 H1 locs1 hq hP1 hz hkk hS1 => ?_)
  obtain ⟨e1, e2⟩ := rI_eq hq
  subst e1
  have gx := e2
  have hPm1 := va_keep hPm hkk (fun i j x y hi hj => by rw [(wl_ad hi).1, (wl_ad hj).1]; exact fun z => hdis j i (wl_ad hj).2 (wl_ad hi).2 z.symm)
  clear hkk hz hS hPm hPx hq
  have hPx := hP1
  have hPm := hPm1
  have hS := hS1
  clear hP1 hPm1 hS1
  refine lv_aload_n hx hb (by decide +kernel : decode code 319 = .ok (.aload_n 2, 1)) rfl (lv_at hl 2 rfl) ?_
  refine lv_aload_n hx hb (by decide +kernel : decode code 320 = .ok (.aload_n 0, 1)) rfl (lv_at hl 0 rfl) ?_
  refine lv_iload_n hx hb (by decide +kernel : decode code 321 = .ok (.iload_n 3, 1)) rfl (lv_at hl 3 rfl) ?_
  refine lv_iconst (v := 1) hx hb (by decide +kernel : decode code 322 = .ok (.iconst 1, 1)) (by decide) ?_
  refine lv_iadd hx hb (by decide +kernel : decode code 323 = .ok (.iadd, 1)) ?_
  refine va_sld hx hb hX hbl hbA hS hin1 (by decide +kernel : decode code 324 = .ok (.iaload, 1)) ?_
  refine sm_call (Y := LM) (ad := am) (d := 300) (b := 0) (as0 := [sI (xs (nI i + 1).toNatClampNeg)]) (rest := [.int r]) (ct_LW_MO_drops LM) rfl rfl hcm LM_ok (fun v hv => by simp only [List.mem_cons, List.not_mem_nil, or_false] at hv; rcases hv with rfl <;> trivial) hx hb hml hown htA hN hKK hPm (wl_D _ hDm) hS hA hl.1 (Nat.le_of_ble_eq_true rfl) rfl (Nat.le_of_ble_eq_true rfl) ⟨Nat.le_of_ble_eq_true rfl, Nat.le_of_ble_eq_true rfl⟩ ⟨Nat.le_of_ble_eq_true rfl, Nat.le_of_ble_eq_true rfl⟩ (by decide +kernel : decode code 325 = .ok (.invokevirtual 43, 3)) rfl (fun r0 σ0 H1 locs1 hq hP1 hz hkk hS1 => ?_)
  obtain ⟨e1, e2⟩ := rI_eq hq
  subst e1
  have gm := e2
  have hPx1 := va_keep hPx hkk (fun i j x y hi hj => by rw [(wl_ad hi).1, (wl_ad hj).1]; exact hdis i j (wl_ad hi).2 (wl_ad hj).2)
  clear hkk hz hS hPm hPx hq
  have hPm := hP1
  have hPx := hPx1
  have hS := hS1
  clear hP1 hPx1 hS1
  refine lv_icmp_eq (tgt := 867) hx hb (by decide +kernel : decode code 328 = .ok (.if_icmp .eq 539, 3)) (by decide) (fun _ => ?_) (fun z => absurd rfl z)
  refine lv_iinc (v := nI (i + 4)) (lv' := [(3, .int (nI (i + 4))), (0, .ref b), (1, .ref (ax 0)), (2, .ref (am 0))]) hx hb (by decide +kernel : decode code 867 = .ok (.iinc 3 4, 3)) hl (k := 3) rfl (by rw [← nI_add]; rfl) (by decide) rfl (fun ls hl => ?_)
  refine lv_goto (tgt := 18) hx hb (by decide +kernel : decode code 870 = .ok (.goto (-852), 3)) (by decide) ?_
  exact ih (i + 4) (by omega) (by omega) _ _ (hR2 _ _ gx gm) _ _ ls hPx hPm hS (lv_sub hl [1, 2, 3, 0] rfl)
set_option maxHeartbeats 4000000 in
set_option maxRecDepth 100000 in
theorem law_faults (l : Launch) {Rel : sS → sS → Prop} (hL : L ≤ 2048) (C0 : lw_At p s m meth c b L xs) {D : va_G} {cA : ClassId} {ax am : Nat → Nat} (hKK : va_K D classes [(cA, .int)] s) (hDx : va_D (fun q : Nat => s.heap.size ≤ q) (wl cA ax σX0 LX)) (hDm : va_D (fun q : Nat => s.heap.size ≤ q) (wl cA am σM1 LM)) (hdis : ∀ i j : Nat, i < 88 → j < 37 → ax i ≠ am j) (hst : StI Rel y_GF_faults y_MO_faults []) {n i : Nat} (hi : i + 4 ≤ L) (hn : L + 4 - i < n + 1) (ih : ∀ (i : Nat), i + 4 ≤ L + 4 → L + 4 - i < n → ∀ (σx σm : sS), Rel σx σm → ∀ (H : Heap) (locs : List Loc) (ls : Array Slot), va_P D classes (wl cA ax σx LX) H → va_P D classes (wl cA am σm LM) H → va_S (fun q : Nat => s.heap.size ≤ q) s.heap H locs → lv_has ls 4 [(0, .ref b), (1, .ref (ax 0)), (2, .ref (am 0)), (3, .int (nI i))] → W p l e room_1 s m #[Value.ref b] below meth c H locs 125 46410 (lw_Z below #[Value.ref b] s) (F0 m 18 ls []))
    {σx σm : sS} (hR : Rel σx σm) {H : Heap} {locs : List Loc} {ls : Array Slot} (hPx : va_P D classes (wl cA ax σx LX) H) (hPm : va_P D classes (wl cA am σm LM) H) (hS : va_S (fun q : Nat => s.heap.size ≤ q) s.heap H locs) (hl : lv_has ls 4 [(0, .ref b), (1, .ref (ax 0)), (2, .ref (am 0)), (3, .int (nI i))]) : W p l e room_1 s m #[Value.ref b] below meth c H locs 125 46410 (lw_Z below #[Value.ref b] s) (F0 m 333 ls []) := by
  obtain ⟨hx, hb, hr, hml, hown, hts, hX, hbl, hlocks, hgv⟩ := id C0
  have hA : ∀ q : Nat, s.heap.size ≤ q → (fun q : Nat => s.heap.size ≤ q) q := fun _ h => h
  have hbA : ¬ (fun q : Nat => s.heap.size ≤ q) b := Nat.not_le.mpr hbl
  have htA := ALL_law hts
  have hN := NW_law hts
  obtain ⟨r, Px, Pm, hcx, hcm, hR2⟩ := hst  σx σm hR
  refine lv_aload_n hx hb (by decide +kernel : decode code 333 = .ok (.aload_n 1, 1)) rfl (lv_at hl 1 rfl) ?_
  refine sm_call (Y := LX) (ad := ax) (d := 300) (b := 0) (as0 := []) (rest := []) (ct_LW_GF_faults LX) rfl rfl hcx LX_ok (fun v hv => by cases hv) hx hb hml hown htA hN hKK hPx (wl_D _ hDx) hS hA hl.1 (Nat.le_of_ble_eq_true rfl) rfl (Nat.le_of_ble_eq_true rfl) ⟨Nat.le_of_ble_eq_true rfl, Nat.le_of_ble_eq_true rfl⟩ ⟨Nat.le_of_ble_eq_true rfl, Nat.le_of_ble_eq_true rfl⟩ (by decide +kernel : decode code 334 = .ok (.invokevirtual 44, 3)) rfl (fun r0 σ0 H1 locs1 hq hP1 hz hkk hS1 => ?_)
  obtain ⟨e1, e2⟩ := rI_eq hq
  subst e1
  have gx := e2
  have hPm1 := va_keep hPm hkk (fun i j x y hi hj => by rw [(wl_ad hi).1, (wl_ad hj).1]; exact fun z => hdis j i (wl_ad hj).2 (wl_ad hi).2 z.symm)
  clear hkk hz hS hPm hPx hq
  have hPx := hP1
  have hPm := hPm1
  have hS := hS1
  clear hP1 hPm1 hS1
  refine lv_aload_n hx hb (by decide +kernel : decode code 337 = .ok (.aload_n 2, 1)) rfl (lv_at hl 2 rfl) ?_
  refine sm_call (Y := LM) (ad := am) (d := 300) (b := 0) (as0 := []) (rest := [.int r]) (ct_LW_MO_faults LM) rfl rfl hcm LM_ok (fun v hv => by cases hv) hx hb hml hown htA hN hKK hPm (wl_D _ hDm) hS hA hl.1 (Nat.le_of_ble_eq_true rfl) rfl (Nat.le_of_ble_eq_true rfl) ⟨Nat.le_of_ble_eq_true rfl, Nat.le_of_ble_eq_true rfl⟩ ⟨Nat.le_of_ble_eq_true rfl, Nat.le_of_ble_eq_true rfl⟩ (by decide +kernel : decode code 338 = .ok (.invokevirtual 47, 3)) rfl (fun r0 σ0 H1 locs1 hq hP1 hz hkk hS1 => ?_)
  obtain ⟨e1, e2⟩ := rI_eq hq
  subst e1
  have gm := e2
  have hPx1 := va_keep hPx hkk (fun i j x y hi hj => by rw [(wl_ad hi).1, (wl_ad hj).1]; exact hdis i j (wl_ad hi).2 (wl_ad hj).2)
  clear hkk hz hS hPm hPx hq
  have hPm := hP1
  have hPx := hPx1
  have hS := hS1
  clear hP1 hPx1 hS1
  refine lv_icmp_eq (tgt := 867) hx hb (by decide +kernel : decode code 341 = .ok (.if_icmp .eq 526, 3)) (by decide) (fun _ => ?_) (fun z => absurd rfl z)
  refine lv_iinc (v := nI (i + 4)) (lv' := [(3, .int (nI (i + 4))), (0, .ref b), (1, .ref (ax 0)), (2, .ref (am 0))]) hx hb (by decide +kernel : decode code 867 = .ok (.iinc 3 4, 3)) hl (k := 3) rfl (by rw [← nI_add]; rfl) (by decide) rfl (fun ls hl => ?_)
  refine lv_goto (tgt := 18) hx hb (by decide +kernel : decode code 870 = .ok (.goto (-852), 3)) (by decide) ?_
  exact ih (i + 4) (by omega) (by omega) _ _ (hR2 _ _ gx gm) _ _ ls hPx hPm hS (lv_sub hl [1, 2, 3, 0] rfl)
set_option maxHeartbeats 4000000 in
set_option maxRecDepth 100000 in
theorem law_fault (l : Launch) {Rel : sS → sS → Prop} (hL : L ≤ 2048) (C0 : lw_At p s m meth c b L xs) {D : va_G} {cA : ClassId} {ax am : Nat → Nat} (hKK : va_K D classes [(cA, .int)] s) (hDx : va_D (fun q : Nat => s.heap.size ≤ q) (wl cA ax σX0 LX)) (hDm : va_D (fun q : Nat => s.heap.size ≤ q) (wl cA am σM1 LM)) (hdis : ∀ i j : Nat, i < 88 → j < 37 → ax i ≠ am j) (hst : ∀ a1 a2 : Int32, StI Rel y_GF_fault y_MO_fault [sI a1, sI a2]) {n i : Nat} (hi : i + 4 ≤ L) (hn : L + 4 - i < n + 1) (ih : ∀ (i : Nat), i + 4 ≤ L + 4 → L + 4 - i < n → ∀ (σx σm : sS), Rel σx σm → ∀ (H : Heap) (locs : List Loc) (ls : Array Slot), va_P D classes (wl cA ax σx LX) H → va_P D classes (wl cA am σm LM) H → va_S (fun q : Nat => s.heap.size ≤ q) s.heap H locs → lv_has ls 4 [(0, .ref b), (1, .ref (ax 0)), (2, .ref (am 0)), (3, .int (nI i))] → W p l e room_1 s m #[Value.ref b] below meth c H locs 125 46410 (lw_Z below #[Value.ref b] s) (F0 m 18 ls []))
    {σx σm : sS} (hR : Rel σx σm) {H : Heap} {locs : List Loc} {ls : Array Slot} (hPx : va_P D classes (wl cA ax σx LX) H) (hPm : va_P D classes (wl cA am σm LM) H) (hS : va_S (fun q : Nat => s.heap.size ≤ q) s.heap H locs) (hl : lv_has ls 4 [(0, .ref b), (1, .ref (ax 0)), (2, .ref (am 0)), (3, .int (nI i))]) : W p l e room_1 s m #[Value.ref b] below meth c H locs 125 46410 (lw_Z below #[Value.ref b] s) (F0 m 346 ls []) := by
  obtain ⟨hx, hb, hr, hml, hown, hts, hX, hbl, hlocks, hgv⟩ := id C0
  have hA : ∀ q : Nat, s.heap.size ≤ q → (fun q : Nat => s.heap.size ≤ q) q := fun _ h => h
  have hbA : ¬ (fun q : Nat => s.heap.size ≤ q) b := Nat.not_le.mpr hbl
  have htA := ALL_law hts
  have hN := NW_law hts
  obtain ⟨r, Px, Pm, hcx, hcm, hR2⟩ := hst (xs (nI i + 1).toNatClampNeg) (xs (nI i + 2).toNatClampNeg) σx σm hR
  have hin1 : vp_in (nI i + 1) L := by rw [show (1 : Int32) = nI 1 from rfl, nI_add]; exact vp_in_nI (by omega) (by omega)
  have hin2 : vp_in (nI i + 2) L := by rw [show (2 : Int32) = nI 2 from rfl, nI_add]; exact vp_in_nI (by omega) (by omega)
  refine lv_aload_n hx hb (by decide +kernel : decode code 346 = .ok (.aload_n 1, 1)) rfl (lv_at hl 1 rfl) ?_
  refine lv_aload_n hx hb (by decide +kernel : decode code 347 = .ok (.aload_n 0, 1)) rfl (lv_at hl 0 rfl) ?_
  refine lv_iload_n hx hb (by decide +kernel : decode code 348 = .ok (.iload_n 3, 1)) rfl (lv_at hl 3 rfl) ?_
  refine lv_iconst (v := 1) hx hb (by decide +kernel : decode code 349 = .ok (.iconst 1, 1)) (by decide) ?_
  refine lv_iadd hx hb (by decide +kernel : decode code 350 = .ok (.iadd, 1)) ?_
  refine va_sld hx hb hX hbl hbA hS hin1 (by decide +kernel : decode code 351 = .ok (.iaload, 1)) ?_
  refine lv_aload_n hx hb (by decide +kernel : decode code 352 = .ok (.aload_n 0, 1)) rfl (lv_at hl 0 rfl) ?_
  refine lv_iload_n hx hb (by decide +kernel : decode code 353 = .ok (.iload_n 3, 1)) rfl (lv_at hl 3 rfl) ?_
  refine lv_iconst (v := 2) hx hb (by decide +kernel : decode code 354 = .ok (.iconst 2, 1)) (by decide) ?_
  refine lv_iadd hx hb (by decide +kernel : decode code 355 = .ok (.iadd, 1)) ?_
  refine va_sld hx hb hX hbl hbA hS hin2 (by decide +kernel : decode code 356 = .ok (.iaload, 1)) ?_
  refine sm_call (Y := LX) (ad := ax) (d := 300) (b := 0) (as0 := [sI (xs (nI i + 1).toNatClampNeg), sI (xs (nI i + 2).toNatClampNeg)]) (rest := []) (ct_LW_GF_fault LX) rfl rfl hcx LX_ok (fun v hv => by simp only [List.mem_cons, List.not_mem_nil, or_false] at hv; rcases hv with rfl | rfl <;> trivial) hx hb hml hown htA hN hKK hPx (wl_D _ hDx) hS hA hl.1 (Nat.le_of_ble_eq_true rfl) rfl (Nat.le_of_ble_eq_true rfl) ⟨Nat.le_of_ble_eq_true rfl, Nat.le_of_ble_eq_true rfl⟩ ⟨Nat.le_of_ble_eq_true rfl, Nat.le_of_ble_eq_true rfl⟩ (by decide +kernel : decode code 357 = .ok (.invokevirtual 48, 3)) rfl (fun r0 σ0 H1 locs1 hq hP1 hz hkk hS1 => ?_)
  obtain ⟨e1, e2⟩ := rI_eq hq
  subst e1
  have gx := e2
  have hPm1 := va_keep hPm hkk (fun i j x y hi hj => by rw [(wl_ad hi).1, (wl_ad hj).1]; exact fun z => hdis j i (wl_ad hj).2 (wl_ad hi).2 z.symm)
  clear hkk hz hS hPm hPx hq
  have hPx := hP1
  have hPm := hPm1
  have hS := hS1
  clear hP1 hPm1 hS1
  refine lv_aload_n hx hb (by decide +kernel : decode code 360 = .ok (.aload_n 2, 1)) rfl (lv_at hl 2 rfl) ?_
  refine lv_aload_n hx hb (by decide +kernel : decode code 361 = .ok (.aload_n 0, 1)) rfl (lv_at hl 0 rfl) ?_
  refine lv_iload_n hx hb (by decide +kernel : decode code 362 = .ok (.iload_n 3, 1)) rfl (lv_at hl 3 rfl) ?_
  refine lv_iconst (v := 1) hx hb (by decide +kernel : decode code 363 = .ok (.iconst 1, 1)) (by decide) ?_
  refine lv_iadd hx hb (by decide +kernel : decode code 364 = .ok (.iadd, 1)) ?_
  refine va_sld hx hb hX hbl hbA hS hin1 (by decide +kernel : decode code 365 = .ok (.iaload, 1)) ?_
  refine lv_aload_n hx hb (by decide +kernel : decode code 366 = .ok (.aload_n 0, 1)) rfl (lv_at hl 0 rfl) ?_
  refine lv_iload_n hx hb (by decide +kernel : decode code 367 = .ok (.iload_n 3, 1)) rfl (lv_at hl 3 rfl) ?_
  refine lv_iconst (v := 2) hx hb (by decide +kernel : decode code 368 = .ok (.iconst 2, 1)) (by decide) ?_
  refine lv_iadd hx hb (by decide +kernel : decode code 369 = .ok (.iadd, 1)) ?_
  refine va_sld hx hb hX hbl hbA hS hin2 (by decide +kernel : decode code 370 = .ok (.iaload, 1)) ?_
  refine sm_call (Y := LM) (ad := am) (d := 300) (b := 0) (as0 := [sI (xs (nI i + 1).toNatClampNeg), sI (xs (nI i + 2).toNatClampNeg)]) (rest := [.int r]) (ct_LW_MO_fault LM) rfl rfl hcm LM_ok (fun v hv => by simp only [List.mem_cons, List.not_mem_nil, or_false] at hv; rcases hv with rfl | rfl <;> trivial) hx hb hml hown htA hN hKK hPm (wl_D _ hDm) hS hA hl.1 (Nat.le_of_ble_eq_true rfl) rfl (Nat.le_of_ble_eq_true rfl) ⟨Nat.le_of_ble_eq_true rfl, Nat.le_of_ble_eq_true rfl⟩ ⟨Nat.le_of_ble_eq_true rfl, Nat.le_of_ble_eq_true rfl⟩ (by decide +kernel : decode code 371 = .ok (.invokevirtual 51, 3)) rfl (fun r0 σ0 H1 locs1 hq hP1 hz hkk hS1 => ?_)
  obtain ⟨e1, e2⟩ := rI_eq hq
  subst e1
  have gm := e2
  have hPx1 := va_keep hPx hkk (fun i j x y hi hj => by rw [(wl_ad hi).1, (wl_ad hj).1]; exact hdis i j (wl_ad hi).2 (wl_ad hj).2)
  clear hkk hz hS hPm hPx hq
  have hPm := hP1
  have hPx := hPx1
  have hS := hS1
  clear hP1 hPx1 hS1
  refine lv_icmp_eq (tgt := 867) hx hb (by decide +kernel : decode code 374 = .ok (.if_icmp .eq 493, 3)) (by decide) (fun _ => ?_) (fun z => absurd rfl z)
  refine lv_iinc (v := nI (i + 4)) (lv' := [(3, .int (nI (i + 4))), (0, .ref b), (1, .ref (ax 0)), (2, .ref (am 0))]) hx hb (by decide +kernel : decode code 867 = .ok (.iinc 3 4, 3)) hl (k := 3) rfl (by rw [← nI_add]; rfl) (by decide) rfl (fun ls hl => ?_)
  refine lv_goto (tgt := 18) hx hb (by decide +kernel : decode code 870 = .ok (.goto (-852), 3)) (by decide) ?_
  exact ih (i + 4) (by omega) (by omega) _ _ (hR2 _ _ gx gm) _ _ ls hPx hPm hS (lv_sub hl [1, 2, 3, 0] rfl)
set_option maxHeartbeats 4000000 in
set_option maxRecDepth 100000 in
theorem law_coded (l : Launch) {Rel : sS → sS → Prop} (hL : L ≤ 2048) (C0 : lw_At p s m meth c b L xs) {D : va_G} {cA : ClassId} {ax am : Nat → Nat} (hKK : va_K D classes [(cA, .int)] s) (hDx : va_D (fun q : Nat => s.heap.size ≤ q) (wl cA ax σX0 LX)) (hDm : va_D (fun q : Nat => s.heap.size ≤ q) (wl cA am σM1 LM)) (hdis : ∀ i j : Nat, i < 88 → j < 37 → ax i ≠ am j) (hst : ∀ a1 : Int32, StI Rel y_GF_coded y_MO_coded [sI a1]) {n i : Nat} (hi : i + 4 ≤ L) (hn : L + 4 - i < n + 1) (ih : ∀ (i : Nat), i + 4 ≤ L + 4 → L + 4 - i < n → ∀ (σx σm : sS), Rel σx σm → ∀ (H : Heap) (locs : List Loc) (ls : Array Slot), va_P D classes (wl cA ax σx LX) H → va_P D classes (wl cA am σm LM) H → va_S (fun q : Nat => s.heap.size ≤ q) s.heap H locs → lv_has ls 4 [(0, .ref b), (1, .ref (ax 0)), (2, .ref (am 0)), (3, .int (nI i))] → W p l e room_1 s m #[Value.ref b] below meth c H locs 125 46410 (lw_Z below #[Value.ref b] s) (F0 m 18 ls []))
    {σx σm : sS} (hR : Rel σx σm) {H : Heap} {locs : List Loc} {ls : Array Slot} (hPx : va_P D classes (wl cA ax σx LX) H) (hPm : va_P D classes (wl cA am σm LM) H) (hS : va_S (fun q : Nat => s.heap.size ≤ q) s.heap H locs) (hl : lv_has ls 4 [(0, .ref b), (1, .ref (ax 0)), (2, .ref (am 0)), (3, .int (nI i))]) : W p l e room_1 s m #[Value.ref b] below meth c H locs 125 46410 (lw_Z below #[Value.ref b] s) (F0 m 379 ls []) := by
  obtain ⟨hx, hb, hr, hml, hown, hts, hX, hbl, hlocks, hgv⟩ := id C0
  have hA : ∀ q : Nat, s.heap.size ≤ q → (fun q : Nat => s.heap.size ≤ q) q := fun _ h => h
  have hbA : ¬ (fun q : Nat => s.heap.size ≤ q) b := Nat.not_le.mpr hbl
  have htA := ALL_law hts
  have hN := NW_law hts
  obtain ⟨r, Px, Pm, hcx, hcm, hR2⟩ := hst (xs (nI i + 1).toNatClampNeg) σx σm hR
  have hin1 : vp_in (nI i + 1) L := by rw [show (1 : Int32) = nI 1 from rfl, nI_add]; exact vp_in_nI (by omega) (by omega)
  refine lv_aload_n hx hb (by decide +kernel : decode code 379 = .ok (.aload_n 1, 1)) rfl (lv_at hl 1 rfl) ?_
  refine lv_aload_n hx hb (by decide +kernel : decode code 380 = .ok (.aload_n 0, 1)) rfl (lv_at hl 0 rfl) ?_
  refine lv_iload_n hx hb (by decide +kernel : decode code 381 = .ok (.iload_n 3, 1)) rfl (lv_at hl 3 rfl) ?_
  refine lv_iconst (v := 1) hx hb (by decide +kernel : decode code 382 = .ok (.iconst 1, 1)) (by decide) ?_
  refine lv_iadd hx hb (by decide +kernel : decode code 383 = .ok (.iadd, 1)) ?_
  refine va_sld hx hb hX hbl hbA hS hin1 (by decide +kernel : decode code 384 = .ok (.iaload, 1)) ?_
  refine sm_call (Y := LX) (ad := ax) (d := 300) (b := 0) (as0 := [sI (xs (nI i + 1).toNatClampNeg)]) (rest := []) (ct_LW_GF_coded LX) rfl rfl hcx LX_ok (fun v hv => by simp only [List.mem_cons, List.not_mem_nil, or_false] at hv; rcases hv with rfl <;> trivial) hx hb hml hown htA hN hKK hPx (wl_D _ hDx) hS hA hl.1 (Nat.le_of_ble_eq_true rfl) rfl (Nat.le_of_ble_eq_true rfl) ⟨Nat.le_of_ble_eq_true rfl, Nat.le_of_ble_eq_true rfl⟩ ⟨Nat.le_of_ble_eq_true rfl, Nat.le_of_ble_eq_true rfl⟩ (by decide +kernel : decode code 385 = .ok (.invokevirtual 52, 3)) rfl (fun r0 σ0 H1 locs1 hq hP1 hz hkk hS1 => ?_)
  obtain ⟨e1, e2⟩ := rI_eq hq
  subst e1
  have gx := e2
  have hPm1 := va_keep hPm hkk (fun i j x y hi hj => by rw [(wl_ad hi).1, (wl_ad hj).1]; exact fun z => hdis j i (wl_ad hj).2 (wl_ad hi).2 z.symm)
  clear hkk hz hS hPm hPx hq
  have hPx := hP1
  have hPm := hPm1
  have hS := hS1
  clear hP1 hPm1 hS1
  refine lv_aload_n hx hb (by decide +kernel : decode code 388 = .ok (.aload_n 2, 1)) rfl (lv_at hl 2 rfl) ?_
  refine lv_aload_n hx hb (by decide +kernel : decode code 389 = .ok (.aload_n 0, 1)) rfl (lv_at hl 0 rfl) ?_
  refine lv_iload_n hx hb (by decide +kernel : decode code 390 = .ok (.iload_n 3, 1)) rfl (lv_at hl 3 rfl) ?_
  refine lv_iconst (v := 1) hx hb (by decide +kernel : decode code 391 = .ok (.iconst 1, 1)) (by decide) ?_
  refine lv_iadd hx hb (by decide +kernel : decode code 392 = .ok (.iadd, 1)) ?_
  refine va_sld hx hb hX hbl hbA hS hin1 (by decide +kernel : decode code 393 = .ok (.iaload, 1)) ?_
  refine sm_call (Y := LM) (ad := am) (d := 300) (b := 0) (as0 := [sI (xs (nI i + 1).toNatClampNeg)]) (rest := [.int r]) (ct_LW_MO_coded LM) rfl rfl hcm LM_ok (fun v hv => by simp only [List.mem_cons, List.not_mem_nil, or_false] at hv; rcases hv with rfl <;> trivial) hx hb hml hown htA hN hKK hPm (wl_D _ hDm) hS hA hl.1 (Nat.le_of_ble_eq_true rfl) rfl (Nat.le_of_ble_eq_true rfl) ⟨Nat.le_of_ble_eq_true rfl, Nat.le_of_ble_eq_true rfl⟩ ⟨Nat.le_of_ble_eq_true rfl, Nat.le_of_ble_eq_true rfl⟩ (by decide +kernel : decode code 394 = .ok (.invokevirtual 55, 3)) rfl (fun r0 σ0 H1 locs1 hq hP1 hz hkk hS1 => ?_)
  obtain ⟨e1, e2⟩ := rI_eq hq
  subst e1
  have gm := e2
  have hPx1 := va_keep hPx hkk (fun i j x y hi hj => by rw [(wl_ad hi).1, (wl_ad hj).1]; exact hdis i j (wl_ad hi).2 (wl_ad hj).2)
  clear hkk hz hS hPm hPx hq
  have hPm := hP1
  have hPx := hPx1
  have hS := hS1
  clear hP1 hPx1 hS1
  refine lv_icmp_eq (tgt := 867) hx hb (by decide +kernel : decode code 397 = .ok (.if_icmp .eq 470, 3)) (by decide) (fun _ => ?_) (fun z => absurd rfl z)
  refine lv_iinc (v := nI (i + 4)) (lv' := [(3, .int (nI (i + 4))), (0, .ref b), (1, .ref (ax 0)), (2, .ref (am 0))]) hx hb (by decide +kernel : decode code 867 = .ok (.iinc 3 4, 3)) hl (k := 3) rfl (by rw [← nI_add]; rfl) (by decide) rfl (fun ls hl => ?_)
  refine lv_goto (tgt := 18) hx hb (by decide +kernel : decode code 870 = .ok (.goto (-852), 3)) (by decide) ?_
  exact ih (i + 4) (by omega) (by omega) _ _ (hR2 _ _ gx gm) _ _ ls hPx hPm hS (lv_sub hl [1, 2, 3, 0] rfl)
set_option maxHeartbeats 4000000 in
set_option maxRecDepth 100000 in
theorem law_below (l : Launch) {Rel : sS → sS → Prop} (hL : L ≤ 2048) (C0 : lw_At p s m meth c b L xs) {D : va_G} {cA : ClassId} {ax am : Nat → Nat} (hKK : va_K D classes [(cA, .int)] s) (hDx : va_D (fun q : Nat => s.heap.size ≤ q) (wl cA ax σX0 LX)) (hDm : va_D (fun q : Nat => s.heap.size ≤ q) (wl cA am σM1 LM)) (hdis : ∀ i j : Nat, i < 88 → j < 37 → ax i ≠ am j) (hst : ∀ a1 : Int32, StI Rel y_GF_below y_MO_below [sI a1]) {n i : Nat} (hi : i + 4 ≤ L) (hn : L + 4 - i < n + 1) (ih : ∀ (i : Nat), i + 4 ≤ L + 4 → L + 4 - i < n → ∀ (σx σm : sS), Rel σx σm → ∀ (H : Heap) (locs : List Loc) (ls : Array Slot), va_P D classes (wl cA ax σx LX) H → va_P D classes (wl cA am σm LM) H → va_S (fun q : Nat => s.heap.size ≤ q) s.heap H locs → lv_has ls 4 [(0, .ref b), (1, .ref (ax 0)), (2, .ref (am 0)), (3, .int (nI i))] → W p l e room_1 s m #[Value.ref b] below meth c H locs 125 46410 (lw_Z below #[Value.ref b] s) (F0 m 18 ls []))
    {σx σm : sS} (hR : Rel σx σm) {H : Heap} {locs : List Loc} {ls : Array Slot} (hPx : va_P D classes (wl cA ax σx LX) H) (hPm : va_P D classes (wl cA am σm LM) H) (hS : va_S (fun q : Nat => s.heap.size ≤ q) s.heap H locs) (hl : lv_has ls 4 [(0, .ref b), (1, .ref (ax 0)), (2, .ref (am 0)), (3, .int (nI i))]) : W p l e room_1 s m #[Value.ref b] below meth c H locs 125 46410 (lw_Z below #[Value.ref b] s) (F0 m 402 ls []) := by
  obtain ⟨hx, hb, hr, hml, hown, hts, hX, hbl, hlocks, hgv⟩ := id C0
  have hA : ∀ q : Nat, s.heap.size ≤ q → (fun q : Nat => s.heap.size ≤ q) q := fun _ h => h
  have hbA : ¬ (fun q : Nat => s.heap.size ≤ q) b := Nat.not_le.mpr hbl
  have htA := ALL_law hts
  have hN := NW_law hts
  obtain ⟨r, Px, Pm, hcx, hcm, hR2⟩ := hst (xs (nI i + 1).toNatClampNeg) σx σm hR
  have hin1 : vp_in (nI i + 1) L := by rw [show (1 : Int32) = nI 1 from rfl, nI_add]; exact vp_in_nI (by omega) (by omega)
  refine lv_aload_n hx hb (by decide +kernel : decode code 402 = .ok (.aload_n 1, 1)) rfl (lv_at hl 1 rfl) ?_
  refine lv_aload_n hx hb (by decide +kernel : decode code 403 = .ok (.aload_n 0, 1)) rfl (lv_at hl 0 rfl) ?_
  refine lv_iload_n hx hb (by decide +kernel : decode code 404 = .ok (.iload_n 3, 1)) rfl (lv_at hl 3 rfl) ?_
  refine lv_iconst (v := 1) hx hb (by decide +kernel : decode code 405 = .ok (.iconst 1, 1)) (by decide) ?_
  refine lv_iadd hx hb (by decide +kernel : decode code 406 = .ok (.iadd, 1)) ?_
  refine va_sld hx hb hX hbl hbA hS hin1 (by decide +kernel : decode code 407 = .ok (.iaload, 1)) ?_
  refine sm_call (Y := LX) (ad := ax) (d := 300) (b := 0) (as0 := [sI (xs (nI i + 1).toNatClampNeg)]) (rest := []) (ct_LW_GF_below LX) rfl rfl hcx LX_ok (fun v hv => by simp only [List.mem_cons, List.not_mem_nil, or_false] at hv; rcases hv with rfl <;> trivial) hx hb hml hown htA hN hKK hPx (wl_D _ hDx) hS hA hl.1 (Nat.le_of_ble_eq_true rfl) rfl (Nat.le_of_ble_eq_true rfl) ⟨Nat.le_of_ble_eq_true rfl, Nat.le_of_ble_eq_true rfl⟩ ⟨Nat.le_of_ble_eq_true rfl, Nat.le_of_ble_eq_true rfl⟩ (by decide +kernel : decode code 408 = .ok (.invokevirtual 56, 3)) rfl (fun r0 σ0 H1 locs1 hq hP1 hz hkk hS1 => ?_)
  obtain ⟨e1, e2⟩ := rI_eq hq
  subst e1
  have gx := e2
  have hPm1 := va_keep hPm hkk (fun i j x y hi hj => by rw [(wl_ad hi).1, (wl_ad hj).1]; exact fun z => hdis j i (wl_ad hj).2 (wl_ad hi).2 z.symm)
  clear hkk hz hS hPm hPx hq
  have hPx := hP1
  have hPm := hPm1
  have hS := hS1
  clear hP1 hPm1 hS1
  refine lv_aload_n hx hb (by decide +kernel : decode code 411 = .ok (.aload_n 2, 1)) rfl (lv_at hl 2 rfl) ?_
  refine lv_aload_n hx hb (by decide +kernel : decode code 412 = .ok (.aload_n 0, 1)) rfl (lv_at hl 0 rfl) ?_
  refine lv_iload_n hx hb (by decide +kernel : decode code 413 = .ok (.iload_n 3, 1)) rfl (lv_at hl 3 rfl) ?_
  refine lv_iconst (v := 1) hx hb (by decide +kernel : decode code 414 = .ok (.iconst 1, 1)) (by decide) ?_
  refine lv_iadd hx hb (by decide +kernel : decode code 415 = .ok (.iadd, 1)) ?_
  refine va_sld hx hb hX hbl hbA hS hin1 (by decide +kernel : decode code 416 = .ok (.iaload, 1)) ?_
  refine sm_call (Y := LM) (ad := am) (d := 300) (b := 0) (as0 := [sI (xs (nI i + 1).toNatClampNeg)]) (rest := [.int r]) (ct_LW_MO_below LM) rfl rfl hcm LM_ok (fun v hv => by simp only [List.mem_cons, List.not_mem_nil, or_false] at hv; rcases hv with rfl <;> trivial) hx hb hml hown htA hN hKK hPm (wl_D _ hDm) hS hA hl.1 (Nat.le_of_ble_eq_true rfl) rfl (Nat.le_of_ble_eq_true rfl) ⟨Nat.le_of_ble_eq_true rfl, Nat.le_of_ble_eq_true rfl⟩ ⟨Nat.le_of_ble_eq_true rfl, Nat.le_of_ble_eq_true rfl⟩ (by decide +kernel : decode code 417 = .ok (.invokevirtual 59, 3)) rfl (fun r0 σ0 H1 locs1 hq hP1 hz hkk hS1 => ?_)
  obtain ⟨e1, e2⟩ := rI_eq hq
  subst e1
  have gm := e2
  have hPx1 := va_keep hPx hkk (fun i j x y hi hj => by rw [(wl_ad hi).1, (wl_ad hj).1]; exact hdis i j (wl_ad hi).2 (wl_ad hj).2)
  clear hkk hz hS hPm hPx hq
  have hPm := hP1
  have hPx := hPx1
  have hS := hS1
  clear hP1 hPx1 hS1
  refine lv_icmp_eq (tgt := 867) hx hb (by decide +kernel : decode code 420 = .ok (.if_icmp .eq 447, 3)) (by decide) (fun _ => ?_) (fun z => absurd rfl z)
  refine lv_iinc (v := nI (i + 4)) (lv' := [(3, .int (nI (i + 4))), (0, .ref b), (1, .ref (ax 0)), (2, .ref (am 0))]) hx hb (by decide +kernel : decode code 867 = .ok (.iinc 3 4, 3)) hl (k := 3) rfl (by rw [← nI_add]; rfl) (by decide) rfl (fun ls hl => ?_)
  refine lv_goto (tgt := 18) hx hb (by decide +kernel : decode code 870 = .ok (.goto (-852), 3)) (by decide) ?_
  exact ih (i + 4) (by omega) (by omega) _ _ (hR2 _ _ gx gm) _ _ ls hPx hPm hS (lv_sub hl [1, 2, 3, 0] rfl)
set_option maxHeartbeats 4000000 in
set_option maxRecDepth 100000 in
theorem law_waits (l : Launch) {Rel : sS → sS → Prop} (hL : L ≤ 2048) (C0 : lw_At p s m meth c b L xs) {D : va_G} {cA : ClassId} {ax am : Nat → Nat} (hKK : va_K D classes [(cA, .int)] s) (hDx : va_D (fun q : Nat => s.heap.size ≤ q) (wl cA ax σX0 LX)) (hDm : va_D (fun q : Nat => s.heap.size ≤ q) (wl cA am σM1 LM)) (hdis : ∀ i j : Nat, i < 88 → j < 37 → ax i ≠ am j) (hst : StI Rel y_GF_waits y_MO_waits []) {n i : Nat} (hi : i + 4 ≤ L) (hn : L + 4 - i < n + 1) (ih : ∀ (i : Nat), i + 4 ≤ L + 4 → L + 4 - i < n → ∀ (σx σm : sS), Rel σx σm → ∀ (H : Heap) (locs : List Loc) (ls : Array Slot), va_P D classes (wl cA ax σx LX) H → va_P D classes (wl cA am σm LM) H → va_S (fun q : Nat => s.heap.size ≤ q) s.heap H locs → lv_has ls 4 [(0, .ref b), (1, .ref (ax 0)), (2, .ref (am 0)), (3, .int (nI i))] → W p l e room_1 s m #[Value.ref b] below meth c H locs 125 46410 (lw_Z below #[Value.ref b] s) (F0 m 18 ls []))
    {σx σm : sS} (hR : Rel σx σm) {H : Heap} {locs : List Loc} {ls : Array Slot} (hPx : va_P D classes (wl cA ax σx LX) H) (hPm : va_P D classes (wl cA am σm LM) H) (hS : va_S (fun q : Nat => s.heap.size ≤ q) s.heap H locs) (hl : lv_has ls 4 [(0, .ref b), (1, .ref (ax 0)), (2, .ref (am 0)), (3, .int (nI i))]) : W p l e room_1 s m #[Value.ref b] below meth c H locs 125 46410 (lw_Z below #[Value.ref b] s) (F0 m 425 ls []) := by
  obtain ⟨hx, hb, hr, hml, hown, hts, hX, hbl, hlocks, hgv⟩ := id C0
  have hA : ∀ q : Nat, s.heap.size ≤ q → (fun q : Nat => s.heap.size ≤ q) q := fun _ h => h
  have hbA : ¬ (fun q : Nat => s.heap.size ≤ q) b := Nat.not_le.mpr hbl
  have htA := ALL_law hts
  have hN := NW_law hts
  obtain ⟨r, Px, Pm, hcx, hcm, hR2⟩ := hst  σx σm hR
  refine lv_aload_n hx hb (by decide +kernel : decode code 425 = .ok (.aload_n 1, 1)) rfl (lv_at hl 1 rfl) ?_
  refine sm_call (Y := LX) (ad := ax) (d := 300) (b := 0) (as0 := []) (rest := []) (ct_LW_GF_waits LX) rfl rfl hcx LX_ok (fun v hv => by cases hv) hx hb hml hown htA hN hKK hPx (wl_D _ hDx) hS hA hl.1 (Nat.le_of_ble_eq_true rfl) rfl (Nat.le_of_ble_eq_true rfl) ⟨Nat.le_of_ble_eq_true rfl, Nat.le_of_ble_eq_true rfl⟩ ⟨Nat.le_of_ble_eq_true rfl, Nat.le_of_ble_eq_true rfl⟩ (by decide +kernel : decode code 426 = .ok (.invokevirtual 60, 3)) rfl (fun r0 σ0 H1 locs1 hq hP1 hz hkk hS1 => ?_)
  obtain ⟨e1, e2⟩ := rI_eq hq
  subst e1
  have gx := e2
  have hPm1 := va_keep hPm hkk (fun i j x y hi hj => by rw [(wl_ad hi).1, (wl_ad hj).1]; exact fun z => hdis j i (wl_ad hj).2 (wl_ad hi).2 z.symm)
  clear hkk hz hS hPm hPx hq
  have hPx := hP1
  have hPm := hPm1
  have hS := hS1
  clear hP1 hPm1 hS1
  refine lv_aload_n hx hb (by decide +kernel : decode code 429 = .ok (.aload_n 2, 1)) rfl (lv_at hl 2 rfl) ?_
  refine sm_call (Y := LM) (ad := am) (d := 300) (b := 0) (as0 := []) (rest := [.int r]) (ct_LW_MO_waits LM) rfl rfl hcm LM_ok (fun v hv => by cases hv) hx hb hml hown htA hN hKK hPm (wl_D _ hDm) hS hA hl.1 (Nat.le_of_ble_eq_true rfl) rfl (Nat.le_of_ble_eq_true rfl) ⟨Nat.le_of_ble_eq_true rfl, Nat.le_of_ble_eq_true rfl⟩ ⟨Nat.le_of_ble_eq_true rfl, Nat.le_of_ble_eq_true rfl⟩ (by decide +kernel : decode code 430 = .ok (.invokevirtual 63, 3)) rfl (fun r0 σ0 H1 locs1 hq hP1 hz hkk hS1 => ?_)
  obtain ⟨e1, e2⟩ := rI_eq hq
  subst e1
  have gm := e2
  have hPx1 := va_keep hPx hkk (fun i j x y hi hj => by rw [(wl_ad hi).1, (wl_ad hj).1]; exact hdis i j (wl_ad hi).2 (wl_ad hj).2)
  clear hkk hz hS hPm hPx hq
  have hPm := hP1
  have hPx := hPx1
  have hS := hS1
  clear hP1 hPx1 hS1
  refine lv_icmp_eq (tgt := 867) hx hb (by decide +kernel : decode code 433 = .ok (.if_icmp .eq 434, 3)) (by decide) (fun _ => ?_) (fun z => absurd rfl z)
  refine lv_iinc (v := nI (i + 4)) (lv' := [(3, .int (nI (i + 4))), (0, .ref b), (1, .ref (ax 0)), (2, .ref (am 0))]) hx hb (by decide +kernel : decode code 867 = .ok (.iinc 3 4, 3)) hl (k := 3) rfl (by rw [← nI_add]; rfl) (by decide) rfl (fun ls hl => ?_)
  refine lv_goto (tgt := 18) hx hb (by decide +kernel : decode code 870 = .ok (.goto (-852), 3)) (by decide) ?_
  exact ih (i + 4) (by omega) (by omega) _ _ (hR2 _ _ gx gm) _ _ ls hPx hPm hS (lv_sub hl [1, 2, 3, 0] rfl)
set_option maxHeartbeats 4000000 in
set_option maxRecDepth 100000 in
theorem law_first (l : Launch) {Rel : sS → sS → Prop} (hL : L ≤ 2048) (C0 : lw_At p s m meth c b L xs) {D : va_G} {cA : ClassId} {ax am : Nat → Nat} (hKK : va_K D classes [(cA, .int)] s) (hDx : va_D (fun q : Nat => s.heap.size ≤ q) (wl cA ax σX0 LX)) (hDm : va_D (fun q : Nat => s.heap.size ≤ q) (wl cA am σM1 LM)) (hdis : ∀ i j : Nat, i < 88 → j < 37 → ax i ≠ am j) (hst : StI Rel y_GF_first y_MO_first []) {n i : Nat} (hi : i + 4 ≤ L) (hn : L + 4 - i < n + 1) (ih : ∀ (i : Nat), i + 4 ≤ L + 4 → L + 4 - i < n → ∀ (σx σm : sS), Rel σx σm → ∀ (H : Heap) (locs : List Loc) (ls : Array Slot), va_P D classes (wl cA ax σx LX) H → va_P D classes (wl cA am σm LM) H → va_S (fun q : Nat => s.heap.size ≤ q) s.heap H locs → lv_has ls 4 [(0, .ref b), (1, .ref (ax 0)), (2, .ref (am 0)), (3, .int (nI i))] → W p l e room_1 s m #[Value.ref b] below meth c H locs 125 46410 (lw_Z below #[Value.ref b] s) (F0 m 18 ls []))
    {σx σm : sS} (hR : Rel σx σm) {H : Heap} {locs : List Loc} {ls : Array Slot} (hPx : va_P D classes (wl cA ax σx LX) H) (hPm : va_P D classes (wl cA am σm LM) H) (hS : va_S (fun q : Nat => s.heap.size ≤ q) s.heap H locs) (hl : lv_has ls 4 [(0, .ref b), (1, .ref (ax 0)), (2, .ref (am 0)), (3, .int (nI i))]) : W p l e room_1 s m #[Value.ref b] below meth c H locs 125 46410 (lw_Z below #[Value.ref b] s) (F0 m 438 ls []) := by
  obtain ⟨hx, hb, hr, hml, hown, hts, hX, hbl, hlocks, hgv⟩ := id C0
  have hA : ∀ q : Nat, s.heap.size ≤ q → (fun q : Nat => s.heap.size ≤ q) q := fun _ h => h
  have hbA : ¬ (fun q : Nat => s.heap.size ≤ q) b := Nat.not_le.mpr hbl
  have htA := ALL_law hts
  have hN := NW_law hts
  obtain ⟨r, Px, Pm, hcx, hcm, hR2⟩ := hst  σx σm hR
  refine lv_aload_n hx hb (by decide +kernel : decode code 438 = .ok (.aload_n 1, 1)) rfl (lv_at hl 1 rfl) ?_
  refine sm_call (Y := LX) (ad := ax) (d := 300) (b := 0) (as0 := []) (rest := []) (ct_LW_GF_first LX) rfl rfl hcx LX_ok (fun v hv => by cases hv) hx hb hml hown htA hN hKK hPx (wl_D _ hDx) hS hA hl.1 (Nat.le_of_ble_eq_true rfl) rfl (Nat.le_of_ble_eq_true rfl) ⟨Nat.le_of_ble_eq_true rfl, Nat.le_of_ble_eq_true rfl⟩ ⟨Nat.le_of_ble_eq_true rfl, Nat.le_of_ble_eq_true rfl⟩ (by decide +kernel : decode code 439 = .ok (.invokevirtual 64, 3)) rfl (fun r0 σ0 H1 locs1 hq hP1 hz hkk hS1 => ?_)
  obtain ⟨e1, e2⟩ := rI_eq hq
  subst e1
  have gx := e2
  have hPm1 := va_keep hPm hkk (fun i j x y hi hj => by rw [(wl_ad hi).1, (wl_ad hj).1]; exact fun z => hdis j i (wl_ad hj).2 (wl_ad hi).2 z.symm)
  clear hkk hz hS hPm hPx hq
  have hPx := hP1
  have hPm := hPm1
  have hS := hS1
  clear hP1 hPm1 hS1
  refine lv_aload_n hx hb (by decide +kernel : decode code 442 = .ok (.aload_n 2, 1)) rfl (lv_at hl 2 rfl) ?_
  refine sm_call (Y := LM) (ad := am) (d := 300) (b := 0) (as0 := []) (rest := [.int r]) (ct_LW_MO_first LM) rfl rfl hcm LM_ok (fun v hv => by cases hv) hx hb hml hown htA hN hKK hPm (wl_D _ hDm) hS hA hl.1 (Nat.le_of_ble_eq_true rfl) rfl (Nat.le_of_ble_eq_true rfl) ⟨Nat.le_of_ble_eq_true rfl, Nat.le_of_ble_eq_true rfl⟩ ⟨Nat.le_of_ble_eq_true rfl, Nat.le_of_ble_eq_true rfl⟩ (by decide +kernel : decode code 443 = .ok (.invokevirtual 67, 3)) rfl (fun r0 σ0 H1 locs1 hq hP1 hz hkk hS1 => ?_)
  obtain ⟨e1, e2⟩ := rI_eq hq
  subst e1
  have gm := e2
  have hPx1 := va_keep hPx hkk (fun i j x y hi hj => by rw [(wl_ad hi).1, (wl_ad hj).1]; exact hdis i j (wl_ad hi).2 (wl_ad hj).2)
  clear hkk hz hS hPm hPx hq
  have hPm := hP1
  have hPx := hPx1
  have hS := hS1
  clear hP1 hPx1 hS1
  refine lv_icmp_eq (tgt := 867) hx hb (by decide +kernel : decode code 446 = .ok (.if_icmp .eq 421, 3)) (by decide) (fun _ => ?_) (fun z => absurd rfl z)
  refine lv_iinc (v := nI (i + 4)) (lv' := [(3, .int (nI (i + 4))), (0, .ref b), (1, .ref (ax 0)), (2, .ref (am 0))]) hx hb (by decide +kernel : decode code 867 = .ok (.iinc 3 4, 3)) hl (k := 3) rfl (by rw [← nI_add]; rfl) (by decide) rfl (fun ls hl => ?_)
  refine lv_goto (tgt := 18) hx hb (by decide +kernel : decode code 870 = .ok (.goto (-852), 3)) (by decide) ?_
  exact ih (i + 4) (by omega) (by omega) _ _ (hR2 _ _ gx gm) _ _ ls hPx hPm hS (lv_sub hl [1, 2, 3, 0] rfl)
set_option maxHeartbeats 4000000 in
set_option maxRecDepth 100000 in
theorem law_limited (l : Launch) {Rel : sS → sS → Prop} (hL : L ≤ 2048) (C0 : lw_At p s m meth c b L xs) {D : va_G} {cA : ClassId} {ax am : Nat → Nat} (hKK : va_K D classes [(cA, .int)] s) (hDx : va_D (fun q : Nat => s.heap.size ≤ q) (wl cA ax σX0 LX)) (hDm : va_D (fun q : Nat => s.heap.size ≤ q) (wl cA am σM1 LM)) (hdis : ∀ i j : Nat, i < 88 → j < 37 → ax i ≠ am j) (hst : ∀ a1 a2 : Int32, StI Rel y_GF_limited y_MO_limited [sI a1, sI a2]) {n i : Nat} (hi : i + 4 ≤ L) (hn : L + 4 - i < n + 1) (ih : ∀ (i : Nat), i + 4 ≤ L + 4 → L + 4 - i < n → ∀ (σx σm : sS), Rel σx σm → ∀ (H : Heap) (locs : List Loc) (ls : Array Slot), va_P D classes (wl cA ax σx LX) H → va_P D classes (wl cA am σm LM) H → va_S (fun q : Nat => s.heap.size ≤ q) s.heap H locs → lv_has ls 4 [(0, .ref b), (1, .ref (ax 0)), (2, .ref (am 0)), (3, .int (nI i))] → W p l e room_1 s m #[Value.ref b] below meth c H locs 125 46410 (lw_Z below #[Value.ref b] s) (F0 m 18 ls []))
    {σx σm : sS} (hR : Rel σx σm) {H : Heap} {locs : List Loc} {ls : Array Slot} (hPx : va_P D classes (wl cA ax σx LX) H) (hPm : va_P D classes (wl cA am σm LM) H) (hS : va_S (fun q : Nat => s.heap.size ≤ q) s.heap H locs) (hl : lv_has ls 4 [(0, .ref b), (1, .ref (ax 0)), (2, .ref (am 0)), (3, .int (nI i))]) : W p l e room_1 s m #[Value.ref b] below meth c H locs 125 46410 (lw_Z below #[Value.ref b] s) (F0 m 451 ls []) := by
  obtain ⟨hx, hb, hr, hml, hown, hts, hX, hbl, hlocks, hgv⟩ := id C0
  have hA : ∀ q : Nat, s.heap.size ≤ q → (fun q : Nat => s.heap.size ≤ q) q := fun _ h => h
  have hbA : ¬ (fun q : Nat => s.heap.size ≤ q) b := Nat.not_le.mpr hbl
  have htA := ALL_law hts
  have hN := NW_law hts
  obtain ⟨r, Px, Pm, hcx, hcm, hR2⟩ := hst (xs (nI i + 1).toNatClampNeg) (xs (nI i + 2).toNatClampNeg) σx σm hR
  have hin1 : vp_in (nI i + 1) L := by rw [show (1 : Int32) = nI 1 from rfl, nI_add]; exact vp_in_nI (by omega) (by omega)
  have hin2 : vp_in (nI i + 2) L := by rw [show (2 : Int32) = nI 2 from rfl, nI_add]; exact vp_in_nI (by omega) (by omega)
  refine lv_aload_n hx hb (by decide +kernel : decode code 451 = .ok (.aload_n 1, 1)) rfl (lv_at hl 1 rfl) ?_
  refine lv_aload_n hx hb (by decide +kernel : decode code 452 = .ok (.aload_n 0, 1)) rfl (lv_at hl 0 rfl) ?_
  refine lv_iload_n hx hb (by decide +kernel : decode code 453 = .ok (.iload_n 3, 1)) rfl (lv_at hl 3 rfl) ?_
  refine lv_iconst (v := 1) hx hb (by decide +kernel : decode code 454 = .ok (.iconst 1, 1)) (by decide) ?_
  refine lv_iadd hx hb (by decide +kernel : decode code 455 = .ok (.iadd, 1)) ?_
  refine va_sld hx hb hX hbl hbA hS hin1 (by decide +kernel : decode code 456 = .ok (.iaload, 1)) ?_
  refine lv_aload_n hx hb (by decide +kernel : decode code 457 = .ok (.aload_n 0, 1)) rfl (lv_at hl 0 rfl) ?_
  refine lv_iload_n hx hb (by decide +kernel : decode code 458 = .ok (.iload_n 3, 1)) rfl (lv_at hl 3 rfl) ?_
  refine lv_iconst (v := 2) hx hb (by decide +kernel : decode code 459 = .ok (.iconst 2, 1)) (by decide) ?_
  refine lv_iadd hx hb (by decide +kernel : decode code 460 = .ok (.iadd, 1)) ?_
  refine va_sld hx hb hX hbl hbA hS hin2 (by decide +kernel : decode code 461 = .ok (.iaload, 1)) ?_
  refine sm_call (Y := LX) (ad := ax) (d := 300) (b := 0) (as0 := [sI (xs (nI i + 1).toNatClampNeg), sI (xs (nI i + 2).toNatClampNeg)]) (rest := []) (ct_LW_GF_limited LX) rfl rfl hcx LX_ok (fun v hv => by simp only [List.mem_cons, List.not_mem_nil, or_false] at hv; rcases hv with rfl | rfl <;> trivial) hx hb hml hown htA hN hKK hPx (wl_D _ hDx) hS hA hl.1 (Nat.le_of_ble_eq_true rfl) rfl (Nat.le_of_ble_eq_true rfl) ⟨Nat.le_of_ble_eq_true rfl, Nat.le_of_ble_eq_true rfl⟩ ⟨Nat.le_of_ble_eq_true rfl, Nat.le_of_ble_eq_true rfl⟩ (by decide +kernel : decode code 462 = .ok (.invokevirtual 68, 3)) rfl (fun r0 σ0 H1 locs1 hq hP1 hz hkk hS1 => ?_)
  obtain ⟨e1, e2⟩ := rI_eq hq
  subst e1
  have gx := e2
  have hPm1 := va_keep hPm hkk (fun i j x y hi hj => by rw [(wl_ad hi).1, (wl_ad hj).1]; exact fun z => hdis j i (wl_ad hj).2 (wl_ad hi).2 z.symm)
  clear hkk hz hS hPm hPx hq
  have hPx := hP1
  have hPm := hPm1
  have hS := hS1
  clear hP1 hPm1 hS1
  refine lv_aload_n hx hb (by decide +kernel : decode code 465 = .ok (.aload_n 2, 1)) rfl (lv_at hl 2 rfl) ?_
  refine lv_aload_n hx hb (by decide +kernel : decode code 466 = .ok (.aload_n 0, 1)) rfl (lv_at hl 0 rfl) ?_
  refine lv_iload_n hx hb (by decide +kernel : decode code 467 = .ok (.iload_n 3, 1)) rfl (lv_at hl 3 rfl) ?_
  refine lv_iconst (v := 1) hx hb (by decide +kernel : decode code 468 = .ok (.iconst 1, 1)) (by decide) ?_
  refine lv_iadd hx hb (by decide +kernel : decode code 469 = .ok (.iadd, 1)) ?_
  refine va_sld hx hb hX hbl hbA hS hin1 (by decide +kernel : decode code 470 = .ok (.iaload, 1)) ?_
  refine lv_aload_n hx hb (by decide +kernel : decode code 471 = .ok (.aload_n 0, 1)) rfl (lv_at hl 0 rfl) ?_
  refine lv_iload_n hx hb (by decide +kernel : decode code 472 = .ok (.iload_n 3, 1)) rfl (lv_at hl 3 rfl) ?_
  refine lv_iconst (v := 2) hx hb (by decide +kernel : decode code 473 = .ok (.iconst 2, 1)) (by decide) ?_
  refine lv_iadd hx hb (by decide +kernel : decode code 474 = .ok (.iadd, 1)) ?_
  refine va_sld hx hb hX hbl hbA hS hin2 (by decide +kernel : decode code 475 = .ok (.iaload, 1)) ?_
  refine sm_call (Y := LM) (ad := am) (d := 300) (b := 0) (as0 := [sI (xs (nI i + 1).toNatClampNeg), sI (xs (nI i + 2).toNatClampNeg)]) (rest := [.int r]) (ct_LW_MO_limited LM) rfl rfl hcm LM_ok (fun v hv => by simp only [List.mem_cons, List.not_mem_nil, or_false] at hv; rcases hv with rfl | rfl <;> trivial) hx hb hml hown htA hN hKK hPm (wl_D _ hDm) hS hA hl.1 (Nat.le_of_ble_eq_true rfl) rfl (Nat.le_of_ble_eq_true rfl) ⟨Nat.le_of_ble_eq_true rfl, Nat.le_of_ble_eq_true rfl⟩ ⟨Nat.le_of_ble_eq_true rfl, Nat.le_of_ble_eq_true rfl⟩ (by decide +kernel : decode code 476 = .ok (.invokevirtual 71, 3)) rfl (fun r0 σ0 H1 locs1 hq hP1 hz hkk hS1 => ?_)
  obtain ⟨e1, e2⟩ := rI_eq hq
  subst e1
  have gm := e2
  have hPx1 := va_keep hPx hkk (fun i j x y hi hj => by rw [(wl_ad hi).1, (wl_ad hj).1]; exact hdis i j (wl_ad hi).2 (wl_ad hj).2)
  clear hkk hz hS hPm hPx hq
  have hPm := hP1
  have hPx := hPx1
  have hS := hS1
  clear hP1 hPx1 hS1
  refine lv_icmp_eq (tgt := 867) hx hb (by decide +kernel : decode code 479 = .ok (.if_icmp .eq 388, 3)) (by decide) (fun _ => ?_) (fun z => absurd rfl z)
  refine lv_iinc (v := nI (i + 4)) (lv' := [(3, .int (nI (i + 4))), (0, .ref b), (1, .ref (ax 0)), (2, .ref (am 0))]) hx hb (by decide +kernel : decode code 867 = .ok (.iinc 3 4, 3)) hl (k := 3) rfl (by rw [← nI_add]; rfl) (by decide) rfl (fun ls hl => ?_)
  refine lv_goto (tgt := 18) hx hb (by decide +kernel : decode code 870 = .ok (.goto (-852), 3)) (by decide) ?_
  exact ih (i + 4) (by omega) (by omega) _ _ (hR2 _ _ gx gm) _ _ ls hPx hPm hS (lv_sub hl [1, 2, 3, 0] rfl)
set_option maxHeartbeats 4000000 in
set_option maxRecDepth 100000 in
theorem law_total (l : Launch) {Rel : sS → sS → Prop} (hL : L ≤ 2048) (C0 : lw_At p s m meth c b L xs) {D : va_G} {cA : ClassId} {ax am : Nat → Nat} (hKK : va_K D classes [(cA, .int)] s) (hDx : va_D (fun q : Nat => s.heap.size ≤ q) (wl cA ax σX0 LX)) (hDm : va_D (fun q : Nat => s.heap.size ≤ q) (wl cA am σM1 LM)) (hdis : ∀ i j : Nat, i < 88 → j < 37 → ax i ≠ am j) (hst : StI Rel y_GF_total y_MO_total []) {n i : Nat} (hi : i + 4 ≤ L) (hn : L + 4 - i < n + 1) (ih : ∀ (i : Nat), i + 4 ≤ L + 4 → L + 4 - i < n → ∀ (σx σm : sS), Rel σx σm → ∀ (H : Heap) (locs : List Loc) (ls : Array Slot), va_P D classes (wl cA ax σx LX) H → va_P D classes (wl cA am σm LM) H → va_S (fun q : Nat => s.heap.size ≤ q) s.heap H locs → lv_has ls 4 [(0, .ref b), (1, .ref (ax 0)), (2, .ref (am 0)), (3, .int (nI i))] → W p l e room_1 s m #[Value.ref b] below meth c H locs 125 46410 (lw_Z below #[Value.ref b] s) (F0 m 18 ls []))
    {σx σm : sS} (hR : Rel σx σm) {H : Heap} {locs : List Loc} {ls : Array Slot} (hPx : va_P D classes (wl cA ax σx LX) H) (hPm : va_P D classes (wl cA am σm LM) H) (hS : va_S (fun q : Nat => s.heap.size ≤ q) s.heap H locs) (hl : lv_has ls 4 [(0, .ref b), (1, .ref (ax 0)), (2, .ref (am 0)), (3, .int (nI i))]) : W p l e room_1 s m #[Value.ref b] below meth c H locs 125 46410 (lw_Z below #[Value.ref b] s) (F0 m 484 ls []) := by
  obtain ⟨hx, hb, hr, hml, hown, hts, hX, hbl, hlocks, hgv⟩ := id C0
  have hA : ∀ q : Nat, s.heap.size ≤ q → (fun q : Nat => s.heap.size ≤ q) q := fun _ h => h
  have hbA : ¬ (fun q : Nat => s.heap.size ≤ q) b := Nat.not_le.mpr hbl
  have htA := ALL_law hts
  have hN := NW_law hts
  obtain ⟨r, Px, Pm, hcx, hcm, hR2⟩ := hst  σx σm hR
  refine lv_aload_n hx hb (by decide +kernel : decode code 484 = .ok (.aload_n 1, 1)) rfl (lv_at hl 1 rfl) ?_
  refine sm_call (Y := LX) (ad := ax) (d := 300) (b := 0) (as0 := []) (rest := []) (ct_LW_GF_total LX) rfl rfl hcx LX_ok (fun v hv => by cases hv) hx hb hml hown htA hN hKK hPx (wl_D _ hDx) hS hA hl.1 (Nat.le_of_ble_eq_true rfl) rfl (Nat.le_of_ble_eq_true rfl) ⟨Nat.le_of_ble_eq_true rfl, Nat.le_of_ble_eq_true rfl⟩ ⟨Nat.le_of_ble_eq_true rfl, Nat.le_of_ble_eq_true rfl⟩ (by decide +kernel : decode code 485 = .ok (.invokevirtual 72, 3)) rfl (fun r0 σ0 H1 locs1 hq hP1 hz hkk hS1 => ?_)
  obtain ⟨e1, e2⟩ := rI_eq hq
  subst e1
  have gx := e2
  have hPm1 := va_keep hPm hkk (fun i j x y hi hj => by rw [(wl_ad hi).1, (wl_ad hj).1]; exact fun z => hdis j i (wl_ad hj).2 (wl_ad hi).2 z.symm)
  clear hkk hz hS hPm hPx hq
  have hPx := hP1
  have hPm := hPm1
  have hS := hS1
  clear hP1 hPm1 hS1
  refine lv_aload_n hx hb (by decide +kernel : decode code 488 = .ok (.aload_n 2, 1)) rfl (lv_at hl 2 rfl) ?_
  refine sm_call (Y := LM) (ad := am) (d := 300) (b := 0) (as0 := []) (rest := [.int r]) (ct_LW_MO_total LM) rfl rfl hcm LM_ok (fun v hv => by cases hv) hx hb hml hown htA hN hKK hPm (wl_D _ hDm) hS hA hl.1 (Nat.le_of_ble_eq_true rfl) rfl (Nat.le_of_ble_eq_true rfl) ⟨Nat.le_of_ble_eq_true rfl, Nat.le_of_ble_eq_true rfl⟩ ⟨Nat.le_of_ble_eq_true rfl, Nat.le_of_ble_eq_true rfl⟩ (by decide +kernel : decode code 489 = .ok (.invokevirtual 75, 3)) rfl (fun r0 σ0 H1 locs1 hq hP1 hz hkk hS1 => ?_)
  obtain ⟨e1, e2⟩ := rI_eq hq
  subst e1
  have gm := e2
  have hPx1 := va_keep hPx hkk (fun i j x y hi hj => by rw [(wl_ad hi).1, (wl_ad hj).1]; exact hdis i j (wl_ad hi).2 (wl_ad hj).2)
  clear hkk hz hS hPm hPx hq
  have hPm := hP1
  have hPx := hPx1
  have hS := hS1
  clear hP1 hPx1 hS1
  refine lv_icmp_eq (tgt := 867) hx hb (by decide +kernel : decode code 492 = .ok (.if_icmp .eq 375, 3)) (by decide) (fun _ => ?_) (fun z => absurd rfl z)
  refine lv_iinc (v := nI (i + 4)) (lv' := [(3, .int (nI (i + 4))), (0, .ref b), (1, .ref (ax 0)), (2, .ref (am 0))]) hx hb (by decide +kernel : decode code 867 = .ok (.iinc 3 4, 3)) hl (k := 3) rfl (by rw [← nI_add]; rfl) (by decide) rfl (fun ls hl => ?_)
  refine lv_goto (tgt := 18) hx hb (by decide +kernel : decode code 870 = .ok (.goto (-852), 3)) (by decide) ?_
  exact ih (i + 4) (by omega) (by omega) _ _ (hR2 _ _ gx gm) _ _ ls hPx hPm hS (lv_sub hl [1, 2, 3, 0] rfl)
set_option maxHeartbeats 4000000 in
set_option maxRecDepth 100000 in
theorem law_same (l : Launch) {Rel : sS → sS → Prop} (hL : L ≤ 2048) (C0 : lw_At p s m meth c b L xs) {D : va_G} {cA : ClassId} {ax am : Nat → Nat} (hKK : va_K D classes [(cA, .int)] s) (hDx : va_D (fun q : Nat => s.heap.size ≤ q) (wl cA ax σX0 LX)) (hDm : va_D (fun q : Nat => s.heap.size ≤ q) (wl cA am σM1 LM)) (hdis : ∀ i j : Nat, i < 88 → j < 37 → ax i ≠ am j) (hst : ∀ a1 a2 : Int32, StI Rel y_GF_same y_MO_same [sI a1, sI a2]) {n i : Nat} (hi : i + 4 ≤ L) (hn : L + 4 - i < n + 1) (ih : ∀ (i : Nat), i + 4 ≤ L + 4 → L + 4 - i < n → ∀ (σx σm : sS), Rel σx σm → ∀ (H : Heap) (locs : List Loc) (ls : Array Slot), va_P D classes (wl cA ax σx LX) H → va_P D classes (wl cA am σm LM) H → va_S (fun q : Nat => s.heap.size ≤ q) s.heap H locs → lv_has ls 4 [(0, .ref b), (1, .ref (ax 0)), (2, .ref (am 0)), (3, .int (nI i))] → W p l e room_1 s m #[Value.ref b] below meth c H locs 125 46410 (lw_Z below #[Value.ref b] s) (F0 m 18 ls []))
    {σx σm : sS} (hR : Rel σx σm) {H : Heap} {locs : List Loc} {ls : Array Slot} (hPx : va_P D classes (wl cA ax σx LX) H) (hPm : va_P D classes (wl cA am σm LM) H) (hS : va_S (fun q : Nat => s.heap.size ≤ q) s.heap H locs) (hl : lv_has ls 4 [(0, .ref b), (1, .ref (ax 0)), (2, .ref (am 0)), (3, .int (nI i))]) : W p l e room_1 s m #[Value.ref b] below meth c H locs 125 46410 (lw_Z below #[Value.ref b] s) (F0 m 497 ls []) := by
  obtain ⟨hx, hb, hr, hml, hown, hts, hX, hbl, hlocks, hgv⟩ := id C0
  have hA : ∀ q : Nat, s.heap.size ≤ q → (fun q : Nat => s.heap.size ≤ q) q := fun _ h => h
  have hbA : ¬ (fun q : Nat => s.heap.size ≤ q) b := Nat.not_le.mpr hbl
  have htA := ALL_law hts
  have hN := NW_law hts
  obtain ⟨r, Px, Pm, hcx, hcm, hR2⟩ := hst (xs (nI i + 1).toNatClampNeg) (xs (nI i + 2).toNatClampNeg) σx σm hR
  have hin1 : vp_in (nI i + 1) L := by rw [show (1 : Int32) = nI 1 from rfl, nI_add]; exact vp_in_nI (by omega) (by omega)
  have hin2 : vp_in (nI i + 2) L := by rw [show (2 : Int32) = nI 2 from rfl, nI_add]; exact vp_in_nI (by omega) (by omega)
  refine lv_aload_n hx hb (by decide +kernel : decode code 497 = .ok (.aload_n 1, 1)) rfl (lv_at hl 1 rfl) ?_
  refine lv_aload_n hx hb (by decide +kernel : decode code 498 = .ok (.aload_n 0, 1)) rfl (lv_at hl 0 rfl) ?_
  refine lv_iload_n hx hb (by decide +kernel : decode code 499 = .ok (.iload_n 3, 1)) rfl (lv_at hl 3 rfl) ?_
  refine lv_iconst (v := 1) hx hb (by decide +kernel : decode code 500 = .ok (.iconst 1, 1)) (by decide) ?_
  refine lv_iadd hx hb (by decide +kernel : decode code 501 = .ok (.iadd, 1)) ?_
  refine va_sld hx hb hX hbl hbA hS hin1 (by decide +kernel : decode code 502 = .ok (.iaload, 1)) ?_
  refine lv_aload_n hx hb (by decide +kernel : decode code 503 = .ok (.aload_n 0, 1)) rfl (lv_at hl 0 rfl) ?_
  refine lv_iload_n hx hb (by decide +kernel : decode code 504 = .ok (.iload_n 3, 1)) rfl (lv_at hl 3 rfl) ?_
  refine lv_iconst (v := 2) hx hb (by decide +kernel : decode code 505 = .ok (.iconst 2, 1)) (by decide) ?_
  refine lv_iadd hx hb (by decide +kernel : decode code 506 = .ok (.iadd, 1)) ?_
  refine va_sld hx hb hX hbl hbA hS hin2 (by decide +kernel : decode code 507 = .ok (.iaload, 1)) ?_
  refine sm_call (Y := LX) (ad := ax) (d := 300) (b := 0) (as0 := [sI (xs (nI i + 1).toNatClampNeg), sI (xs (nI i + 2).toNatClampNeg)]) (rest := []) (ct_LW_GF_same LX) rfl rfl hcx LX_ok (fun v hv => by simp only [List.mem_cons, List.not_mem_nil, or_false] at hv; rcases hv with rfl | rfl <;> trivial) hx hb hml hown htA hN hKK hPx (wl_D _ hDx) hS hA hl.1 (Nat.le_of_ble_eq_true rfl) rfl (Nat.le_of_ble_eq_true rfl) ⟨Nat.le_of_ble_eq_true rfl, Nat.le_of_ble_eq_true rfl⟩ ⟨Nat.le_of_ble_eq_true rfl, Nat.le_of_ble_eq_true rfl⟩ (by decide +kernel : decode code 508 = .ok (.invokevirtual 76, 3)) rfl (fun r0 σ0 H1 locs1 hq hP1 hz hkk hS1 => ?_)
  obtain ⟨e1, e2⟩ := rI_eq hq
  subst e1
  have gx := e2
  have hPm1 := va_keep hPm hkk (fun i j x y hi hj => by rw [(wl_ad hi).1, (wl_ad hj).1]; exact fun z => hdis j i (wl_ad hj).2 (wl_ad hi).2 z.symm)
  clear hkk hz hS hPm hPx hq
  have hPx := hP1
  have hPm := hPm1
  have hS := hS1
  clear hP1 hPm1 hS1
  refine lv_aload_n hx hb (by decide +kernel : decode code 511 = .ok (.aload_n 2, 1)) rfl (lv_at hl 2 rfl) ?_
  refine lv_aload_n hx hb (by decide +kernel : decode code 512 = .ok (.aload_n 0, 1)) rfl (lv_at hl 0 rfl) ?_
  refine lv_iload_n hx hb (by decide +kernel : decode code 513 = .ok (.iload_n 3, 1)) rfl (lv_at hl 3 rfl) ?_
  refine lv_iconst (v := 1) hx hb (by decide +kernel : decode code 514 = .ok (.iconst 1, 1)) (by decide) ?_
  refine lv_iadd hx hb (by decide +kernel : decode code 515 = .ok (.iadd, 1)) ?_
  refine va_sld hx hb hX hbl hbA hS hin1 (by decide +kernel : decode code 516 = .ok (.iaload, 1)) ?_
  refine lv_aload_n hx hb (by decide +kernel : decode code 517 = .ok (.aload_n 0, 1)) rfl (lv_at hl 0 rfl) ?_
  refine lv_iload_n hx hb (by decide +kernel : decode code 518 = .ok (.iload_n 3, 1)) rfl (lv_at hl 3 rfl) ?_
  refine lv_iconst (v := 2) hx hb (by decide +kernel : decode code 519 = .ok (.iconst 2, 1)) (by decide) ?_
  refine lv_iadd hx hb (by decide +kernel : decode code 520 = .ok (.iadd, 1)) ?_
  refine va_sld hx hb hX hbl hbA hS hin2 (by decide +kernel : decode code 521 = .ok (.iaload, 1)) ?_
  refine sm_call (Y := LM) (ad := am) (d := 300) (b := 0) (as0 := [sI (xs (nI i + 1).toNatClampNeg), sI (xs (nI i + 2).toNatClampNeg)]) (rest := [.int r]) (ct_LW_MO_same LM) rfl rfl hcm LM_ok (fun v hv => by simp only [List.mem_cons, List.not_mem_nil, or_false] at hv; rcases hv with rfl | rfl <;> trivial) hx hb hml hown htA hN hKK hPm (wl_D _ hDm) hS hA hl.1 (Nat.le_of_ble_eq_true rfl) rfl (Nat.le_of_ble_eq_true rfl) ⟨Nat.le_of_ble_eq_true rfl, Nat.le_of_ble_eq_true rfl⟩ ⟨Nat.le_of_ble_eq_true rfl, Nat.le_of_ble_eq_true rfl⟩ (by decide +kernel : decode code 522 = .ok (.invokevirtual 79, 3)) rfl (fun r0 σ0 H1 locs1 hq hP1 hz hkk hS1 => ?_)
  obtain ⟨e1, e2⟩ := rI_eq hq
  subst e1
  have gm := e2
  have hPx1 := va_keep hPx hkk (fun i j x y hi hj => by rw [(wl_ad hi).1, (wl_ad hj).1]; exact hdis i j (wl_ad hi).2 (wl_ad hj).2)
  clear hkk hz hS hPm hPx hq
  have hPm := hP1
  have hPx := hPx1
  have hS := hS1
  clear hP1 hPx1 hS1
  refine lv_icmp_eq (tgt := 867) hx hb (by decide +kernel : decode code 525 = .ok (.if_icmp .eq 342, 3)) (by decide) (fun _ => ?_) (fun z => absurd rfl z)
  refine lv_iinc (v := nI (i + 4)) (lv' := [(3, .int (nI (i + 4))), (0, .ref b), (1, .ref (ax 0)), (2, .ref (am 0))]) hx hb (by decide +kernel : decode code 867 = .ok (.iinc 3 4, 3)) hl (k := 3) rfl (by rw [← nI_add]; rfl) (by decide) rfl (fun ls hl => ?_)
  refine lv_goto (tgt := 18) hx hb (by decide +kernel : decode code 870 = .ok (.goto (-852), 3)) (by decide) ?_
  exact ih (i + 4) (by omega) (by omega) _ _ (hR2 _ _ gx gm) _ _ ls hPx hPm hS (lv_sub hl [1, 2, 3, 0] rfl)
set_option maxHeartbeats 4000000 in
set_option maxRecDepth 100000 in
theorem law_different (l : Launch) {Rel : sS → sS → Prop} (hL : L ≤ 2048) (C0 : lw_At p s m meth c b L xs) {D : va_G} {cA : ClassId} {ax am : Nat → Nat} (hKK : va_K D classes [(cA, .int)] s) (hDx : va_D (fun q : Nat => s.heap.size ≤ q) (wl cA ax σX0 LX)) (hDm : va_D (fun q : Nat => s.heap.size ≤ q) (wl cA am σM1 LM)) (hdis : ∀ i j : Nat, i < 88 → j < 37 → ax i ≠ am j) (hst : StI Rel y_GF_different y_MO_different []) {n i : Nat} (hi : i + 4 ≤ L) (hn : L + 4 - i < n + 1) (ih : ∀ (i : Nat), i + 4 ≤ L + 4 → L + 4 - i < n → ∀ (σx σm : sS), Rel σx σm → ∀ (H : Heap) (locs : List Loc) (ls : Array Slot), va_P D classes (wl cA ax σx LX) H → va_P D classes (wl cA am σm LM) H → va_S (fun q : Nat => s.heap.size ≤ q) s.heap H locs → lv_has ls 4 [(0, .ref b), (1, .ref (ax 0)), (2, .ref (am 0)), (3, .int (nI i))] → W p l e room_1 s m #[Value.ref b] below meth c H locs 125 46410 (lw_Z below #[Value.ref b] s) (F0 m 18 ls []))
    {σx σm : sS} (hR : Rel σx σm) {H : Heap} {locs : List Loc} {ls : Array Slot} (hPx : va_P D classes (wl cA ax σx LX) H) (hPm : va_P D classes (wl cA am σm LM) H) (hS : va_S (fun q : Nat => s.heap.size ≤ q) s.heap H locs) (hl : lv_has ls 4 [(0, .ref b), (1, .ref (ax 0)), (2, .ref (am 0)), (3, .int (nI i))]) : W p l e room_1 s m #[Value.ref b] below meth c H locs 125 46410 (lw_Z below #[Value.ref b] s) (F0 m 530 ls []) := by
  obtain ⟨hx, hb, hr, hml, hown, hts, hX, hbl, hlocks, hgv⟩ := id C0
  have hA : ∀ q : Nat, s.heap.size ≤ q → (fun q : Nat => s.heap.size ≤ q) q := fun _ h => h
  have hbA : ¬ (fun q : Nat => s.heap.size ≤ q) b := Nat.not_le.mpr hbl
  have htA := ALL_law hts
  have hN := NW_law hts
  obtain ⟨r, Px, Pm, hcx, hcm, hR2⟩ := hst  σx σm hR
  refine lv_aload_n hx hb (by decide +kernel : decode code 530 = .ok (.aload_n 1, 1)) rfl (lv_at hl 1 rfl) ?_
  refine sm_call (Y := LX) (ad := ax) (d := 300) (b := 0) (as0 := []) (rest := []) (ct_LW_GF_different LX) rfl rfl hcx LX_ok (fun v hv => by cases hv) hx hb hml hown htA hN hKK hPx (wl_D _ hDx) hS hA hl.1 (Nat.le_of_ble_eq_true rfl) rfl (Nat.le_of_ble_eq_true rfl) ⟨Nat.le_of_ble_eq_true rfl, Nat.le_of_ble_eq_true rfl⟩ ⟨Nat.le_of_ble_eq_true rfl, Nat.le_of_ble_eq_true rfl⟩ (by decide +kernel : decode code 531 = .ok (.invokevirtual 80, 3)) rfl (fun r0 σ0 H1 locs1 hq hP1 hz hkk hS1 => ?_)
  obtain ⟨e1, e2⟩ := rI_eq hq
  subst e1
  have gx := e2
  have hPm1 := va_keep hPm hkk (fun i j x y hi hj => by rw [(wl_ad hi).1, (wl_ad hj).1]; exact fun z => hdis j i (wl_ad hj).2 (wl_ad hi).2 z.symm)
  clear hkk hz hS hPm hPx hq
  have hPx := hP1
  have hPm := hPm1
  have hS := hS1
  clear hP1 hPm1 hS1
  refine lv_aload_n hx hb (by decide +kernel : decode code 534 = .ok (.aload_n 2, 1)) rfl (lv_at hl 2 rfl) ?_
  refine sm_call (Y := LM) (ad := am) (d := 300) (b := 0) (as0 := []) (rest := [.int r]) (ct_LW_MO_different LM) rfl rfl hcm LM_ok (fun v hv => by cases hv) hx hb hml hown htA hN hKK hPm (wl_D _ hDm) hS hA hl.1 (Nat.le_of_ble_eq_true rfl) rfl (Nat.le_of_ble_eq_true rfl) ⟨Nat.le_of_ble_eq_true rfl, Nat.le_of_ble_eq_true rfl⟩ ⟨Nat.le_of_ble_eq_true rfl, Nat.le_of_ble_eq_true rfl⟩ (by decide +kernel : decode code 535 = .ok (.invokevirtual 83, 3)) rfl (fun r0 σ0 H1 locs1 hq hP1 hz hkk hS1 => ?_)
  obtain ⟨e1, e2⟩ := rI_eq hq
  subst e1
  have gm := e2
  have hPx1 := va_keep hPx hkk (fun i j x y hi hj => by rw [(wl_ad hi).1, (wl_ad hj).1]; exact hdis i j (wl_ad hi).2 (wl_ad hj).2)
  clear hkk hz hS hPm hPx hq
  have hPm := hP1
  have hPx := hPx1
  have hS := hS1
  clear hP1 hPx1 hS1
  refine lv_icmp_eq (tgt := 867) hx hb (by decide +kernel : decode code 538 = .ok (.if_icmp .eq 329, 3)) (by decide) (fun _ => ?_) (fun z => absurd rfl z)
  refine lv_iinc (v := nI (i + 4)) (lv' := [(3, .int (nI (i + 4))), (0, .ref b), (1, .ref (ax 0)), (2, .ref (am 0))]) hx hb (by decide +kernel : decode code 867 = .ok (.iinc 3 4, 3)) hl (k := 3) rfl (by rw [← nI_add]; rfl) (by decide) rfl (fun ls hl => ?_)
  refine lv_goto (tgt := 18) hx hb (by decide +kernel : decode code 870 = .ok (.goto (-852), 3)) (by decide) ?_
  exact ih (i + 4) (by omega) (by omega) _ _ (hR2 _ _ gx gm) _ _ ls hPx hPm hS (lv_sub hl [1, 2, 3, 0] rfl)
set_option maxHeartbeats 4000000 in
set_option maxRecDepth 100000 in
theorem law_often (l : Launch) {Rel : sS → sS → Prop} (hL : L ≤ 2048) (C0 : lw_At p s m meth c b L xs) {D : va_G} {cA : ClassId} {ax am : Nat → Nat} (hKK : va_K D classes [(cA, .int)] s) (hDx : va_D (fun q : Nat => s.heap.size ≤ q) (wl cA ax σX0 LX)) (hDm : va_D (fun q : Nat => s.heap.size ≤ q) (wl cA am σM1 LM)) (hdis : ∀ i j : Nat, i < 88 → j < 37 → ax i ≠ am j) (hst : ∀ a1 : Int32, StI Rel y_GF_often y_MO_often [sI a1]) {n i : Nat} (hi : i + 4 ≤ L) (hn : L + 4 - i < n + 1) (ih : ∀ (i : Nat), i + 4 ≤ L + 4 → L + 4 - i < n → ∀ (σx σm : sS), Rel σx σm → ∀ (H : Heap) (locs : List Loc) (ls : Array Slot), va_P D classes (wl cA ax σx LX) H → va_P D classes (wl cA am σm LM) H → va_S (fun q : Nat => s.heap.size ≤ q) s.heap H locs → lv_has ls 4 [(0, .ref b), (1, .ref (ax 0)), (2, .ref (am 0)), (3, .int (nI i))] → W p l e room_1 s m #[Value.ref b] below meth c H locs 125 46410 (lw_Z below #[Value.ref b] s) (F0 m 18 ls []))
    {σx σm : sS} (hR : Rel σx σm) {H : Heap} {locs : List Loc} {ls : Array Slot} (hPx : va_P D classes (wl cA ax σx LX) H) (hPm : va_P D classes (wl cA am σm LM) H) (hS : va_S (fun q : Nat => s.heap.size ≤ q) s.heap H locs) (hl : lv_has ls 4 [(0, .ref b), (1, .ref (ax 0)), (2, .ref (am 0)), (3, .int (nI i))]) : W p l e room_1 s m #[Value.ref b] below meth c H locs 125 46410 (lw_Z below #[Value.ref b] s) (F0 m 543 ls []) := by
  obtain ⟨hx, hb, hr, hml, hown, hts, hX, hbl, hlocks, hgv⟩ := id C0
  have hA : ∀ q : Nat, s.heap.size ≤ q → (fun q : Nat => s.heap.size ≤ q) q := fun _ h => h
  have hbA : ¬ (fun q : Nat => s.heap.size ≤ q) b := Nat.not_le.mpr hbl
  have htA := ALL_law hts
  have hN := NW_law hts
  obtain ⟨r, Px, Pm, hcx, hcm, hR2⟩ := hst (xs (nI i + 1).toNatClampNeg) σx σm hR
  have hin1 : vp_in (nI i + 1) L := by rw [show (1 : Int32) = nI 1 from rfl, nI_add]; exact vp_in_nI (by omega) (by omega)
  refine lv_aload_n hx hb (by decide +kernel : decode code 543 = .ok (.aload_n 1, 1)) rfl (lv_at hl 1 rfl) ?_
  refine lv_aload_n hx hb (by decide +kernel : decode code 544 = .ok (.aload_n 0, 1)) rfl (lv_at hl 0 rfl) ?_
  refine lv_iload_n hx hb (by decide +kernel : decode code 545 = .ok (.iload_n 3, 1)) rfl (lv_at hl 3 rfl) ?_
  refine lv_iconst (v := 1) hx hb (by decide +kernel : decode code 546 = .ok (.iconst 1, 1)) (by decide) ?_
  refine lv_iadd hx hb (by decide +kernel : decode code 547 = .ok (.iadd, 1)) ?_
  refine va_sld hx hb hX hbl hbA hS hin1 (by decide +kernel : decode code 548 = .ok (.iaload, 1)) ?_
  refine sm_call (Y := LX) (ad := ax) (d := 300) (b := 0) (as0 := [sI (xs (nI i + 1).toNatClampNeg)]) (rest := []) (ct_LW_GF_often LX) rfl rfl hcx LX_ok (fun v hv => by simp only [List.mem_cons, List.not_mem_nil, or_false] at hv; rcases hv with rfl <;> trivial) hx hb hml hown htA hN hKK hPx (wl_D _ hDx) hS hA hl.1 (Nat.le_of_ble_eq_true rfl) rfl (Nat.le_of_ble_eq_true rfl) ⟨Nat.le_of_ble_eq_true rfl, Nat.le_of_ble_eq_true rfl⟩ ⟨Nat.le_of_ble_eq_true rfl, Nat.le_of_ble_eq_true rfl⟩ (by decide +kernel : decode code 549 = .ok (.invokevirtual 84, 3)) rfl (fun r0 σ0 H1 locs1 hq hP1 hz hkk hS1 => ?_)
  obtain ⟨e1, e2⟩ := rI_eq hq
  subst e1
  have gx := e2
  have hPm1 := va_keep hPm hkk (fun i j x y hi hj => by rw [(wl_ad hi).1, (wl_ad hj).1]; exact fun z => hdis j i (wl_ad hj).2 (wl_ad hi).2 z.symm)
  clear hkk hz hS hPm hPx hq
  have hPx := hP1
  have hPm := hPm1
  have hS := hS1
  clear hP1 hPm1 hS1
  refine lv_aload_n hx hb (by decide +kernel : decode code 552 = .ok (.aload_n 2, 1)) rfl (lv_at hl 2 rfl) ?_
  refine lv_aload_n hx hb (by decide +kernel : decode code 553 = .ok (.aload_n 0, 1)) rfl (lv_at hl 0 rfl) ?_
  refine lv_iload_n hx hb (by decide +kernel : decode code 554 = .ok (.iload_n 3, 1)) rfl (lv_at hl 3 rfl) ?_
  refine lv_iconst (v := 1) hx hb (by decide +kernel : decode code 555 = .ok (.iconst 1, 1)) (by decide) ?_
  refine lv_iadd hx hb (by decide +kernel : decode code 556 = .ok (.iadd, 1)) ?_
  refine va_sld hx hb hX hbl hbA hS hin1 (by decide +kernel : decode code 557 = .ok (.iaload, 1)) ?_
  refine sm_call (Y := LM) (ad := am) (d := 300) (b := 0) (as0 := [sI (xs (nI i + 1).toNatClampNeg)]) (rest := [.int r]) (ct_LW_MO_often LM) rfl rfl hcm LM_ok (fun v hv => by simp only [List.mem_cons, List.not_mem_nil, or_false] at hv; rcases hv with rfl <;> trivial) hx hb hml hown htA hN hKK hPm (wl_D _ hDm) hS hA hl.1 (Nat.le_of_ble_eq_true rfl) rfl (Nat.le_of_ble_eq_true rfl) ⟨Nat.le_of_ble_eq_true rfl, Nat.le_of_ble_eq_true rfl⟩ ⟨Nat.le_of_ble_eq_true rfl, Nat.le_of_ble_eq_true rfl⟩ (by decide +kernel : decode code 558 = .ok (.invokevirtual 87, 3)) rfl (fun r0 σ0 H1 locs1 hq hP1 hz hkk hS1 => ?_)
  obtain ⟨e1, e2⟩ := rI_eq hq
  subst e1
  have gm := e2
  have hPx1 := va_keep hPx hkk (fun i j x y hi hj => by rw [(wl_ad hi).1, (wl_ad hj).1]; exact hdis i j (wl_ad hi).2 (wl_ad hj).2)
  clear hkk hz hS hPm hPx hq
  have hPm := hP1
  have hPx := hPx1
  have hS := hS1
  clear hP1 hPx1 hS1
  refine lv_icmp_eq (tgt := 867) hx hb (by decide +kernel : decode code 561 = .ok (.if_icmp .eq 306, 3)) (by decide) (fun _ => ?_) (fun z => absurd rfl z)
  refine lv_iinc (v := nI (i + 4)) (lv' := [(3, .int (nI (i + 4))), (0, .ref b), (1, .ref (ax 0)), (2, .ref (am 0))]) hx hb (by decide +kernel : decode code 867 = .ok (.iinc 3 4, 3)) hl (k := 3) rfl (by rw [← nI_add]; rfl) (by decide) rfl (fun ls hl => ?_)
  refine lv_goto (tgt := 18) hx hb (by decide +kernel : decode code 870 = .ok (.goto (-852), 3)) (by decide) ?_
  exact ih (i + 4) (by omega) (by omega) _ _ (hR2 _ _ gx gm) _ _ ls hPx hPm hS (lv_sub hl [1, 2, 3, 0] rfl)
set_option maxHeartbeats 4000000 in
set_option maxRecDepth 100000 in
theorem law_without (l : Launch) {Rel : sS → sS → Prop} (hL : L ≤ 2048) (C0 : lw_At p s m meth c b L xs) {D : va_G} {cA : ClassId} {ax am : Nat → Nat} (hKK : va_K D classes [(cA, .int)] s) (hDx : va_D (fun q : Nat => s.heap.size ≤ q) (wl cA ax σX0 LX)) (hDm : va_D (fun q : Nat => s.heap.size ≤ q) (wl cA am σM1 LM)) (hdis : ∀ i j : Nat, i < 88 → j < 37 → ax i ≠ am j) (hst : ∀ a1 : Int32, StI Rel y_GF_without y_MO_without [sI a1]) {n i : Nat} (hi : i + 4 ≤ L) (hn : L + 4 - i < n + 1) (ih : ∀ (i : Nat), i + 4 ≤ L + 4 → L + 4 - i < n → ∀ (σx σm : sS), Rel σx σm → ∀ (H : Heap) (locs : List Loc) (ls : Array Slot), va_P D classes (wl cA ax σx LX) H → va_P D classes (wl cA am σm LM) H → va_S (fun q : Nat => s.heap.size ≤ q) s.heap H locs → lv_has ls 4 [(0, .ref b), (1, .ref (ax 0)), (2, .ref (am 0)), (3, .int (nI i))] → W p l e room_1 s m #[Value.ref b] below meth c H locs 125 46410 (lw_Z below #[Value.ref b] s) (F0 m 18 ls []))
    {σx σm : sS} (hR : Rel σx σm) {H : Heap} {locs : List Loc} {ls : Array Slot} (hPx : va_P D classes (wl cA ax σx LX) H) (hPm : va_P D classes (wl cA am σm LM) H) (hS : va_S (fun q : Nat => s.heap.size ≤ q) s.heap H locs) (hl : lv_has ls 4 [(0, .ref b), (1, .ref (ax 0)), (2, .ref (am 0)), (3, .int (nI i))]) : W p l e room_1 s m #[Value.ref b] below meth c H locs 125 46410 (lw_Z below #[Value.ref b] s) (F0 m 566 ls []) := by
  obtain ⟨hx, hb, hr, hml, hown, hts, hX, hbl, hlocks, hgv⟩ := id C0
  have hA : ∀ q : Nat, s.heap.size ≤ q → (fun q : Nat => s.heap.size ≤ q) q := fun _ h => h
  have hbA : ¬ (fun q : Nat => s.heap.size ≤ q) b := Nat.not_le.mpr hbl
  have htA := ALL_law hts
  have hN := NW_law hts
  obtain ⟨r, Px, Pm, hcx, hcm, hR2⟩ := hst (xs (nI i + 1).toNatClampNeg) σx σm hR
  have hin1 : vp_in (nI i + 1) L := by rw [show (1 : Int32) = nI 1 from rfl, nI_add]; exact vp_in_nI (by omega) (by omega)
  refine lv_aload_n hx hb (by decide +kernel : decode code 566 = .ok (.aload_n 1, 1)) rfl (lv_at hl 1 rfl) ?_
  refine lv_aload_n hx hb (by decide +kernel : decode code 567 = .ok (.aload_n 0, 1)) rfl (lv_at hl 0 rfl) ?_
  refine lv_iload_n hx hb (by decide +kernel : decode code 568 = .ok (.iload_n 3, 1)) rfl (lv_at hl 3 rfl) ?_
  refine lv_iconst (v := 1) hx hb (by decide +kernel : decode code 569 = .ok (.iconst 1, 1)) (by decide) ?_
  refine lv_iadd hx hb (by decide +kernel : decode code 570 = .ok (.iadd, 1)) ?_
  refine va_sld hx hb hX hbl hbA hS hin1 (by decide +kernel : decode code 571 = .ok (.iaload, 1)) ?_
  refine sm_call (Y := LX) (ad := ax) (d := 300) (b := 0) (as0 := [sI (xs (nI i + 1).toNatClampNeg)]) (rest := []) (ct_LW_GF_without LX) rfl rfl hcx LX_ok (fun v hv => by simp only [List.mem_cons, List.not_mem_nil, or_false] at hv; rcases hv with rfl <;> trivial) hx hb hml hown htA hN hKK hPx (wl_D _ hDx) hS hA hl.1 (Nat.le_of_ble_eq_true rfl) rfl (Nat.le_of_ble_eq_true rfl) ⟨Nat.le_of_ble_eq_true rfl, Nat.le_of_ble_eq_true rfl⟩ ⟨Nat.le_of_ble_eq_true rfl, Nat.le_of_ble_eq_true rfl⟩ (by decide +kernel : decode code 572 = .ok (.invokevirtual 88, 3)) rfl (fun r0 σ0 H1 locs1 hq hP1 hz hkk hS1 => ?_)
  obtain ⟨e1, e2⟩ := rI_eq hq
  subst e1
  have gx := e2
  have hPm1 := va_keep hPm hkk (fun i j x y hi hj => by rw [(wl_ad hi).1, (wl_ad hj).1]; exact fun z => hdis j i (wl_ad hj).2 (wl_ad hi).2 z.symm)
  clear hkk hz hS hPm hPx hq
  have hPx := hP1
  have hPm := hPm1
  have hS := hS1
  clear hP1 hPm1 hS1
  refine lv_aload_n hx hb (by decide +kernel : decode code 575 = .ok (.aload_n 2, 1)) rfl (lv_at hl 2 rfl) ?_
  refine lv_aload_n hx hb (by decide +kernel : decode code 576 = .ok (.aload_n 0, 1)) rfl (lv_at hl 0 rfl) ?_
  refine lv_iload_n hx hb (by decide +kernel : decode code 577 = .ok (.iload_n 3, 1)) rfl (lv_at hl 3 rfl) ?_
  refine lv_iconst (v := 1) hx hb (by decide +kernel : decode code 578 = .ok (.iconst 1, 1)) (by decide) ?_
  refine lv_iadd hx hb (by decide +kernel : decode code 579 = .ok (.iadd, 1)) ?_
  refine va_sld hx hb hX hbl hbA hS hin1 (by decide +kernel : decode code 580 = .ok (.iaload, 1)) ?_
  refine sm_call (Y := LM) (ad := am) (d := 300) (b := 0) (as0 := [sI (xs (nI i + 1).toNatClampNeg)]) (rest := [.int r]) (ct_LW_MO_without LM) rfl rfl hcm LM_ok (fun v hv => by simp only [List.mem_cons, List.not_mem_nil, or_false] at hv; rcases hv with rfl <;> trivial) hx hb hml hown htA hN hKK hPm (wl_D _ hDm) hS hA hl.1 (Nat.le_of_ble_eq_true rfl) rfl (Nat.le_of_ble_eq_true rfl) ⟨Nat.le_of_ble_eq_true rfl, Nat.le_of_ble_eq_true rfl⟩ ⟨Nat.le_of_ble_eq_true rfl, Nat.le_of_ble_eq_true rfl⟩ (by decide +kernel : decode code 581 = .ok (.invokevirtual 91, 3)) rfl (fun r0 σ0 H1 locs1 hq hP1 hz hkk hS1 => ?_)
  obtain ⟨e1, e2⟩ := rI_eq hq
  subst e1
  have gm := e2
  have hPx1 := va_keep hPx hkk (fun i j x y hi hj => by rw [(wl_ad hi).1, (wl_ad hj).1]; exact hdis i j (wl_ad hi).2 (wl_ad hj).2)
  clear hkk hz hS hPm hPx hq
  have hPm := hP1
  have hPx := hPx1
  have hS := hS1
  clear hP1 hPx1 hS1
  refine lv_icmp_eq (tgt := 867) hx hb (by decide +kernel : decode code 584 = .ok (.if_icmp .eq 283, 3)) (by decide) (fun _ => ?_) (fun z => absurd rfl z)
  refine lv_iinc (v := nI (i + 4)) (lv' := [(3, .int (nI (i + 4))), (0, .ref b), (1, .ref (ax 0)), (2, .ref (am 0))]) hx hb (by decide +kernel : decode code 867 = .ok (.iinc 3 4, 3)) hl (k := 3) rfl (by rw [← nI_add]; rfl) (by decide) rfl (fun ls hl => ?_)
  refine lv_goto (tgt := 18) hx hb (by decide +kernel : decode code 870 = .ok (.goto (-852), 3)) (by decide) ?_
  exact ih (i + 4) (by omega) (by omega) _ _ (hR2 _ _ gx gm) _ _ ls hPx hPm hS (lv_sub hl [1, 2, 3, 0] rfl)
set_option maxHeartbeats 4000000 in
set_option maxRecDepth 100000 in
theorem law_mend (l : Launch) {Rel : sS → sS → Prop} (hL : L ≤ 2048) (C0 : lw_At p s m meth c b L xs) {D : va_G} {cA : ClassId} {ax am : Nat → Nat} (hKK : va_K D classes [(cA, .int)] s) (hDx : va_D (fun q : Nat => s.heap.size ≤ q) (wl cA ax σX0 LX)) (hDm : va_D (fun q : Nat => s.heap.size ≤ q) (wl cA am σM1 LM)) (hdis : ∀ i j : Nat, i < 88 → j < 37 → ax i ≠ am j) (hst : ∀ a1 : Int32, StI Rel y_GF_mend y_MO_mend [sI a1]) {n i : Nat} (hi : i + 4 ≤ L) (hn : L + 4 - i < n + 1) (ih : ∀ (i : Nat), i + 4 ≤ L + 4 → L + 4 - i < n → ∀ (σx σm : sS), Rel σx σm → ∀ (H : Heap) (locs : List Loc) (ls : Array Slot), va_P D classes (wl cA ax σx LX) H → va_P D classes (wl cA am σm LM) H → va_S (fun q : Nat => s.heap.size ≤ q) s.heap H locs → lv_has ls 4 [(0, .ref b), (1, .ref (ax 0)), (2, .ref (am 0)), (3, .int (nI i))] → W p l e room_1 s m #[Value.ref b] below meth c H locs 125 46410 (lw_Z below #[Value.ref b] s) (F0 m 18 ls []))
    {σx σm : sS} (hR : Rel σx σm) {H : Heap} {locs : List Loc} {ls : Array Slot} (hPx : va_P D classes (wl cA ax σx LX) H) (hPm : va_P D classes (wl cA am σm LM) H) (hS : va_S (fun q : Nat => s.heap.size ≤ q) s.heap H locs) (hl : lv_has ls 4 [(0, .ref b), (1, .ref (ax 0)), (2, .ref (am 0)), (3, .int (nI i))]) : W p l e room_1 s m #[Value.ref b] below meth c H locs 125 46410 (lw_Z below #[Value.ref b] s) (F0 m 589 ls []) := by
  obtain ⟨hx, hb, hr, hml, hown, hts, hX, hbl, hlocks, hgv⟩ := id C0
  have hA : ∀ q : Nat, s.heap.size ≤ q → (fun q : Nat => s.heap.size ≤ q) q := fun _ h => h
  have hbA : ¬ (fun q : Nat => s.heap.size ≤ q) b := Nat.not_le.mpr hbl
  have htA := ALL_law hts
  have hN := NW_law hts
  obtain ⟨r, Px, Pm, hcx, hcm, hR2⟩ := hst (xs (nI i + 1).toNatClampNeg) σx σm hR
  have hin1 : vp_in (nI i + 1) L := by rw [show (1 : Int32) = nI 1 from rfl, nI_add]; exact vp_in_nI (by omega) (by omega)
  refine lv_aload_n hx hb (by decide +kernel : decode code 589 = .ok (.aload_n 1, 1)) rfl (lv_at hl 1 rfl) ?_
  refine lv_aload_n hx hb (by decide +kernel : decode code 590 = .ok (.aload_n 0, 1)) rfl (lv_at hl 0 rfl) ?_
  refine lv_iload_n hx hb (by decide +kernel : decode code 591 = .ok (.iload_n 3, 1)) rfl (lv_at hl 3 rfl) ?_
  refine lv_iconst (v := 1) hx hb (by decide +kernel : decode code 592 = .ok (.iconst 1, 1)) (by decide) ?_
  refine lv_iadd hx hb (by decide +kernel : decode code 593 = .ok (.iadd, 1)) ?_
  refine va_sld hx hb hX hbl hbA hS hin1 (by decide +kernel : decode code 594 = .ok (.iaload, 1)) ?_
  refine sm_call (Y := LX) (ad := ax) (d := 300) (b := 0) (as0 := [sI (xs (nI i + 1).toNatClampNeg)]) (rest := []) (ct_LW_GF_mend LX) rfl rfl hcx LX_ok (fun v hv => by simp only [List.mem_cons, List.not_mem_nil, or_false] at hv; rcases hv with rfl <;> trivial) hx hb hml hown htA hN hKK hPx (wl_D _ hDx) hS hA hl.1 (Nat.le_of_ble_eq_true rfl) rfl (Nat.le_of_ble_eq_true rfl) ⟨Nat.le_of_ble_eq_true rfl, Nat.le_of_ble_eq_true rfl⟩ ⟨Nat.le_of_ble_eq_true rfl, Nat.le_of_ble_eq_true rfl⟩ (by decide +kernel : decode code 595 = .ok (.invokevirtual 92, 3)) rfl (fun r0 σ0 H1 locs1 hq hP1 hz hkk hS1 => ?_)
  obtain ⟨e1, e2⟩ := rI_eq hq
  subst e1
  have gx := e2
  have hPm1 := va_keep hPm hkk (fun i j x y hi hj => by rw [(wl_ad hi).1, (wl_ad hj).1]; exact fun z => hdis j i (wl_ad hj).2 (wl_ad hi).2 z.symm)
  clear hkk hz hS hPm hPx hq
  have hPx := hP1
  have hPm := hPm1
  have hS := hS1
  clear hP1 hPm1 hS1
  refine lv_aload_n hx hb (by decide +kernel : decode code 598 = .ok (.aload_n 2, 1)) rfl (lv_at hl 2 rfl) ?_
  refine lv_aload_n hx hb (by decide +kernel : decode code 599 = .ok (.aload_n 0, 1)) rfl (lv_at hl 0 rfl) ?_
  refine lv_iload_n hx hb (by decide +kernel : decode code 600 = .ok (.iload_n 3, 1)) rfl (lv_at hl 3 rfl) ?_
  refine lv_iconst (v := 1) hx hb (by decide +kernel : decode code 601 = .ok (.iconst 1, 1)) (by decide) ?_
  refine lv_iadd hx hb (by decide +kernel : decode code 602 = .ok (.iadd, 1)) ?_
  refine va_sld hx hb hX hbl hbA hS hin1 (by decide +kernel : decode code 603 = .ok (.iaload, 1)) ?_
  refine sm_call (Y := LM) (ad := am) (d := 300) (b := 0) (as0 := [sI (xs (nI i + 1).toNatClampNeg)]) (rest := [.int r]) (ct_LW_MO_mend LM) rfl rfl hcm LM_ok (fun v hv => by simp only [List.mem_cons, List.not_mem_nil, or_false] at hv; rcases hv with rfl <;> trivial) hx hb hml hown htA hN hKK hPm (wl_D _ hDm) hS hA hl.1 (Nat.le_of_ble_eq_true rfl) rfl (Nat.le_of_ble_eq_true rfl) ⟨Nat.le_of_ble_eq_true rfl, Nat.le_of_ble_eq_true rfl⟩ ⟨Nat.le_of_ble_eq_true rfl, Nat.le_of_ble_eq_true rfl⟩ (by decide +kernel : decode code 604 = .ok (.invokevirtual 95, 3)) rfl (fun r0 σ0 H1 locs1 hq hP1 hz hkk hS1 => ?_)
  obtain ⟨e1, e2⟩ := rI_eq hq
  subst e1
  have gm := e2
  have hPx1 := va_keep hPx hkk (fun i j x y hi hj => by rw [(wl_ad hi).1, (wl_ad hj).1]; exact hdis i j (wl_ad hi).2 (wl_ad hj).2)
  clear hkk hz hS hPm hPx hq
  have hPm := hP1
  have hPx := hPx1
  have hS := hS1
  clear hP1 hPx1 hS1
  refine lv_icmp_eq (tgt := 867) hx hb (by decide +kernel : decode code 607 = .ok (.if_icmp .eq 260, 3)) (by decide) (fun _ => ?_) (fun z => absurd rfl z)
  refine lv_iinc (v := nI (i + 4)) (lv' := [(3, .int (nI (i + 4))), (0, .ref b), (1, .ref (ax 0)), (2, .ref (am 0))]) hx hb (by decide +kernel : decode code 867 = .ok (.iinc 3 4, 3)) hl (k := 3) rfl (by rw [← nI_add]; rfl) (by decide) rfl (fun ls hl => ?_)
  refine lv_goto (tgt := 18) hx hb (by decide +kernel : decode code 870 = .ok (.goto (-852), 3)) (by decide) ?_
  exact ih (i + 4) (by omega) (by omega) _ _ (hR2 _ _ gx gm) _ _ ls hPx hPm hS (lv_sub hl [1, 2, 3, 0] rfl)
set_option maxHeartbeats 4000000 in
set_option maxRecDepth 100000 in
theorem law_range (l : Launch) {Rel : sS → sS → Prop} (hL : L ≤ 2048) (C0 : lw_At p s m meth c b L xs) {D : va_G} {cA : ClassId} {ax am : Nat → Nat} (hKK : va_K D classes [(cA, .int)] s) (hDx : va_D (fun q : Nat => s.heap.size ≤ q) (wl cA ax σX0 LX)) (hDm : va_D (fun q : Nat => s.heap.size ≤ q) (wl cA am σM1 LM)) (hdis : ∀ i j : Nat, i < 88 → j < 37 → ax i ≠ am j) (hst : ∀ a1 a2 : Int32, StI Rel y_GF_range y_MO_range [sI a1, sI a2]) {n i : Nat} (hi : i + 4 ≤ L) (hn : L + 4 - i < n + 1) (ih : ∀ (i : Nat), i + 4 ≤ L + 4 → L + 4 - i < n → ∀ (σx σm : sS), Rel σx σm → ∀ (H : Heap) (locs : List Loc) (ls : Array Slot), va_P D classes (wl cA ax σx LX) H → va_P D classes (wl cA am σm LM) H → va_S (fun q : Nat => s.heap.size ≤ q) s.heap H locs → lv_has ls 4 [(0, .ref b), (1, .ref (ax 0)), (2, .ref (am 0)), (3, .int (nI i))] → W p l e room_1 s m #[Value.ref b] below meth c H locs 125 46410 (lw_Z below #[Value.ref b] s) (F0 m 18 ls []))
    {σx σm : sS} (hR : Rel σx σm) {H : Heap} {locs : List Loc} {ls : Array Slot} (hPx : va_P D classes (wl cA ax σx LX) H) (hPm : va_P D classes (wl cA am σm LM) H) (hS : va_S (fun q : Nat => s.heap.size ≤ q) s.heap H locs) (hl : lv_has ls 4 [(0, .ref b), (1, .ref (ax 0)), (2, .ref (am 0)), (3, .int (nI i))]) : W p l e room_1 s m #[Value.ref b] below meth c H locs 125 46410 (lw_Z below #[Value.ref b] s) (F0 m 612 ls []) := by
  obtain ⟨hx, hb, hr, hml, hown, hts, hX, hbl, hlocks, hgv⟩ := id C0
  have hA : ∀ q : Nat, s.heap.size ≤ q → (fun q : Nat => s.heap.size ≤ q) q := fun _ h => h
  have hbA : ¬ (fun q : Nat => s.heap.size ≤ q) b := Nat.not_le.mpr hbl
  have htA := ALL_law hts
  have hN := NW_law hts
  obtain ⟨r, Px, Pm, hcx, hcm, hR2⟩ := hst (xs (nI i + 1).toNatClampNeg) (xs (nI i + 2).toNatClampNeg) σx σm hR
  have hin1 : vp_in (nI i + 1) L := by rw [show (1 : Int32) = nI 1 from rfl, nI_add]; exact vp_in_nI (by omega) (by omega)
  have hin2 : vp_in (nI i + 2) L := by rw [show (2 : Int32) = nI 2 from rfl, nI_add]; exact vp_in_nI (by omega) (by omega)
  refine lv_aload_n hx hb (by decide +kernel : decode code 612 = .ok (.aload_n 1, 1)) rfl (lv_at hl 1 rfl) ?_
  refine lv_aload_n hx hb (by decide +kernel : decode code 613 = .ok (.aload_n 0, 1)) rfl (lv_at hl 0 rfl) ?_
  refine lv_iload_n hx hb (by decide +kernel : decode code 614 = .ok (.iload_n 3, 1)) rfl (lv_at hl 3 rfl) ?_
  refine lv_iconst (v := 1) hx hb (by decide +kernel : decode code 615 = .ok (.iconst 1, 1)) (by decide) ?_
  refine lv_iadd hx hb (by decide +kernel : decode code 616 = .ok (.iadd, 1)) ?_
  refine va_sld hx hb hX hbl hbA hS hin1 (by decide +kernel : decode code 617 = .ok (.iaload, 1)) ?_
  refine lv_aload_n hx hb (by decide +kernel : decode code 618 = .ok (.aload_n 0, 1)) rfl (lv_at hl 0 rfl) ?_
  refine lv_iload_n hx hb (by decide +kernel : decode code 619 = .ok (.iload_n 3, 1)) rfl (lv_at hl 3 rfl) ?_
  refine lv_iconst (v := 2) hx hb (by decide +kernel : decode code 620 = .ok (.iconst 2, 1)) (by decide) ?_
  refine lv_iadd hx hb (by decide +kernel : decode code 621 = .ok (.iadd, 1)) ?_
  refine va_sld hx hb hX hbl hbA hS hin2 (by decide +kernel : decode code 622 = .ok (.iaload, 1)) ?_
  refine sm_call (Y := LX) (ad := ax) (d := 300) (b := 0) (as0 := [sI (xs (nI i + 1).toNatClampNeg), sI (xs (nI i + 2).toNatClampNeg)]) (rest := []) (ct_LW_GF_range LX) rfl rfl hcx LX_ok (fun v hv => by simp only [List.mem_cons, List.not_mem_nil, or_false] at hv; rcases hv with rfl | rfl <;> trivial) hx hb hml hown htA hN hKK hPx (wl_D _ hDx) hS hA hl.1 (Nat.le_of_ble_eq_true rfl) rfl (Nat.le_of_ble_eq_true rfl) ⟨Nat.le_of_ble_eq_true rfl, Nat.le_of_ble_eq_true rfl⟩ ⟨Nat.le_of_ble_eq_true rfl, Nat.le_of_ble_eq_true rfl⟩ (by decide +kernel : decode code 623 = .ok (.invokevirtual 96, 3)) rfl (fun r0 σ0 H1 locs1 hq hP1 hz hkk hS1 => ?_)
  obtain ⟨e1, e2⟩ := rI_eq hq
  subst e1
  have gx := e2
  have hPm1 := va_keep hPm hkk (fun i j x y hi hj => by rw [(wl_ad hi).1, (wl_ad hj).1]; exact fun z => hdis j i (wl_ad hj).2 (wl_ad hi).2 z.symm)
  clear hkk hz hS hPm hPx hq
  have hPx := hP1
  have hPm := hPm1
  have hS := hS1
  clear hP1 hPm1 hS1
  refine lv_aload_n hx hb (by decide +kernel : decode code 626 = .ok (.aload_n 2, 1)) rfl (lv_at hl 2 rfl) ?_
  refine lv_aload_n hx hb (by decide +kernel : decode code 627 = .ok (.aload_n 0, 1)) rfl (lv_at hl 0 rfl) ?_
  refine lv_iload_n hx hb (by decide +kernel : decode code 628 = .ok (.iload_n 3, 1)) rfl (lv_at hl 3 rfl) ?_
  refine lv_iconst (v := 1) hx hb (by decide +kernel : decode code 629 = .ok (.iconst 1, 1)) (by decide) ?_
  refine lv_iadd hx hb (by decide +kernel : decode code 630 = .ok (.iadd, 1)) ?_
  refine va_sld hx hb hX hbl hbA hS hin1 (by decide +kernel : decode code 631 = .ok (.iaload, 1)) ?_
  refine lv_aload_n hx hb (by decide +kernel : decode code 632 = .ok (.aload_n 0, 1)) rfl (lv_at hl 0 rfl) ?_
  refine lv_iload_n hx hb (by decide +kernel : decode code 633 = .ok (.iload_n 3, 1)) rfl (lv_at hl 3 rfl) ?_
  refine lv_iconst (v := 2) hx hb (by decide +kernel : decode code 634 = .ok (.iconst 2, 1)) (by decide) ?_
  refine lv_iadd hx hb (by decide +kernel : decode code 635 = .ok (.iadd, 1)) ?_
  refine va_sld hx hb hX hbl hbA hS hin2 (by decide +kernel : decode code 636 = .ok (.iaload, 1)) ?_
  refine sm_call (Y := LM) (ad := am) (d := 300) (b := 0) (as0 := [sI (xs (nI i + 1).toNatClampNeg), sI (xs (nI i + 2).toNatClampNeg)]) (rest := [.int r]) (ct_LW_MO_range LM) rfl rfl hcm LM_ok (fun v hv => by simp only [List.mem_cons, List.not_mem_nil, or_false] at hv; rcases hv with rfl | rfl <;> trivial) hx hb hml hown htA hN hKK hPm (wl_D _ hDm) hS hA hl.1 (Nat.le_of_ble_eq_true rfl) rfl (Nat.le_of_ble_eq_true rfl) ⟨Nat.le_of_ble_eq_true rfl, Nat.le_of_ble_eq_true rfl⟩ ⟨Nat.le_of_ble_eq_true rfl, Nat.le_of_ble_eq_true rfl⟩ (by decide +kernel : decode code 637 = .ok (.invokevirtual 99, 3)) rfl (fun r0 σ0 H1 locs1 hq hP1 hz hkk hS1 => ?_)
  obtain ⟨e1, e2⟩ := rI_eq hq
  subst e1
  have gm := e2
  have hPx1 := va_keep hPx hkk (fun i j x y hi hj => by rw [(wl_ad hi).1, (wl_ad hj).1]; exact hdis i j (wl_ad hi).2 (wl_ad hj).2)
  clear hkk hz hS hPm hPx hq
  have hPm := hP1
  have hPx := hPx1
  have hS := hS1
  clear hP1 hPx1 hS1
  refine lv_icmp_eq (tgt := 867) hx hb (by decide +kernel : decode code 640 = .ok (.if_icmp .eq 227, 3)) (by decide) (fun _ => ?_) (fun z => absurd rfl z)
  refine lv_iinc (v := nI (i + 4)) (lv' := [(3, .int (nI (i + 4))), (0, .ref b), (1, .ref (ax 0)), (2, .ref (am 0))]) hx hb (by decide +kernel : decode code 867 = .ok (.iinc 3 4, 3)) hl (k := 3) rfl (by rw [← nI_add]; rfl) (by decide) rfl (fun ls hl => ?_)
  refine lv_goto (tgt := 18) hx hb (by decide +kernel : decode code 870 = .ok (.goto (-852), 3)) (by decide) ?_
  exact ih (i + 4) (by omega) (by omega) _ _ (hR2 _ _ gx gm) _ _ ls hPx hPm hS (lv_sub hl [1, 2, 3, 0] rfl)
set_option maxHeartbeats 4000000 in
set_option maxRecDepth 100000 in
theorem law_loss (l : Launch) {Rel : sS → sS → Prop} (hL : L ≤ 2048) (C0 : lw_At p s m meth c b L xs) {D : va_G} {cA : ClassId} {ax am : Nat → Nat} (hKK : va_K D classes [(cA, .int)] s) (hDx : va_D (fun q : Nat => s.heap.size ≤ q) (wl cA ax σX0 LX)) (hDm : va_D (fun q : Nat => s.heap.size ≤ q) (wl cA am σM1 LM)) (hdis : ∀ i j : Nat, i < 88 → j < 37 → ax i ≠ am j) (hst : ∀ a1 a2 : Int32, StJ Rel y_GF_loss y_MO_loss [sI a1, sI a2]) {n i : Nat} (hi : i + 4 ≤ L) (hn : L + 4 - i < n + 1) (ih : ∀ (i : Nat), i + 4 ≤ L + 4 → L + 4 - i < n → ∀ (σx σm : sS), Rel σx σm → ∀ (H : Heap) (locs : List Loc) (ls : Array Slot), va_P D classes (wl cA ax σx LX) H → va_P D classes (wl cA am σm LM) H → va_S (fun q : Nat => s.heap.size ≤ q) s.heap H locs → lv_has ls 4 [(0, .ref b), (1, .ref (ax 0)), (2, .ref (am 0)), (3, .int (nI i))] → W p l e room_1 s m #[Value.ref b] below meth c H locs 125 46410 (lw_Z below #[Value.ref b] s) (F0 m 18 ls []))
    {σx σm : sS} (hR : Rel σx σm) {H : Heap} {locs : List Loc} {ls : Array Slot} (hPx : va_P D classes (wl cA ax σx LX) H) (hPm : va_P D classes (wl cA am σm LM) H) (hS : va_S (fun q : Nat => s.heap.size ≤ q) s.heap H locs) (hl : lv_has ls 4 [(0, .ref b), (1, .ref (ax 0)), (2, .ref (am 0)), (3, .int (nI i))]) : W p l e room_1 s m #[Value.ref b] below meth c H locs 125 46410 (lw_Z below #[Value.ref b] s) (F0 m 645 ls []) := by
  obtain ⟨hx, hb, hr, hml, hown, hts, hX, hbl, hlocks, hgv⟩ := id C0
  have hA : ∀ q : Nat, s.heap.size ≤ q → (fun q : Nat => s.heap.size ≤ q) q := fun _ h => h
  have hbA : ¬ (fun q : Nat => s.heap.size ≤ q) b := Nat.not_le.mpr hbl
  have htA := ALL_law hts
  have hN := NW_law hts
  obtain ⟨r, Px, Pm, hcx, hcm, hR2⟩ := hst (xs (nI i + 1).toNatClampNeg) (xs (nI i + 2).toNatClampNeg) σx σm hR
  have hin1 : vp_in (nI i + 1) L := by rw [show (1 : Int32) = nI 1 from rfl, nI_add]; exact vp_in_nI (by omega) (by omega)
  have hin2 : vp_in (nI i + 2) L := by rw [show (2 : Int32) = nI 2 from rfl, nI_add]; exact vp_in_nI (by omega) (by omega)
  refine lv_aload_n hx hb (by decide +kernel : decode code 645 = .ok (.aload_n 1, 1)) rfl (lv_at hl 1 rfl) ?_
  refine lv_aload_n hx hb (by decide +kernel : decode code 646 = .ok (.aload_n 0, 1)) rfl (lv_at hl 0 rfl) ?_
  refine lv_iload_n hx hb (by decide +kernel : decode code 647 = .ok (.iload_n 3, 1)) rfl (lv_at hl 3 rfl) ?_
  refine lv_iconst (v := 1) hx hb (by decide +kernel : decode code 648 = .ok (.iconst 1, 1)) (by decide) ?_
  refine lv_iadd hx hb (by decide +kernel : decode code 649 = .ok (.iadd, 1)) ?_
  refine va_sld hx hb hX hbl hbA hS hin1 (by decide +kernel : decode code 650 = .ok (.iaload, 1)) ?_
  refine lv_aload_n hx hb (by decide +kernel : decode code 651 = .ok (.aload_n 0, 1)) rfl (lv_at hl 0 rfl) ?_
  refine lv_iload_n hx hb (by decide +kernel : decode code 652 = .ok (.iload_n 3, 1)) rfl (lv_at hl 3 rfl) ?_
  refine lv_iconst (v := 2) hx hb (by decide +kernel : decode code 653 = .ok (.iconst 2, 1)) (by decide) ?_
  refine lv_iadd hx hb (by decide +kernel : decode code 654 = .ok (.iadd, 1)) ?_
  refine va_sld hx hb hX hbl hbA hS hin2 (by decide +kernel : decode code 655 = .ok (.iaload, 1)) ?_
  refine sm_call (Y := LX) (ad := ax) (d := 300) (b := 0) (as0 := [sI (xs (nI i + 1).toNatClampNeg), sI (xs (nI i + 2).toNatClampNeg)]) (rest := []) (ct_LW_GF_loss LX) rfl rfl hcx LX_ok (fun v hv => by simp only [List.mem_cons, List.not_mem_nil, or_false] at hv; rcases hv with rfl | rfl <;> trivial) hx hb hml hown htA hN hKK hPx (wl_D _ hDx) hS hA hl.1 (Nat.le_of_ble_eq_true rfl) rfl (Nat.le_of_ble_eq_true rfl) ⟨Nat.le_of_ble_eq_true rfl, Nat.le_of_ble_eq_true rfl⟩ ⟨Nat.le_of_ble_eq_true rfl, Nat.le_of_ble_eq_true rfl⟩ (by decide +kernel : decode code 656 = .ok (.invokevirtual 100, 3)) rfl (fun r0 σ0 H1 locs1 hq hP1 hz hkk hS1 => ?_)
  obtain ⟨e1, e2⟩ := rJ_eq hq
  subst e1
  have gx := e2
  have hPm1 := va_keep hPm hkk (fun i j x y hi hj => by rw [(wl_ad hi).1, (wl_ad hj).1]; exact fun z => hdis j i (wl_ad hj).2 (wl_ad hi).2 z.symm)
  clear hkk hz hS hPm hPx hq
  have hPx := hP1
  have hPm := hPm1
  have hS := hS1
  clear hP1 hPm1 hS1
  refine lv_aload_n hx hb (by decide +kernel : decode code 659 = .ok (.aload_n 2, 1)) rfl (lv_at hl 2 rfl) ?_
  refine lv_aload_n hx hb (by decide +kernel : decode code 660 = .ok (.aload_n 0, 1)) rfl (lv_at hl 0 rfl) ?_
  refine lv_iload_n hx hb (by decide +kernel : decode code 661 = .ok (.iload_n 3, 1)) rfl (lv_at hl 3 rfl) ?_
  refine lv_iconst (v := 1) hx hb (by decide +kernel : decode code 662 = .ok (.iconst 1, 1)) (by decide) ?_
  refine lv_iadd hx hb (by decide +kernel : decode code 663 = .ok (.iadd, 1)) ?_
  refine va_sld hx hb hX hbl hbA hS hin1 (by decide +kernel : decode code 664 = .ok (.iaload, 1)) ?_
  refine lv_aload_n hx hb (by decide +kernel : decode code 665 = .ok (.aload_n 0, 1)) rfl (lv_at hl 0 rfl) ?_
  refine lv_iload_n hx hb (by decide +kernel : decode code 666 = .ok (.iload_n 3, 1)) rfl (lv_at hl 3 rfl) ?_
  refine lv_iconst (v := 2) hx hb (by decide +kernel : decode code 667 = .ok (.iconst 2, 1)) (by decide) ?_
  refine lv_iadd hx hb (by decide +kernel : decode code 668 = .ok (.iadd, 1)) ?_
  refine va_sld hx hb hX hbl hbA hS hin2 (by decide +kernel : decode code 669 = .ok (.iaload, 1)) ?_
  refine sm_call (Y := LM) (ad := am) (d := 300) (b := 0) (as0 := [sI (xs (nI i + 1).toNatClampNeg), sI (xs (nI i + 2).toNatClampNeg)]) (rest := [.long r]) (ct_LW_MO_loss LM) rfl rfl hcm LM_ok (fun v hv => by simp only [List.mem_cons, List.not_mem_nil, or_false] at hv; rcases hv with rfl | rfl <;> trivial) hx hb hml hown htA hN hKK hPm (wl_D _ hDm) hS hA hl.1 (Nat.le_of_ble_eq_true rfl) rfl (Nat.le_of_ble_eq_true rfl) ⟨Nat.le_of_ble_eq_true rfl, Nat.le_of_ble_eq_true rfl⟩ ⟨Nat.le_of_ble_eq_true rfl, Nat.le_of_ble_eq_true rfl⟩ (by decide +kernel : decode code 670 = .ok (.invokevirtual 104, 3)) rfl (fun r0 σ0 H1 locs1 hq hP1 hz hkk hS1 => ?_)
  obtain ⟨e1, e2⟩ := rJ_eq hq
  subst e1
  have gm := e2
  have hPx1 := va_keep hPx hkk (fun i j x y hi hj => by rw [(wl_ad hi).1, (wl_ad hj).1]; exact hdis i j (wl_ad hi).2 (wl_ad hj).2)
  clear hkk hz hS hPm hPx hq
  have hPm := hP1
  have hPx := hPx1
  have hS := hS1
  clear hP1 hPx1 hS1
  refine W.lcmp hx hb (by decide +kernel : decode code 673 = .ok (.lcmp, 1)) ?_
  have elc : lg_cmp r r = 0 := by simp [lg_cmp]
  rw [elc]
  refine lv_if_eq (tgt := 867) hx hb (by decide +kernel : decode code 674 = .ok (.ifCond .eq 193, 3)) (by decide) (fun _ => ?_) (fun z => absurd rfl z)
  refine lv_iinc (v := nI (i + 4)) (lv' := [(3, .int (nI (i + 4))), (0, .ref b), (1, .ref (ax 0)), (2, .ref (am 0))]) hx hb (by decide +kernel : decode code 867 = .ok (.iinc 3 4, 3)) hl (k := 3) rfl (by rw [← nI_add]; rfl) (by decide) rfl (fun ls hl => ?_)
  refine lv_goto (tgt := 18) hx hb (by decide +kernel : decode code 870 = .ok (.goto (-852), 3)) (by decide) ?_
  exact ih (i + 4) (by omega) (by omega) _ _ (hR2 _ _ gx gm) _ _ ls hPx hPm hS (lv_sub hl [1, 2, 3, 0] rfl)
set_option maxHeartbeats 4000000 in
set_option maxRecDepth 100000 in
theorem law_mean (l : Launch) {Rel : sS → sS → Prop} (hL : L ≤ 2048) (C0 : lw_At p s m meth c b L xs) {D : va_G} {cA : ClassId} {ax am : Nat → Nat} (hKK : va_K D classes [(cA, .int)] s) (hDx : va_D (fun q : Nat => s.heap.size ≤ q) (wl cA ax σX0 LX)) (hDm : va_D (fun q : Nat => s.heap.size ≤ q) (wl cA am σM1 LM)) (hdis : ∀ i j : Nat, i < 88 → j < 37 → ax i ≠ am j) (hst : ∀ a1 : Int32, StJ Rel y_GF_mean y_MO_mean [sI a1]) {n i : Nat} (hi : i + 4 ≤ L) (hn : L + 4 - i < n + 1) (ih : ∀ (i : Nat), i + 4 ≤ L + 4 → L + 4 - i < n → ∀ (σx σm : sS), Rel σx σm → ∀ (H : Heap) (locs : List Loc) (ls : Array Slot), va_P D classes (wl cA ax σx LX) H → va_P D classes (wl cA am σm LM) H → va_S (fun q : Nat => s.heap.size ≤ q) s.heap H locs → lv_has ls 4 [(0, .ref b), (1, .ref (ax 0)), (2, .ref (am 0)), (3, .int (nI i))] → W p l e room_1 s m #[Value.ref b] below meth c H locs 125 46410 (lw_Z below #[Value.ref b] s) (F0 m 18 ls []))
    {σx σm : sS} (hR : Rel σx σm) {H : Heap} {locs : List Loc} {ls : Array Slot} (hPx : va_P D classes (wl cA ax σx LX) H) (hPm : va_P D classes (wl cA am σm LM) H) (hS : va_S (fun q : Nat => s.heap.size ≤ q) s.heap H locs) (hl : lv_has ls 4 [(0, .ref b), (1, .ref (ax 0)), (2, .ref (am 0)), (3, .int (nI i))]) : W p l e room_1 s m #[Value.ref b] below meth c H locs 125 46410 (lw_Z below #[Value.ref b] s) (F0 m 679 ls []) := by
  obtain ⟨hx, hb, hr, hml, hown, hts, hX, hbl, hlocks, hgv⟩ := id C0
  have hA : ∀ q : Nat, s.heap.size ≤ q → (fun q : Nat => s.heap.size ≤ q) q := fun _ h => h
  have hbA : ¬ (fun q : Nat => s.heap.size ≤ q) b := Nat.not_le.mpr hbl
  have htA := ALL_law hts
  have hN := NW_law hts
  obtain ⟨r, Px, Pm, hcx, hcm, hR2⟩ := hst (xs (nI i + 1).toNatClampNeg) σx σm hR
  have hin1 : vp_in (nI i + 1) L := by rw [show (1 : Int32) = nI 1 from rfl, nI_add]; exact vp_in_nI (by omega) (by omega)
  refine lv_aload_n hx hb (by decide +kernel : decode code 679 = .ok (.aload_n 1, 1)) rfl (lv_at hl 1 rfl) ?_
  refine lv_aload_n hx hb (by decide +kernel : decode code 680 = .ok (.aload_n 0, 1)) rfl (lv_at hl 0 rfl) ?_
  refine lv_iload_n hx hb (by decide +kernel : decode code 681 = .ok (.iload_n 3, 1)) rfl (lv_at hl 3 rfl) ?_
  refine lv_iconst (v := 1) hx hb (by decide +kernel : decode code 682 = .ok (.iconst 1, 1)) (by decide) ?_
  refine lv_iadd hx hb (by decide +kernel : decode code 683 = .ok (.iadd, 1)) ?_
  refine va_sld hx hb hX hbl hbA hS hin1 (by decide +kernel : decode code 684 = .ok (.iaload, 1)) ?_
  refine sm_call (Y := LX) (ad := ax) (d := 300) (b := 0) (as0 := [sI (xs (nI i + 1).toNatClampNeg)]) (rest := []) (ct_LW_GF_mean LX) rfl rfl hcx LX_ok (fun v hv => by simp only [List.mem_cons, List.not_mem_nil, or_false] at hv; rcases hv with rfl <;> trivial) hx hb hml hown htA hN hKK hPx (wl_D _ hDx) hS hA hl.1 (Nat.le_of_ble_eq_true rfl) rfl (Nat.le_of_ble_eq_true rfl) ⟨Nat.le_of_ble_eq_true rfl, Nat.le_of_ble_eq_true rfl⟩ ⟨Nat.le_of_ble_eq_true rfl, Nat.le_of_ble_eq_true rfl⟩ (by decide +kernel : decode code 685 = .ok (.invokevirtual 105, 3)) rfl (fun r0 σ0 H1 locs1 hq hP1 hz hkk hS1 => ?_)
  obtain ⟨e1, e2⟩ := rJ_eq hq
  subst e1
  have gx := e2
  have hPm1 := va_keep hPm hkk (fun i j x y hi hj => by rw [(wl_ad hi).1, (wl_ad hj).1]; exact fun z => hdis j i (wl_ad hj).2 (wl_ad hi).2 z.symm)
  clear hkk hz hS hPm hPx hq
  have hPx := hP1
  have hPm := hPm1
  have hS := hS1
  clear hP1 hPm1 hS1
  refine lv_aload_n hx hb (by decide +kernel : decode code 688 = .ok (.aload_n 2, 1)) rfl (lv_at hl 2 rfl) ?_
  refine lv_aload_n hx hb (by decide +kernel : decode code 689 = .ok (.aload_n 0, 1)) rfl (lv_at hl 0 rfl) ?_
  refine lv_iload_n hx hb (by decide +kernel : decode code 690 = .ok (.iload_n 3, 1)) rfl (lv_at hl 3 rfl) ?_
  refine lv_iconst (v := 1) hx hb (by decide +kernel : decode code 691 = .ok (.iconst 1, 1)) (by decide) ?_
  refine lv_iadd hx hb (by decide +kernel : decode code 692 = .ok (.iadd, 1)) ?_
  refine va_sld hx hb hX hbl hbA hS hin1 (by decide +kernel : decode code 693 = .ok (.iaload, 1)) ?_
  refine sm_call (Y := LM) (ad := am) (d := 300) (b := 0) (as0 := [sI (xs (nI i + 1).toNatClampNeg)]) (rest := [.long r]) (ct_LW_MO_mean LM) rfl rfl hcm LM_ok (fun v hv => by simp only [List.mem_cons, List.not_mem_nil, or_false] at hv; rcases hv with rfl <;> trivial) hx hb hml hown htA hN hKK hPm (wl_D _ hDm) hS hA hl.1 (Nat.le_of_ble_eq_true rfl) rfl (Nat.le_of_ble_eq_true rfl) ⟨Nat.le_of_ble_eq_true rfl, Nat.le_of_ble_eq_true rfl⟩ ⟨Nat.le_of_ble_eq_true rfl, Nat.le_of_ble_eq_true rfl⟩ (by decide +kernel : decode code 694 = .ok (.invokevirtual 109, 3)) rfl (fun r0 σ0 H1 locs1 hq hP1 hz hkk hS1 => ?_)
  obtain ⟨e1, e2⟩ := rJ_eq hq
  subst e1
  have gm := e2
  have hPx1 := va_keep hPx hkk (fun i j x y hi hj => by rw [(wl_ad hi).1, (wl_ad hj).1]; exact hdis i j (wl_ad hi).2 (wl_ad hj).2)
  clear hkk hz hS hPm hPx hq
  have hPm := hP1
  have hPx := hPx1
  have hS := hS1
  clear hP1 hPx1 hS1
  refine W.lcmp hx hb (by decide +kernel : decode code 697 = .ok (.lcmp, 1)) ?_
  have elc : lg_cmp r r = 0 := by simp [lg_cmp]
  rw [elc]
  refine lv_if_eq (tgt := 867) hx hb (by decide +kernel : decode code 698 = .ok (.ifCond .eq 169, 3)) (by decide) (fun _ => ?_) (fun z => absurd rfl z)
  refine lv_iinc (v := nI (i + 4)) (lv' := [(3, .int (nI (i + 4))), (0, .ref b), (1, .ref (ax 0)), (2, .ref (am 0))]) hx hb (by decide +kernel : decode code 867 = .ok (.iinc 3 4, 3)) hl (k := 3) rfl (by rw [← nI_add]; rfl) (by decide) rfl (fun ls hl => ?_)
  refine lv_goto (tgt := 18) hx hb (by decide +kernel : decode code 870 = .ok (.goto (-852), 3)) (by decide) ?_
  exact ih (i + 4) (by omega) (by omega) _ _ (hR2 _ _ gx gm) _ _ ls hPx hPm hS (lv_sub hl [1, 2, 3, 0] rfl)
set_option maxHeartbeats 4000000 in
set_option maxRecDepth 100000 in
theorem law_which (l : Launch) {Rel : sS → sS → Prop} (hL : L ≤ 2048) (C0 : lw_At p s m meth c b L xs) {D : va_G} {cA : ClassId} {ax am : Nat → Nat} (hKK : va_K D classes [(cA, .int)] s) (hDx : va_D (fun q : Nat => s.heap.size ≤ q) (wl cA ax σX0 LX)) (hDm : va_D (fun q : Nat => s.heap.size ≤ q) (wl cA am σM1 LM)) (hdis : ∀ i j : Nat, i < 88 → j < 37 → ax i ≠ am j) (hst : ∀ a1 : Int32, StI Rel y_GF_which y_MO_which [sI a1]) {n i : Nat} (hi : i + 4 ≤ L) (hn : L + 4 - i < n + 1) (ih : ∀ (i : Nat), i + 4 ≤ L + 4 → L + 4 - i < n → ∀ (σx σm : sS), Rel σx σm → ∀ (H : Heap) (locs : List Loc) (ls : Array Slot), va_P D classes (wl cA ax σx LX) H → va_P D classes (wl cA am σm LM) H → va_S (fun q : Nat => s.heap.size ≤ q) s.heap H locs → lv_has ls 4 [(0, .ref b), (1, .ref (ax 0)), (2, .ref (am 0)), (3, .int (nI i))] → W p l e room_1 s m #[Value.ref b] below meth c H locs 125 46410 (lw_Z below #[Value.ref b] s) (F0 m 18 ls []))
    {σx σm : sS} (hR : Rel σx σm) {H : Heap} {locs : List Loc} {ls : Array Slot} (hPx : va_P D classes (wl cA ax σx LX) H) (hPm : va_P D classes (wl cA am σm LM) H) (hS : va_S (fun q : Nat => s.heap.size ≤ q) s.heap H locs) (hl : lv_has ls 4 [(0, .ref b), (1, .ref (ax 0)), (2, .ref (am 0)), (3, .int (nI i))]) : W p l e room_1 s m #[Value.ref b] below meth c H locs 125 46410 (lw_Z below #[Value.ref b] s) (F0 m 703 ls []) := by
  obtain ⟨hx, hb, hr, hml, hown, hts, hX, hbl, hlocks, hgv⟩ := id C0
  have hA : ∀ q : Nat, s.heap.size ≤ q → (fun q : Nat => s.heap.size ≤ q) q := fun _ h => h
  have hbA : ¬ (fun q : Nat => s.heap.size ≤ q) b := Nat.not_le.mpr hbl
  have htA := ALL_law hts
  have hN := NW_law hts
  obtain ⟨r, Px, Pm, hcx, hcm, hR2⟩ := hst (xs (nI i + 1).toNatClampNeg) σx σm hR
  have hin1 : vp_in (nI i + 1) L := by rw [show (1 : Int32) = nI 1 from rfl, nI_add]; exact vp_in_nI (by omega) (by omega)
  refine lv_aload_n hx hb (by decide +kernel : decode code 703 = .ok (.aload_n 1, 1)) rfl (lv_at hl 1 rfl) ?_
  refine lv_aload_n hx hb (by decide +kernel : decode code 704 = .ok (.aload_n 0, 1)) rfl (lv_at hl 0 rfl) ?_
  refine lv_iload_n hx hb (by decide +kernel : decode code 705 = .ok (.iload_n 3, 1)) rfl (lv_at hl 3 rfl) ?_
  refine lv_iconst (v := 1) hx hb (by decide +kernel : decode code 706 = .ok (.iconst 1, 1)) (by decide) ?_
  refine lv_iadd hx hb (by decide +kernel : decode code 707 = .ok (.iadd, 1)) ?_
  refine va_sld hx hb hX hbl hbA hS hin1 (by decide +kernel : decode code 708 = .ok (.iaload, 1)) ?_
  refine sm_call (Y := LX) (ad := ax) (d := 300) (b := 0) (as0 := [sI (xs (nI i + 1).toNatClampNeg)]) (rest := []) (ct_LW_GF_which LX) rfl rfl hcx LX_ok (fun v hv => by simp only [List.mem_cons, List.not_mem_nil, or_false] at hv; rcases hv with rfl <;> trivial) hx hb hml hown htA hN hKK hPx (wl_D _ hDx) hS hA hl.1 (Nat.le_of_ble_eq_true rfl) rfl (Nat.le_of_ble_eq_true rfl) ⟨Nat.le_of_ble_eq_true rfl, Nat.le_of_ble_eq_true rfl⟩ ⟨Nat.le_of_ble_eq_true rfl, Nat.le_of_ble_eq_true rfl⟩ (by decide +kernel : decode code 709 = .ok (.invokevirtual 110, 3)) rfl (fun r0 σ0 H1 locs1 hq hP1 hz hkk hS1 => ?_)
  obtain ⟨e1, e2⟩ := rI_eq hq
  subst e1
  have gx := e2
  have hPm1 := va_keep hPm hkk (fun i j x y hi hj => by rw [(wl_ad hi).1, (wl_ad hj).1]; exact fun z => hdis j i (wl_ad hj).2 (wl_ad hi).2 z.symm)
  clear hkk hz hS hPm hPx hq
  have hPx := hP1
  have hPm := hPm1
  have hS := hS1
  clear hP1 hPm1 hS1
  refine lv_aload_n hx hb (by decide +kernel : decode code 712 = .ok (.aload_n 2, 1)) rfl (lv_at hl 2 rfl) ?_
  refine lv_aload_n hx hb (by decide +kernel : decode code 713 = .ok (.aload_n 0, 1)) rfl (lv_at hl 0 rfl) ?_
  refine lv_iload_n hx hb (by decide +kernel : decode code 714 = .ok (.iload_n 3, 1)) rfl (lv_at hl 3 rfl) ?_
  refine lv_iconst (v := 1) hx hb (by decide +kernel : decode code 715 = .ok (.iconst 1, 1)) (by decide) ?_
  refine lv_iadd hx hb (by decide +kernel : decode code 716 = .ok (.iadd, 1)) ?_
  refine va_sld hx hb hX hbl hbA hS hin1 (by decide +kernel : decode code 717 = .ok (.iaload, 1)) ?_
  refine sm_call (Y := LM) (ad := am) (d := 300) (b := 0) (as0 := [sI (xs (nI i + 1).toNatClampNeg)]) (rest := [.int r]) (ct_LW_MO_which LM) rfl rfl hcm LM_ok (fun v hv => by simp only [List.mem_cons, List.not_mem_nil, or_false] at hv; rcases hv with rfl <;> trivial) hx hb hml hown htA hN hKK hPm (wl_D _ hDm) hS hA hl.1 (Nat.le_of_ble_eq_true rfl) rfl (Nat.le_of_ble_eq_true rfl) ⟨Nat.le_of_ble_eq_true rfl, Nat.le_of_ble_eq_true rfl⟩ ⟨Nat.le_of_ble_eq_true rfl, Nat.le_of_ble_eq_true rfl⟩ (by decide +kernel : decode code 718 = .ok (.invokevirtual 113, 3)) rfl (fun r0 σ0 H1 locs1 hq hP1 hz hkk hS1 => ?_)
  obtain ⟨e1, e2⟩ := rI_eq hq
  subst e1
  have gm := e2
  have hPx1 := va_keep hPx hkk (fun i j x y hi hj => by rw [(wl_ad hi).1, (wl_ad hj).1]; exact hdis i j (wl_ad hi).2 (wl_ad hj).2)
  clear hkk hz hS hPm hPx hq
  have hPm := hP1
  have hPx := hPx1
  have hS := hS1
  clear hP1 hPx1 hS1
  refine lv_icmp_eq (tgt := 867) hx hb (by decide +kernel : decode code 721 = .ok (.if_icmp .eq 146, 3)) (by decide) (fun _ => ?_) (fun z => absurd rfl z)
  refine lv_iinc (v := nI (i + 4)) (lv' := [(3, .int (nI (i + 4))), (0, .ref b), (1, .ref (ax 0)), (2, .ref (am 0))]) hx hb (by decide +kernel : decode code 867 = .ok (.iinc 3 4, 3)) hl (k := 3) rfl (by rw [← nI_add]; rfl) (by decide) rfl (fun ls hl => ?_)
  refine lv_goto (tgt := 18) hx hb (by decide +kernel : decode code 870 = .ok (.goto (-852), 3)) (by decide) ?_
  exact ih (i + 4) (by omega) (by omega) _ _ (hR2 _ _ gx gm) _ _ ls hPx hPm hS (lv_sub hl [1, 2, 3, 0] rfl)
set_option maxHeartbeats 4000000 in
set_option maxRecDepth 100000 in
theorem law_row (l : Launch) {Rel : sS → sS → Prop} (hL : L ≤ 2048) (C0 : lw_At p s m meth c b L xs) {D : va_G} {cA : ClassId} {ax am : Nat → Nat} (hKK : va_K D classes [(cA, .int)] s) (hDx : va_D (fun q : Nat => s.heap.size ≤ q) (wl cA ax σX0 LX)) (hDm : va_D (fun q : Nat => s.heap.size ≤ q) (wl cA am σM1 LM)) (hdis : ∀ i j : Nat, i < 88 → j < 37 → ax i ≠ am j) (hst : ∀ a1 : Int32, StI Rel y_GF_row y_MO_row [sI a1]) {n i : Nat} (hi : i + 4 ≤ L) (hn : L + 4 - i < n + 1) (ih : ∀ (i : Nat), i + 4 ≤ L + 4 → L + 4 - i < n → ∀ (σx σm : sS), Rel σx σm → ∀ (H : Heap) (locs : List Loc) (ls : Array Slot), va_P D classes (wl cA ax σx LX) H → va_P D classes (wl cA am σm LM) H → va_S (fun q : Nat => s.heap.size ≤ q) s.heap H locs → lv_has ls 4 [(0, .ref b), (1, .ref (ax 0)), (2, .ref (am 0)), (3, .int (nI i))] → W p l e room_1 s m #[Value.ref b] below meth c H locs 125 46410 (lw_Z below #[Value.ref b] s) (F0 m 18 ls []))
    {σx σm : sS} (hR : Rel σx σm) {H : Heap} {locs : List Loc} {ls : Array Slot} (hPx : va_P D classes (wl cA ax σx LX) H) (hPm : va_P D classes (wl cA am σm LM) H) (hS : va_S (fun q : Nat => s.heap.size ≤ q) s.heap H locs) (hl : lv_has ls 4 [(0, .ref b), (1, .ref (ax 0)), (2, .ref (am 0)), (3, .int (nI i))]) : W p l e room_1 s m #[Value.ref b] below meth c H locs 125 46410 (lw_Z below #[Value.ref b] s) (F0 m 726 ls []) := by
  obtain ⟨hx, hb, hr, hml, hown, hts, hX, hbl, hlocks, hgv⟩ := id C0
  have hA : ∀ q : Nat, s.heap.size ≤ q → (fun q : Nat => s.heap.size ≤ q) q := fun _ h => h
  have hbA : ¬ (fun q : Nat => s.heap.size ≤ q) b := Nat.not_le.mpr hbl
  have htA := ALL_law hts
  have hN := NW_law hts
  obtain ⟨r, Px, Pm, hcx, hcm, hR2⟩ := hst (xs (nI i + 1).toNatClampNeg) σx σm hR
  have hin1 : vp_in (nI i + 1) L := by rw [show (1 : Int32) = nI 1 from rfl, nI_add]; exact vp_in_nI (by omega) (by omega)
  refine lv_aload_n hx hb (by decide +kernel : decode code 726 = .ok (.aload_n 1, 1)) rfl (lv_at hl 1 rfl) ?_
  refine lv_aload_n hx hb (by decide +kernel : decode code 727 = .ok (.aload_n 0, 1)) rfl (lv_at hl 0 rfl) ?_
  refine lv_iload_n hx hb (by decide +kernel : decode code 728 = .ok (.iload_n 3, 1)) rfl (lv_at hl 3 rfl) ?_
  refine lv_iconst (v := 1) hx hb (by decide +kernel : decode code 729 = .ok (.iconst 1, 1)) (by decide) ?_
  refine lv_iadd hx hb (by decide +kernel : decode code 730 = .ok (.iadd, 1)) ?_
  refine va_sld hx hb hX hbl hbA hS hin1 (by decide +kernel : decode code 731 = .ok (.iaload, 1)) ?_
  refine sm_call (Y := LX) (ad := ax) (d := 300) (b := 0) (as0 := [sI (xs (nI i + 1).toNatClampNeg)]) (rest := []) (ct_LW_GF_row LX) rfl rfl hcx LX_ok (fun v hv => by simp only [List.mem_cons, List.not_mem_nil, or_false] at hv; rcases hv with rfl <;> trivial) hx hb hml hown htA hN hKK hPx (wl_D _ hDx) hS hA hl.1 (Nat.le_of_ble_eq_true rfl) rfl (Nat.le_of_ble_eq_true rfl) ⟨Nat.le_of_ble_eq_true rfl, Nat.le_of_ble_eq_true rfl⟩ ⟨Nat.le_of_ble_eq_true rfl, Nat.le_of_ble_eq_true rfl⟩ (by decide +kernel : decode code 732 = .ok (.invokevirtual 114, 3)) rfl (fun r0 σ0 H1 locs1 hq hP1 hz hkk hS1 => ?_)
  obtain ⟨e1, e2⟩ := rI_eq hq
  subst e1
  have gx := e2
  have hPm1 := va_keep hPm hkk (fun i j x y hi hj => by rw [(wl_ad hi).1, (wl_ad hj).1]; exact fun z => hdis j i (wl_ad hj).2 (wl_ad hi).2 z.symm)
  clear hkk hz hS hPm hPx hq
  have hPx := hP1
  have hPm := hPm1
  have hS := hS1
  clear hP1 hPm1 hS1
  refine lv_aload_n hx hb (by decide +kernel : decode code 735 = .ok (.aload_n 2, 1)) rfl (lv_at hl 2 rfl) ?_
  refine lv_aload_n hx hb (by decide +kernel : decode code 736 = .ok (.aload_n 0, 1)) rfl (lv_at hl 0 rfl) ?_
  refine lv_iload_n hx hb (by decide +kernel : decode code 737 = .ok (.iload_n 3, 1)) rfl (lv_at hl 3 rfl) ?_
  refine lv_iconst (v := 1) hx hb (by decide +kernel : decode code 738 = .ok (.iconst 1, 1)) (by decide) ?_
  refine lv_iadd hx hb (by decide +kernel : decode code 739 = .ok (.iadd, 1)) ?_
  refine va_sld hx hb hX hbl hbA hS hin1 (by decide +kernel : decode code 740 = .ok (.iaload, 1)) ?_
  refine sm_call (Y := LM) (ad := am) (d := 300) (b := 0) (as0 := [sI (xs (nI i + 1).toNatClampNeg)]) (rest := [.int r]) (ct_LW_MO_row LM) rfl rfl hcm LM_ok (fun v hv => by simp only [List.mem_cons, List.not_mem_nil, or_false] at hv; rcases hv with rfl <;> trivial) hx hb hml hown htA hN hKK hPm (wl_D _ hDm) hS hA hl.1 (Nat.le_of_ble_eq_true rfl) rfl (Nat.le_of_ble_eq_true rfl) ⟨Nat.le_of_ble_eq_true rfl, Nat.le_of_ble_eq_true rfl⟩ ⟨Nat.le_of_ble_eq_true rfl, Nat.le_of_ble_eq_true rfl⟩ (by decide +kernel : decode code 741 = .ok (.invokevirtual 117, 3)) rfl (fun r0 σ0 H1 locs1 hq hP1 hz hkk hS1 => ?_)
  obtain ⟨e1, e2⟩ := rI_eq hq
  subst e1
  have gm := e2
  have hPx1 := va_keep hPx hkk (fun i j x y hi hj => by rw [(wl_ad hi).1, (wl_ad hj).1]; exact hdis i j (wl_ad hi).2 (wl_ad hj).2)
  clear hkk hz hS hPm hPx hq
  have hPm := hP1
  have hPx := hPx1
  have hS := hS1
  clear hP1 hPx1 hS1
  refine lv_icmp_eq (tgt := 867) hx hb (by decide +kernel : decode code 744 = .ok (.if_icmp .eq 123, 3)) (by decide) (fun _ => ?_) (fun z => absurd rfl z)
  refine lv_iinc (v := nI (i + 4)) (lv' := [(3, .int (nI (i + 4))), (0, .ref b), (1, .ref (ax 0)), (2, .ref (am 0))]) hx hb (by decide +kernel : decode code 867 = .ok (.iinc 3 4, 3)) hl (k := 3) rfl (by rw [← nI_add]; rfl) (by decide) rfl (fun ls hl => ?_)
  refine lv_goto (tgt := 18) hx hb (by decide +kernel : decode code 870 = .ok (.goto (-852), 3)) (by decide) ?_
  exact ih (i + 4) (by omega) (by omega) _ _ (hR2 _ _ gx gm) _ _ ls hPx hPm hS (lv_sub hl [1, 2, 3, 0] rfl)
set_option maxHeartbeats 4000000 in
set_option maxRecDepth 100000 in
theorem law_judge (l : Launch) {Rel : sS → sS → Prop} (hL : L ≤ 2048) (C0 : lw_At p s m meth c b L xs) {D : va_G} {cA : ClassId} {ax am : Nat → Nat} (hKK : va_K D classes [(cA, .int)] s) (hDx : va_D (fun q : Nat => s.heap.size ≤ q) (wl cA ax σX0 LX)) (hDm : va_D (fun q : Nat => s.heap.size ≤ q) (wl cA am σM1 LM)) (hdis : ∀ i j : Nat, i < 88 → j < 37 → ax i ≠ am j) (hst : StI Rel y_GF_judge y_MO_judge []) {n i : Nat} (hi : i + 4 ≤ L) (hn : L + 4 - i < n + 1) (ih : ∀ (i : Nat), i + 4 ≤ L + 4 → L + 4 - i < n → ∀ (σx σm : sS), Rel σx σm → ∀ (H : Heap) (locs : List Loc) (ls : Array Slot), va_P D classes (wl cA ax σx LX) H → va_P D classes (wl cA am σm LM) H → va_S (fun q : Nat => s.heap.size ≤ q) s.heap H locs → lv_has ls 4 [(0, .ref b), (1, .ref (ax 0)), (2, .ref (am 0)), (3, .int (nI i))] → W p l e room_1 s m #[Value.ref b] below meth c H locs 125 46410 (lw_Z below #[Value.ref b] s) (F0 m 18 ls []))
    {σx σm : sS} (hR : Rel σx σm) {H : Heap} {locs : List Loc} {ls : Array Slot} (hPx : va_P D classes (wl cA ax σx LX) H) (hPm : va_P D classes (wl cA am σm LM) H) (hS : va_S (fun q : Nat => s.heap.size ≤ q) s.heap H locs) (hl : lv_has ls 4 [(0, .ref b), (1, .ref (ax 0)), (2, .ref (am 0)), (3, .int (nI i))]) : W p l e room_1 s m #[Value.ref b] below meth c H locs 125 46410 (lw_Z below #[Value.ref b] s) (F0 m 749 ls []) := by
  obtain ⟨hx, hb, hr, hml, hown, hts, hX, hbl, hlocks, hgv⟩ := id C0
  have hA : ∀ q : Nat, s.heap.size ≤ q → (fun q : Nat => s.heap.size ≤ q) q := fun _ h => h
  have hbA : ¬ (fun q : Nat => s.heap.size ≤ q) b := Nat.not_le.mpr hbl
  have htA := ALL_law hts
  have hN := NW_law hts
  obtain ⟨r, Px, Pm, hcx, hcm, hR2⟩ := hst  σx σm hR
  refine lv_aload_n hx hb (by decide +kernel : decode code 749 = .ok (.aload_n 1, 1)) rfl (lv_at hl 1 rfl) ?_
  refine sm_call (Y := LX) (ad := ax) (d := 300) (b := 0) (as0 := []) (rest := []) (ct_LW_GF_judge LX) rfl rfl hcx LX_ok (fun v hv => by cases hv) hx hb hml hown htA hN hKK hPx (wl_D _ hDx) hS hA hl.1 (Nat.le_of_ble_eq_true rfl) rfl (Nat.le_of_ble_eq_true rfl) ⟨Nat.le_of_ble_eq_true rfl, Nat.le_of_ble_eq_true rfl⟩ ⟨Nat.le_of_ble_eq_true rfl, Nat.le_of_ble_eq_true rfl⟩ (by decide +kernel : decode code 750 = .ok (.invokevirtual 118, 3)) rfl (fun r0 σ0 H1 locs1 hq hP1 hz hkk hS1 => ?_)
  obtain ⟨e1, e2⟩ := rI_eq hq
  subst e1
  have gx := e2
  have hPm1 := va_keep hPm hkk (fun i j x y hi hj => by rw [(wl_ad hi).1, (wl_ad hj).1]; exact fun z => hdis j i (wl_ad hj).2 (wl_ad hi).2 z.symm)
  clear hkk hz hS hPm hPx hq
  have hPx := hP1
  have hPm := hPm1
  have hS := hS1
  clear hP1 hPm1 hS1
  refine lv_aload_n hx hb (by decide +kernel : decode code 753 = .ok (.aload_n 2, 1)) rfl (lv_at hl 2 rfl) ?_
  refine sm_call (Y := LM) (ad := am) (d := 300) (b := 0) (as0 := []) (rest := [.int r]) (ct_LW_MO_judge LM) rfl rfl hcm LM_ok (fun v hv => by cases hv) hx hb hml hown htA hN hKK hPm (wl_D _ hDm) hS hA hl.1 (Nat.le_of_ble_eq_true rfl) rfl (Nat.le_of_ble_eq_true rfl) ⟨Nat.le_of_ble_eq_true rfl, Nat.le_of_ble_eq_true rfl⟩ ⟨Nat.le_of_ble_eq_true rfl, Nat.le_of_ble_eq_true rfl⟩ (by decide +kernel : decode code 754 = .ok (.invokevirtual 121, 3)) rfl (fun r0 σ0 H1 locs1 hq hP1 hz hkk hS1 => ?_)
  obtain ⟨e1, e2⟩ := rI_eq hq
  subst e1
  have gm := e2
  have hPx1 := va_keep hPx hkk (fun i j x y hi hj => by rw [(wl_ad hi).1, (wl_ad hj).1]; exact hdis i j (wl_ad hi).2 (wl_ad hj).2)
  clear hkk hz hS hPm hPx hq
  have hPm := hP1
  have hPx := hPx1
  have hS := hS1
  clear hP1 hPx1 hS1
  refine lv_icmp_eq (tgt := 867) hx hb (by decide +kernel : decode code 757 = .ok (.if_icmp .eq 110, 3)) (by decide) (fun _ => ?_) (fun z => absurd rfl z)
  refine lv_iinc (v := nI (i + 4)) (lv' := [(3, .int (nI (i + 4))), (0, .ref b), (1, .ref (ax 0)), (2, .ref (am 0))]) hx hb (by decide +kernel : decode code 867 = .ok (.iinc 3 4, 3)) hl (k := 3) rfl (by rw [← nI_add]; rfl) (by decide) rfl (fun ls hl => ?_)
  refine lv_goto (tgt := 18) hx hb (by decide +kernel : decode code 870 = .ok (.goto (-852), 3)) (by decide) ?_
  exact ih (i + 4) (by omega) (by omega) _ _ (hR2 _ _ gx gm) _ _ ls hPx hPm hS (lv_sub hl [1, 2, 3, 0] rfl)
set_option maxHeartbeats 4000000 in
set_option maxRecDepth 100000 in
theorem law_clear (l : Launch) {Rel : sS → sS → Prop} (hL : L ≤ 2048) (C0 : lw_At p s m meth c b L xs) {D : va_G} {cA : ClassId} {ax am : Nat → Nat} (hKK : va_K D classes [(cA, .int)] s) (hDx : va_D (fun q : Nat => s.heap.size ≤ q) (wl cA ax σX0 LX)) (hDm : va_D (fun q : Nat => s.heap.size ≤ q) (wl cA am σM1 LM)) (hdis : ∀ i j : Nat, i < 88 → j < 37 → ax i ≠ am j) (hst : StI Rel y_GF_clear y_MO_clear []) {n i : Nat} (hi : i + 4 ≤ L) (hn : L + 4 - i < n + 1) (ih : ∀ (i : Nat), i + 4 ≤ L + 4 → L + 4 - i < n → ∀ (σx σm : sS), Rel σx σm → ∀ (H : Heap) (locs : List Loc) (ls : Array Slot), va_P D classes (wl cA ax σx LX) H → va_P D classes (wl cA am σm LM) H → va_S (fun q : Nat => s.heap.size ≤ q) s.heap H locs → lv_has ls 4 [(0, .ref b), (1, .ref (ax 0)), (2, .ref (am 0)), (3, .int (nI i))] → W p l e room_1 s m #[Value.ref b] below meth c H locs 125 46410 (lw_Z below #[Value.ref b] s) (F0 m 18 ls []))
    {σx σm : sS} (hR : Rel σx σm) {H : Heap} {locs : List Loc} {ls : Array Slot} (hPx : va_P D classes (wl cA ax σx LX) H) (hPm : va_P D classes (wl cA am σm LM) H) (hS : va_S (fun q : Nat => s.heap.size ≤ q) s.heap H locs) (hl : lv_has ls 4 [(0, .ref b), (1, .ref (ax 0)), (2, .ref (am 0)), (3, .int (nI i))]) : W p l e room_1 s m #[Value.ref b] below meth c H locs 125 46410 (lw_Z below #[Value.ref b] s) (F0 m 762 ls []) := by
  obtain ⟨hx, hb, hr, hml, hown, hts, hX, hbl, hlocks, hgv⟩ := id C0
  have hA : ∀ q : Nat, s.heap.size ≤ q → (fun q : Nat => s.heap.size ≤ q) q := fun _ h => h
  have hbA : ¬ (fun q : Nat => s.heap.size ≤ q) b := Nat.not_le.mpr hbl
  have htA := ALL_law hts
  have hN := NW_law hts
  obtain ⟨r, Px, Pm, hcx, hcm, hR2⟩ := hst  σx σm hR
  refine lv_aload_n hx hb (by decide +kernel : decode code 762 = .ok (.aload_n 1, 1)) rfl (lv_at hl 1 rfl) ?_
  refine sm_call (Y := LX) (ad := ax) (d := 300) (b := 0) (as0 := []) (rest := []) (ct_LW_GF_clear LX) rfl rfl hcx LX_ok (fun v hv => by cases hv) hx hb hml hown htA hN hKK hPx (wl_D _ hDx) hS hA hl.1 (Nat.le_of_ble_eq_true rfl) rfl (Nat.le_of_ble_eq_true rfl) ⟨Nat.le_of_ble_eq_true rfl, Nat.le_of_ble_eq_true rfl⟩ ⟨Nat.le_of_ble_eq_true rfl, Nat.le_of_ble_eq_true rfl⟩ (by decide +kernel : decode code 763 = .ok (.invokevirtual 122, 3)) rfl (fun r0 σ0 H1 locs1 hq hP1 hz hkk hS1 => ?_)
  obtain ⟨e1, e2⟩ := rI_eq hq
  subst e1
  have gx := e2
  have hPm1 := va_keep hPm hkk (fun i j x y hi hj => by rw [(wl_ad hi).1, (wl_ad hj).1]; exact fun z => hdis j i (wl_ad hj).2 (wl_ad hi).2 z.symm)
  clear hkk hz hS hPm hPx hq
  have hPx := hP1
  have hPm := hPm1
  have hS := hS1
  clear hP1 hPm1 hS1
  refine lv_aload_n hx hb (by decide +kernel : decode code 766 = .ok (.aload_n 2, 1)) rfl (lv_at hl 2 rfl) ?_
  refine sm_call (Y := LM) (ad := am) (d := 300) (b := 0) (as0 := []) (rest := [.int r]) (ct_LW_MO_clear LM) rfl rfl hcm LM_ok (fun v hv => by cases hv) hx hb hml hown htA hN hKK hPm (wl_D _ hDm) hS hA hl.1 (Nat.le_of_ble_eq_true rfl) rfl (Nat.le_of_ble_eq_true rfl) ⟨Nat.le_of_ble_eq_true rfl, Nat.le_of_ble_eq_true rfl⟩ ⟨Nat.le_of_ble_eq_true rfl, Nat.le_of_ble_eq_true rfl⟩ (by decide +kernel : decode code 767 = .ok (.invokevirtual 125, 3)) rfl (fun r0 σ0 H1 locs1 hq hP1 hz hkk hS1 => ?_)
  obtain ⟨e1, e2⟩ := rI_eq hq
  subst e1
  have gm := e2
  have hPx1 := va_keep hPx hkk (fun i j x y hi hj => by rw [(wl_ad hi).1, (wl_ad hj).1]; exact hdis i j (wl_ad hi).2 (wl_ad hj).2)
  clear hkk hz hS hPm hPx hq
  have hPm := hP1
  have hPx := hPx1
  have hS := hS1
  clear hP1 hPx1 hS1
  refine lv_icmp_eq (tgt := 867) hx hb (by decide +kernel : decode code 770 = .ok (.if_icmp .eq 97, 3)) (by decide) (fun _ => ?_) (fun z => absurd rfl z)
  refine lv_iinc (v := nI (i + 4)) (lv' := [(3, .int (nI (i + 4))), (0, .ref b), (1, .ref (ax 0)), (2, .ref (am 0))]) hx hb (by decide +kernel : decode code 867 = .ok (.iinc 3 4, 3)) hl (k := 3) rfl (by rw [← nI_add]; rfl) (by decide) rfl (fun ls hl => ?_)
  refine lv_goto (tgt := 18) hx hb (by decide +kernel : decode code 870 = .ok (.goto (-852), 3)) (by decide) ?_
  exact ih (i + 4) (by omega) (by omega) _ _ (hR2 _ _ gx gm) _ _ ls hPx hPm hS (lv_sub hl [1, 2, 3, 0] rfl)
set_option maxHeartbeats 4000000 in
set_option maxRecDepth 100000 in
theorem law_lots (l : Launch) {Rel : sS → sS → Prop} (hL : L ≤ 2048) (C0 : lw_At p s m meth c b L xs) {D : va_G} {cA : ClassId} {ax am : Nat → Nat} (hKK : va_K D classes [(cA, .int)] s) (hDx : va_D (fun q : Nat => s.heap.size ≤ q) (wl cA ax σX0 LX)) (hDm : va_D (fun q : Nat => s.heap.size ≤ q) (wl cA am σM1 LM)) (hdis : ∀ i j : Nat, i < 88 → j < 37 → ax i ≠ am j) (hst : ∀ a1 a2 a3 : Int32, StI Rel y_GF_lots y_MO_lots [sI a1, sI a2, sI a3]) {n i : Nat} (hi : i + 4 ≤ L) (hn : L + 4 - i < n + 1) (ih : ∀ (i : Nat), i + 4 ≤ L + 4 → L + 4 - i < n → ∀ (σx σm : sS), Rel σx σm → ∀ (H : Heap) (locs : List Loc) (ls : Array Slot), va_P D classes (wl cA ax σx LX) H → va_P D classes (wl cA am σm LM) H → va_S (fun q : Nat => s.heap.size ≤ q) s.heap H locs → lv_has ls 4 [(0, .ref b), (1, .ref (ax 0)), (2, .ref (am 0)), (3, .int (nI i))] → W p l e room_1 s m #[Value.ref b] below meth c H locs 125 46410 (lw_Z below #[Value.ref b] s) (F0 m 18 ls []))
    {σx σm : sS} (hR : Rel σx σm) {H : Heap} {locs : List Loc} {ls : Array Slot} (hPx : va_P D classes (wl cA ax σx LX) H) (hPm : va_P D classes (wl cA am σm LM) H) (hS : va_S (fun q : Nat => s.heap.size ≤ q) s.heap H locs) (hl : lv_has ls 4 [(0, .ref b), (1, .ref (ax 0)), (2, .ref (am 0)), (3, .int (nI i))]) : W p l e room_1 s m #[Value.ref b] below meth c H locs 125 46410 (lw_Z below #[Value.ref b] s) (F0 m 775 ls []) := by
  obtain ⟨hx, hb, hr, hml, hown, hts, hX, hbl, hlocks, hgv⟩ := id C0
  have hA : ∀ q : Nat, s.heap.size ≤ q → (fun q : Nat => s.heap.size ≤ q) q := fun _ h => h
  have hbA : ¬ (fun q : Nat => s.heap.size ≤ q) b := Nat.not_le.mpr hbl
  have htA := ALL_law hts
  have hN := NW_law hts
  obtain ⟨r, Px, Pm, hcx, hcm, hR2⟩ := hst (xs (nI i + 1).toNatClampNeg) (xs (nI i + 2).toNatClampNeg) (xs (nI i + 3).toNatClampNeg) σx σm hR
  have hin1 : vp_in (nI i + 1) L := by rw [show (1 : Int32) = nI 1 from rfl, nI_add]; exact vp_in_nI (by omega) (by omega)
  have hin2 : vp_in (nI i + 2) L := by rw [show (2 : Int32) = nI 2 from rfl, nI_add]; exact vp_in_nI (by omega) (by omega)
  have hin3 : vp_in (nI i + 3) L := by rw [show (3 : Int32) = nI 3 from rfl, nI_add]; exact vp_in_nI (by omega) (by omega)
  refine lv_aload_n hx hb (by decide +kernel : decode code 775 = .ok (.aload_n 1, 1)) rfl (lv_at hl 1 rfl) ?_
  refine lv_aload_n hx hb (by decide +kernel : decode code 776 = .ok (.aload_n 0, 1)) rfl (lv_at hl 0 rfl) ?_
  refine lv_iload_n hx hb (by decide +kernel : decode code 777 = .ok (.iload_n 3, 1)) rfl (lv_at hl 3 rfl) ?_
  refine lv_iconst (v := 1) hx hb (by decide +kernel : decode code 778 = .ok (.iconst 1, 1)) (by decide) ?_
  refine lv_iadd hx hb (by decide +kernel : decode code 779 = .ok (.iadd, 1)) ?_
  refine va_sld hx hb hX hbl hbA hS hin1 (by decide +kernel : decode code 780 = .ok (.iaload, 1)) ?_
  refine lv_aload_n hx hb (by decide +kernel : decode code 781 = .ok (.aload_n 0, 1)) rfl (lv_at hl 0 rfl) ?_
  refine lv_iload_n hx hb (by decide +kernel : decode code 782 = .ok (.iload_n 3, 1)) rfl (lv_at hl 3 rfl) ?_
  refine lv_iconst (v := 2) hx hb (by decide +kernel : decode code 783 = .ok (.iconst 2, 1)) (by decide) ?_
  refine lv_iadd hx hb (by decide +kernel : decode code 784 = .ok (.iadd, 1)) ?_
  refine va_sld hx hb hX hbl hbA hS hin2 (by decide +kernel : decode code 785 = .ok (.iaload, 1)) ?_
  refine lv_aload_n hx hb (by decide +kernel : decode code 786 = .ok (.aload_n 0, 1)) rfl (lv_at hl 0 rfl) ?_
  refine lv_iload_n hx hb (by decide +kernel : decode code 787 = .ok (.iload_n 3, 1)) rfl (lv_at hl 3 rfl) ?_
  refine lv_iconst (v := 3) hx hb (by decide +kernel : decode code 788 = .ok (.iconst 3, 1)) (by decide) ?_
  refine lv_iadd hx hb (by decide +kernel : decode code 789 = .ok (.iadd, 1)) ?_
  refine va_sld hx hb hX hbl hbA hS hin3 (by decide +kernel : decode code 790 = .ok (.iaload, 1)) ?_
  refine sm_call (Y := LX) (ad := ax) (d := 300) (b := 0) (as0 := [sI (xs (nI i + 1).toNatClampNeg), sI (xs (nI i + 2).toNatClampNeg), sI (xs (nI i + 3).toNatClampNeg)]) (rest := []) (ct_LW_GF_lots LX) rfl rfl hcx LX_ok (fun v hv => by simp only [List.mem_cons, List.not_mem_nil, or_false] at hv; rcases hv with rfl | rfl | rfl <;> trivial) hx hb hml hown htA hN hKK hPx (wl_D _ hDx) hS hA hl.1 (Nat.le_of_ble_eq_true rfl) rfl (Nat.le_of_ble_eq_true rfl) ⟨Nat.le_of_ble_eq_true rfl, Nat.le_of_ble_eq_true rfl⟩ ⟨Nat.le_of_ble_eq_true rfl, Nat.le_of_ble_eq_true rfl⟩ (by decide +kernel : decode code 791 = .ok (.invokevirtual 126, 3)) rfl (fun r0 σ0 H1 locs1 hq hP1 hz hkk hS1 => ?_)
  obtain ⟨e1, e2⟩ := rI_eq hq
  subst e1
  have gx := e2
  have hPm1 := va_keep hPm hkk (fun i j x y hi hj => by rw [(wl_ad hi).1, (wl_ad hj).1]; exact fun z => hdis j i (wl_ad hj).2 (wl_ad hi).2 z.symm)
  clear hkk hz hS hPm hPx hq
  have hPx := hP1
  have hPm := hPm1
  have hS := hS1
  clear hP1 hPm1 hS1
  refine lv_aload_n hx hb (by decide +kernel : decode code 794 = .ok (.aload_n 2, 1)) rfl (lv_at hl 2 rfl) ?_
  refine lv_aload_n hx hb (by decide +kernel : decode code 795 = .ok (.aload_n 0, 1)) rfl (lv_at hl 0 rfl) ?_
  refine lv_iload_n hx hb (by decide +kernel : decode code 796 = .ok (.iload_n 3, 1)) rfl (lv_at hl 3 rfl) ?_
  refine lv_iconst (v := 1) hx hb (by decide +kernel : decode code 797 = .ok (.iconst 1, 1)) (by decide) ?_
  refine lv_iadd hx hb (by decide +kernel : decode code 798 = .ok (.iadd, 1)) ?_
  refine va_sld hx hb hX hbl hbA hS hin1 (by decide +kernel : decode code 799 = .ok (.iaload, 1)) ?_
  refine lv_aload_n hx hb (by decide +kernel : decode code 800 = .ok (.aload_n 0, 1)) rfl (lv_at hl 0 rfl) ?_
  refine lv_iload_n hx hb (by decide +kernel : decode code 801 = .ok (.iload_n 3, 1)) rfl (lv_at hl 3 rfl) ?_
  refine lv_iconst (v := 2) hx hb (by decide +kernel : decode code 802 = .ok (.iconst 2, 1)) (by decide) ?_
  refine lv_iadd hx hb (by decide +kernel : decode code 803 = .ok (.iadd, 1)) ?_
  refine va_sld hx hb hX hbl hbA hS hin2 (by decide +kernel : decode code 804 = .ok (.iaload, 1)) ?_
  refine lv_aload_n hx hb (by decide +kernel : decode code 805 = .ok (.aload_n 0, 1)) rfl (lv_at hl 0 rfl) ?_
  refine lv_iload_n hx hb (by decide +kernel : decode code 806 = .ok (.iload_n 3, 1)) rfl (lv_at hl 3 rfl) ?_
  refine lv_iconst (v := 3) hx hb (by decide +kernel : decode code 807 = .ok (.iconst 3, 1)) (by decide) ?_
  refine lv_iadd hx hb (by decide +kernel : decode code 808 = .ok (.iadd, 1)) ?_
  refine va_sld hx hb hX hbl hbA hS hin3 (by decide +kernel : decode code 809 = .ok (.iaload, 1)) ?_
  refine sm_call (Y := LM) (ad := am) (d := 300) (b := 0) (as0 := [sI (xs (nI i + 1).toNatClampNeg), sI (xs (nI i + 2).toNatClampNeg), sI (xs (nI i + 3).toNatClampNeg)]) (rest := [.int r]) (ct_LW_MO_lots LM) rfl rfl hcm LM_ok (fun v hv => by simp only [List.mem_cons, List.not_mem_nil, or_false] at hv; rcases hv with rfl | rfl | rfl <;> trivial) hx hb hml hown htA hN hKK hPm (wl_D _ hDm) hS hA hl.1 (Nat.le_of_ble_eq_true rfl) rfl (Nat.le_of_ble_eq_true rfl) ⟨Nat.le_of_ble_eq_true rfl, Nat.le_of_ble_eq_true rfl⟩ ⟨Nat.le_of_ble_eq_true rfl, Nat.le_of_ble_eq_true rfl⟩ (by decide +kernel : decode code 810 = .ok (.invokevirtual 130, 3)) rfl (fun r0 σ0 H1 locs1 hq hP1 hz hkk hS1 => ?_)
  obtain ⟨e1, e2⟩ := rI_eq hq
  subst e1
  have gm := e2
  have hPx1 := va_keep hPx hkk (fun i j x y hi hj => by rw [(wl_ad hi).1, (wl_ad hj).1]; exact hdis i j (wl_ad hi).2 (wl_ad hj).2)
  clear hkk hz hS hPm hPx hq
  have hPm := hP1
  have hPx := hPx1
  have hS := hS1
  clear hP1 hPx1 hS1
  refine lv_icmp_eq (tgt := 867) hx hb (by decide +kernel : decode code 813 = .ok (.if_icmp .eq 54, 3)) (by decide) (fun _ => ?_) (fun z => absurd rfl z)
  refine lv_iinc (v := nI (i + 4)) (lv' := [(3, .int (nI (i + 4))), (0, .ref b), (1, .ref (ax 0)), (2, .ref (am 0))]) hx hb (by decide +kernel : decode code 867 = .ok (.iinc 3 4, 3)) hl (k := 3) rfl (by rw [← nI_add]; rfl) (by decide) rfl (fun ls hl => ?_)
  refine lv_goto (tgt := 18) hx hb (by decide +kernel : decode code 870 = .ok (.goto (-852), 3)) (by decide) ?_
  exact ih (i + 4) (by omega) (by omega) _ _ (hR2 _ _ gx gm) _ _ ls hPx hPm hS (lv_sub hl [1, 2, 3, 0] rfl)
set_option maxHeartbeats 4000000 in
set_option maxRecDepth 100000 in
theorem law_image (l : Launch) {Rel : sS → sS → Prop} (hL : L ≤ 2048) (C0 : lw_At p s m meth c b L xs) {D : va_G} {cA : ClassId} {ax am : Nat → Nat} (hKK : va_K D classes [(cA, .int)] s) (hDx : va_D (fun q : Nat => s.heap.size ≤ q) (wl cA ax σX0 LX)) (hDm : va_D (fun q : Nat => s.heap.size ≤ q) (wl cA am σM1 LM)) (hdis : ∀ i j : Nat, i < 88 → j < 37 → ax i ≠ am j) (hst : StI Rel y_GF_image y_MO_image []) {n i : Nat} (hi : i + 4 ≤ L) (hn : L + 4 - i < n + 1) (ih : ∀ (i : Nat), i + 4 ≤ L + 4 → L + 4 - i < n → ∀ (σx σm : sS), Rel σx σm → ∀ (H : Heap) (locs : List Loc) (ls : Array Slot), va_P D classes (wl cA ax σx LX) H → va_P D classes (wl cA am σm LM) H → va_S (fun q : Nat => s.heap.size ≤ q) s.heap H locs → lv_has ls 4 [(0, .ref b), (1, .ref (ax 0)), (2, .ref (am 0)), (3, .int (nI i))] → W p l e room_1 s m #[Value.ref b] below meth c H locs 125 46410 (lw_Z below #[Value.ref b] s) (F0 m 18 ls []))
    {σx σm : sS} (hR : Rel σx σm) {H : Heap} {locs : List Loc} {ls : Array Slot} (hPx : va_P D classes (wl cA ax σx LX) H) (hPm : va_P D classes (wl cA am σm LM) H) (hS : va_S (fun q : Nat => s.heap.size ≤ q) s.heap H locs) (hl : lv_has ls 4 [(0, .ref b), (1, .ref (ax 0)), (2, .ref (am 0)), (3, .int (nI i))]) : W p l e room_1 s m #[Value.ref b] below meth c H locs 125 46410 (lw_Z below #[Value.ref b] s) (F0 m 818 ls []) := by
  obtain ⟨hx, hb, hr, hml, hown, hts, hX, hbl, hlocks, hgv⟩ := id C0
  have hA : ∀ q : Nat, s.heap.size ≤ q → (fun q : Nat => s.heap.size ≤ q) q := fun _ h => h
  have hbA : ¬ (fun q : Nat => s.heap.size ≤ q) b := Nat.not_le.mpr hbl
  have htA := ALL_law hts
  have hN := NW_law hts
  obtain ⟨r, Px, Pm, hcx, hcm, hR2⟩ := hst  σx σm hR
  refine lv_aload_n hx hb (by decide +kernel : decode code 818 = .ok (.aload_n 1, 1)) rfl (lv_at hl 1 rfl) ?_
  refine sm_call (Y := LX) (ad := ax) (d := 300) (b := 0) (as0 := []) (rest := []) (ct_LW_GF_image LX) rfl rfl hcx LX_ok (fun v hv => by cases hv) hx hb hml hown htA hN hKK hPx (wl_D _ hDx) hS hA hl.1 (Nat.le_of_ble_eq_true rfl) rfl (Nat.le_of_ble_eq_true rfl) ⟨Nat.le_of_ble_eq_true rfl, Nat.le_of_ble_eq_true rfl⟩ ⟨Nat.le_of_ble_eq_true rfl, Nat.le_of_ble_eq_true rfl⟩ (by decide +kernel : decode code 819 = .ok (.invokevirtual 131, 3)) rfl (fun r0 σ0 H1 locs1 hq hP1 hz hkk hS1 => ?_)
  obtain ⟨e1, e2⟩ := rI_eq hq
  subst e1
  have gx := e2
  have hPm1 := va_keep hPm hkk (fun i j x y hi hj => by rw [(wl_ad hi).1, (wl_ad hj).1]; exact fun z => hdis j i (wl_ad hj).2 (wl_ad hi).2 z.symm)
  clear hkk hz hS hPm hPx hq
  have hPx := hP1
  have hPm := hPm1
  have hS := hS1
  clear hP1 hPm1 hS1
  refine lv_aload_n hx hb (by decide +kernel : decode code 822 = .ok (.aload_n 2, 1)) rfl (lv_at hl 2 rfl) ?_
  refine sm_call (Y := LM) (ad := am) (d := 300) (b := 0) (as0 := []) (rest := [.int r]) (ct_LW_MO_image LM) rfl rfl hcm LM_ok (fun v hv => by cases hv) hx hb hml hown htA hN hKK hPm (wl_D _ hDm) hS hA hl.1 (Nat.le_of_ble_eq_true rfl) rfl (Nat.le_of_ble_eq_true rfl) ⟨Nat.le_of_ble_eq_true rfl, Nat.le_of_ble_eq_true rfl⟩ ⟨Nat.le_of_ble_eq_true rfl, Nat.le_of_ble_eq_true rfl⟩ (by decide +kernel : decode code 823 = .ok (.invokevirtual 134, 3)) rfl (fun r0 σ0 H1 locs1 hq hP1 hz hkk hS1 => ?_)
  obtain ⟨e1, e2⟩ := rI_eq hq
  subst e1
  have gm := e2
  have hPx1 := va_keep hPx hkk (fun i j x y hi hj => by rw [(wl_ad hi).1, (wl_ad hj).1]; exact hdis i j (wl_ad hi).2 (wl_ad hj).2)
  clear hkk hz hS hPm hPx hq
  have hPm := hP1
  have hPx := hPx1
  have hS := hS1
  clear hP1 hPx1 hS1
  refine lv_icmp_eq (tgt := 867) hx hb (by decide +kernel : decode code 826 = .ok (.if_icmp .eq 41, 3)) (by decide) (fun _ => ?_) (fun z => absurd rfl z)
  refine lv_iinc (v := nI (i + 4)) (lv' := [(3, .int (nI (i + 4))), (0, .ref b), (1, .ref (ax 0)), (2, .ref (am 0))]) hx hb (by decide +kernel : decode code 867 = .ok (.iinc 3 4, 3)) hl (k := 3) rfl (by rw [← nI_add]; rfl) (by decide) rfl (fun ls hl => ?_)
  refine lv_goto (tgt := 18) hx hb (by decide +kernel : decode code 870 = .ok (.goto (-852), 3)) (by decide) ?_
  exact ih (i + 4) (by omega) (by omega) _ _ (hR2 _ _ gx gm) _ _ ls hPx hPm hS (lv_sub hl [1, 2, 3, 0] rfl)
set_option maxHeartbeats 4000000 in
set_option maxRecDepth 100000 in
theorem law_on (l : Launch) {Rel : sS → sS → Prop} (hL : L ≤ 2048) (C0 : lw_At p s m meth c b L xs) {D : va_G} {cA : ClassId} {ax am : Nat → Nat} (hKK : va_K D classes [(cA, .int)] s) (hDx : va_D (fun q : Nat => s.heap.size ≤ q) (wl cA ax σX0 LX)) (hDm : va_D (fun q : Nat => s.heap.size ≤ q) (wl cA am σM1 LM)) (hdis : ∀ i j : Nat, i < 88 → j < 37 → ax i ≠ am j) (hst : StI Rel y_GF_on y_MO_on []) {n i : Nat} (hi : i + 4 ≤ L) (hn : L + 4 - i < n + 1) (ih : ∀ (i : Nat), i + 4 ≤ L + 4 → L + 4 - i < n → ∀ (σx σm : sS), Rel σx σm → ∀ (H : Heap) (locs : List Loc) (ls : Array Slot), va_P D classes (wl cA ax σx LX) H → va_P D classes (wl cA am σm LM) H → va_S (fun q : Nat => s.heap.size ≤ q) s.heap H locs → lv_has ls 4 [(0, .ref b), (1, .ref (ax 0)), (2, .ref (am 0)), (3, .int (nI i))] → W p l e room_1 s m #[Value.ref b] below meth c H locs 125 46410 (lw_Z below #[Value.ref b] s) (F0 m 18 ls []))
    {σx σm : sS} (hR : Rel σx σm) {H : Heap} {locs : List Loc} {ls : Array Slot} (hPx : va_P D classes (wl cA ax σx LX) H) (hPm : va_P D classes (wl cA am σm LM) H) (hS : va_S (fun q : Nat => s.heap.size ≤ q) s.heap H locs) (hl : lv_has ls 4 [(0, .ref b), (1, .ref (ax 0)), (2, .ref (am 0)), (3, .int (nI i))]) : W p l e room_1 s m #[Value.ref b] below meth c H locs 125 46410 (lw_Z below #[Value.ref b] s) (F0 m 831 ls []) := by
  obtain ⟨hx, hb, hr, hml, hown, hts, hX, hbl, hlocks, hgv⟩ := id C0
  have hA : ∀ q : Nat, s.heap.size ≤ q → (fun q : Nat => s.heap.size ≤ q) q := fun _ h => h
  have hbA : ¬ (fun q : Nat => s.heap.size ≤ q) b := Nat.not_le.mpr hbl
  have htA := ALL_law hts
  have hN := NW_law hts
  obtain ⟨r, Px, Pm, hcx, hcm, hR2⟩ := hst  σx σm hR
  refine lv_aload_n hx hb (by decide +kernel : decode code 831 = .ok (.aload_n 1, 1)) rfl (lv_at hl 1 rfl) ?_
  refine sm_call (Y := LX) (ad := ax) (d := 300) (b := 0) (as0 := []) (rest := []) (ct_LW_GF_on LX) rfl rfl hcx LX_ok (fun v hv => by cases hv) hx hb hml hown htA hN hKK hPx (wl_D _ hDx) hS hA hl.1 (Nat.le_of_ble_eq_true rfl) rfl (Nat.le_of_ble_eq_true rfl) ⟨Nat.le_of_ble_eq_true rfl, Nat.le_of_ble_eq_true rfl⟩ ⟨Nat.le_of_ble_eq_true rfl, Nat.le_of_ble_eq_true rfl⟩ (by decide +kernel : decode code 832 = .ok (.invokevirtual 135, 3)) rfl (fun r0 σ0 H1 locs1 hq hP1 hz hkk hS1 => ?_)
  obtain ⟨e1, e2⟩ := rI_eq hq
  subst e1
  have gx := e2
  have hPm1 := va_keep hPm hkk (fun i j x y hi hj => by rw [(wl_ad hi).1, (wl_ad hj).1]; exact fun z => hdis j i (wl_ad hj).2 (wl_ad hi).2 z.symm)
  clear hkk hz hS hPm hPx hq
  have hPx := hP1
  have hPm := hPm1
  have hS := hS1
  clear hP1 hPm1 hS1
  refine lv_aload_n hx hb (by decide +kernel : decode code 835 = .ok (.aload_n 2, 1)) rfl (lv_at hl 2 rfl) ?_
  refine sm_call (Y := LM) (ad := am) (d := 300) (b := 0) (as0 := []) (rest := [.int r]) (ct_LW_MO_on LM) rfl rfl hcm LM_ok (fun v hv => by cases hv) hx hb hml hown htA hN hKK hPm (wl_D _ hDm) hS hA hl.1 (Nat.le_of_ble_eq_true rfl) rfl (Nat.le_of_ble_eq_true rfl) ⟨Nat.le_of_ble_eq_true rfl, Nat.le_of_ble_eq_true rfl⟩ ⟨Nat.le_of_ble_eq_true rfl, Nat.le_of_ble_eq_true rfl⟩ (by decide +kernel : decode code 836 = .ok (.invokevirtual 138, 3)) rfl (fun r0 σ0 H1 locs1 hq hP1 hz hkk hS1 => ?_)
  obtain ⟨e1, e2⟩ := rI_eq hq
  subst e1
  have gm := e2
  have hPx1 := va_keep hPx hkk (fun i j x y hi hj => by rw [(wl_ad hi).1, (wl_ad hj).1]; exact hdis i j (wl_ad hi).2 (wl_ad hj).2)
  clear hkk hz hS hPm hPx hq
  have hPm := hP1
  have hPx := hPx1
  have hS := hS1
  clear hP1 hPx1 hS1
  refine lv_icmp_eq (tgt := 867) hx hb (by decide +kernel : decode code 839 = .ok (.if_icmp .eq 28, 3)) (by decide) (fun _ => ?_) (fun z => absurd rfl z)
  refine lv_iinc (v := nI (i + 4)) (lv' := [(3, .int (nI (i + 4))), (0, .ref b), (1, .ref (ax 0)), (2, .ref (am 0))]) hx hb (by decide +kernel : decode code 867 = .ok (.iinc 3 4, 3)) hl (k := 3) rfl (by rw [← nI_add]; rfl) (by decide) rfl (fun ls hl => ?_)
  refine lv_goto (tgt := 18) hx hb (by decide +kernel : decode code 870 = .ok (.goto (-852), 3)) (by decide) ?_
  exact ih (i + 4) (by omega) (by omega) _ _ (hR2 _ _ gx gm) _ _ ls hPx hPm hS (lv_sub hl [1, 2, 3, 0] rfl)
set_option maxHeartbeats 4000000 in
set_option maxRecDepth 100000 in
theorem law_count (l : Launch) {Rel : sS → sS → Prop} (hL : L ≤ 2048) (C0 : lw_At p s m meth c b L xs) {D : va_G} {cA : ClassId} {ax am : Nat → Nat} (hKK : va_K D classes [(cA, .int)] s) (hDx : va_D (fun q : Nat => s.heap.size ≤ q) (wl cA ax σX0 LX)) (hDm : va_D (fun q : Nat => s.heap.size ≤ q) (wl cA am σM1 LM)) (hdis : ∀ i j : Nat, i < 88 → j < 37 → ax i ≠ am j) (hst : ∀ a1 : Int32, StI Rel y_GF_count y_MO_count [sI a1]) {n i : Nat} (hi : i + 4 ≤ L) (hn : L + 4 - i < n + 1) (ih : ∀ (i : Nat), i + 4 ≤ L + 4 → L + 4 - i < n → ∀ (σx σm : sS), Rel σx σm → ∀ (H : Heap) (locs : List Loc) (ls : Array Slot), va_P D classes (wl cA ax σx LX) H → va_P D classes (wl cA am σm LM) H → va_S (fun q : Nat => s.heap.size ≤ q) s.heap H locs → lv_has ls 4 [(0, .ref b), (1, .ref (ax 0)), (2, .ref (am 0)), (3, .int (nI i))] → W p l e room_1 s m #[Value.ref b] below meth c H locs 125 46410 (lw_Z below #[Value.ref b] s) (F0 m 18 ls []))
    {σx σm : sS} (hR : Rel σx σm) {H : Heap} {locs : List Loc} {ls : Array Slot} (hPx : va_P D classes (wl cA ax σx LX) H) (hPm : va_P D classes (wl cA am σm LM) H) (hS : va_S (fun q : Nat => s.heap.size ≤ q) s.heap H locs) (hl : lv_has ls 4 [(0, .ref b), (1, .ref (ax 0)), (2, .ref (am 0)), (3, .int (nI i))]) : W p l e room_1 s m #[Value.ref b] below meth c H locs 125 46410 (lw_Z below #[Value.ref b] s) (F0 m 844 ls []) := by
  obtain ⟨hx, hb, hr, hml, hown, hts, hX, hbl, hlocks, hgv⟩ := id C0
  have hA : ∀ q : Nat, s.heap.size ≤ q → (fun q : Nat => s.heap.size ≤ q) q := fun _ h => h
  have hbA : ¬ (fun q : Nat => s.heap.size ≤ q) b := Nat.not_le.mpr hbl
  have htA := ALL_law hts
  have hN := NW_law hts
  obtain ⟨r, Px, Pm, hcx, hcm, hR2⟩ := hst (xs (nI i + 1).toNatClampNeg) σx σm hR
  have hin1 : vp_in (nI i + 1) L := by rw [show (1 : Int32) = nI 1 from rfl, nI_add]; exact vp_in_nI (by omega) (by omega)
  refine lv_aload_n hx hb (by decide +kernel : decode code 844 = .ok (.aload_n 1, 1)) rfl (lv_at hl 1 rfl) ?_
  refine lv_aload_n hx hb (by decide +kernel : decode code 845 = .ok (.aload_n 0, 1)) rfl (lv_at hl 0 rfl) ?_
  refine lv_iload_n hx hb (by decide +kernel : decode code 846 = .ok (.iload_n 3, 1)) rfl (lv_at hl 3 rfl) ?_
  refine lv_iconst (v := 1) hx hb (by decide +kernel : decode code 847 = .ok (.iconst 1, 1)) (by decide) ?_
  refine lv_iadd hx hb (by decide +kernel : decode code 848 = .ok (.iadd, 1)) ?_
  refine va_sld hx hb hX hbl hbA hS hin1 (by decide +kernel : decode code 849 = .ok (.iaload, 1)) ?_
  refine sm_call (Y := LX) (ad := ax) (d := 300) (b := 0) (as0 := [sI (xs (nI i + 1).toNatClampNeg)]) (rest := []) (ct_LW_GF_count LX) rfl rfl hcx LX_ok (fun v hv => by simp only [List.mem_cons, List.not_mem_nil, or_false] at hv; rcases hv with rfl <;> trivial) hx hb hml hown htA hN hKK hPx (wl_D _ hDx) hS hA hl.1 (Nat.le_of_ble_eq_true rfl) rfl (Nat.le_of_ble_eq_true rfl) ⟨Nat.le_of_ble_eq_true rfl, Nat.le_of_ble_eq_true rfl⟩ ⟨Nat.le_of_ble_eq_true rfl, Nat.le_of_ble_eq_true rfl⟩ (by decide +kernel : decode code 850 = .ok (.invokevirtual 139, 3)) rfl (fun r0 σ0 H1 locs1 hq hP1 hz hkk hS1 => ?_)
  obtain ⟨e1, e2⟩ := rI_eq hq
  subst e1
  have gx := e2
  have hPm1 := va_keep hPm hkk (fun i j x y hi hj => by rw [(wl_ad hi).1, (wl_ad hj).1]; exact fun z => hdis j i (wl_ad hj).2 (wl_ad hi).2 z.symm)
  clear hkk hz hS hPm hPx hq
  have hPx := hP1
  have hPm := hPm1
  have hS := hS1
  clear hP1 hPm1 hS1
  refine lv_aload_n hx hb (by decide +kernel : decode code 853 = .ok (.aload_n 2, 1)) rfl (lv_at hl 2 rfl) ?_
  refine lv_aload_n hx hb (by decide +kernel : decode code 854 = .ok (.aload_n 0, 1)) rfl (lv_at hl 0 rfl) ?_
  refine lv_iload_n hx hb (by decide +kernel : decode code 855 = .ok (.iload_n 3, 1)) rfl (lv_at hl 3 rfl) ?_
  refine lv_iconst (v := 1) hx hb (by decide +kernel : decode code 856 = .ok (.iconst 1, 1)) (by decide) ?_
  refine lv_iadd hx hb (by decide +kernel : decode code 857 = .ok (.iadd, 1)) ?_
  refine va_sld hx hb hX hbl hbA hS hin1 (by decide +kernel : decode code 858 = .ok (.iaload, 1)) ?_
  refine sm_call (Y := LM) (ad := am) (d := 300) (b := 0) (as0 := [sI (xs (nI i + 1).toNatClampNeg)]) (rest := [.int r]) (ct_LW_MO_count LM) rfl rfl hcm LM_ok (fun v hv => by simp only [List.mem_cons, List.not_mem_nil, or_false] at hv; rcases hv with rfl <;> trivial) hx hb hml hown htA hN hKK hPm (wl_D _ hDm) hS hA hl.1 (Nat.le_of_ble_eq_true rfl) rfl (Nat.le_of_ble_eq_true rfl) ⟨Nat.le_of_ble_eq_true rfl, Nat.le_of_ble_eq_true rfl⟩ ⟨Nat.le_of_ble_eq_true rfl, Nat.le_of_ble_eq_true rfl⟩ (by decide +kernel : decode code 859 = .ok (.invokevirtual 142, 3)) rfl (fun r0 σ0 H1 locs1 hq hP1 hz hkk hS1 => ?_)
  obtain ⟨e1, e2⟩ := rI_eq hq
  subst e1
  have gm := e2
  have hPx1 := va_keep hPx hkk (fun i j x y hi hj => by rw [(wl_ad hi).1, (wl_ad hj).1]; exact hdis i j (wl_ad hi).2 (wl_ad hj).2)
  clear hkk hz hS hPm hPx hq
  have hPm := hP1
  have hPx := hPx1
  have hS := hS1
  clear hP1 hPx1 hS1
  refine lv_icmp_eq (tgt := 867) hx hb (by decide +kernel : decode code 862 = .ok (.if_icmp .eq 5, 3)) (by decide) (fun _ => ?_) (fun z => absurd rfl z)
  refine lv_iinc (v := nI (i + 4)) (lv' := [(3, .int (nI (i + 4))), (0, .ref b), (1, .ref (ax 0)), (2, .ref (am 0))]) hx hb (by decide +kernel : decode code 867 = .ok (.iinc 3 4, 3)) hl (k := 3) rfl (by rw [← nI_add]; rfl) (by decide) rfl (fun ls hl => ?_)
  refine lv_goto (tgt := 18) hx hb (by decide +kernel : decode code 870 = .ok (.goto (-852), 3)) (by decide) ?_
  exact ih (i + 4) (by omega) (by omega) _ _ (hR2 _ _ gx gm) _ _ ls hPx hPm hS (lv_sub hl [1, 2, 3, 0] rfl)
end LAW
