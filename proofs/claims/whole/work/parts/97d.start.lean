/-! the start -/
def v00 : VT := (1, fun f _ => match f with
  | 4 => 1
  | _ => 0)
def cs0 : CT := (1, 0, fun f _ => match f with
  | 0 => 42
  | 3 => 1
  | _ => 0, fun _ _ => 0, 0, fun _ => 0)
theorem lt_one {p : Nat} (h : p < 1) : p = 0 := by omega
theorem wf_v00 : WFV v00 := by
  refine ⟨Nat.le_refl _, by decide, fun p hp => ?_, rfl, rfl, rfl, rfl, fun p hp => ?_⟩
  · have e : p = 0 := lt_one hp
    subst e
    exact ⟨Nat.le_refl _, rfl, by decide, fun k hk => absurd hk (Nat.not_lt_zero _)⟩
  · have e : p = 0 := lt_one hp
    subst e
    exact ⟨by decide, fun _ => by decide, fun _ => rfl, fun _ => rfl, fun z => absurd z (by decide), by decide, fun k hk => absurd hk (Nat.not_lt_zero _)⟩
theorem wf_c00 : WFC cs0 := by
  refine ⟨Nat.le_refl _, by decide, by decide, by decide, fun p hp => ?_, rfl, rfl, fun p hp => ?_, fun p hp z => ?_, fun w hw => absurd hw (Nat.not_lt_zero _), fun f hf => absurd hf (Nat.not_lt_zero _)⟩
  · have e : p = 0 := lt_one hp
    subst e
    exact ⟨Nat.le_refl _, rfl, by decide, fun k hk => absurd hk (Nat.not_lt_zero _)⟩
  · have e : p = 0 := lt_one hp
    subst e
    exact ⟨Or.inl rfl, by decide, by decide, by decide, by decide, by decide, by decide, by decide, fun z => absurd z (by decide), fun k hk => absurd hk (Nat.not_lt_zero _)⟩
  · exact absurd z (show ¬ (42 : Nat) = 123 by decide)
theorem xv_00 : XV σX0 1 v00 := by
  refine ⟨by decide +kernel, fun f hf p hp => ?_⟩
  have e : p = 0 := lt_one hp
  subst e
  rcases (show f = 0 ∨ f = 1 ∨ f = 2 ∨ f = 3 ∨ f = 4 ∨ f = 5 by omega) with rfl | rfl | rfl | rfl | rfl | rfl <;> decide +kernel
theorem xc_00 : XC σX0 16 cs0 := by
  refine ⟨by decide +kernel, by decide +kernel, fun f hf p hp => ?_, fun f hf w hw => absurd hw (Nat.not_lt_zero _)⟩
  have e : p = 0 := lt_one hp
  subst e
  rcases (show f = 0 ∨ f = 1 ∨ f = 2 ∨ f = 3 ∨ f = 4 ∨ f = 5 ∨ f = 6 ∨ f = 7 ∨ f = 8 ∨ f = 9 by omega) with rfl | rfl | rfl | rfl | rfl | rfl | rfl | rfl | rfl | rfl <;> decide +kernel
theorem mv_00 : MV σM1 v00 := by
  refine ⟨by decide +kernel, fun p hp => ?_, fun p k hp z => absurd z (show ¬ (0 : Nat) = 2 by decide)⟩
  have e : p = 0 := lt_one hp
  subst e
  exact ⟨by decide +kernel, by decide +kernel, by decide +kernel, by decide +kernel⟩
theorem mc_00 : MC σM1 cs0 := by
  refine ⟨by decide +kernel, by decide +kernel, by decide +kernel, fun p hp => ?_, fun f hf => absurd hf (Nat.not_lt_zero _), fun w hw => absurd hw (Nat.not_lt_zero _)⟩
  have e : p = 0 := lt_one hp
  subst e
  exact ⟨by decide +kernel, by decide +kernel, by decide +kernel, fun _ z => absurd z (show ¬ 1 ≤ (0 : Nat) by decide), fun z => absurd z (show ¬ (42 : Nat) = 47 by decide)⟩
theorem rel_start : RelS σX0 σM1 := by
  refine ⟨v00, cs0, 0, fun _ => 0, 0, fun _ => 0, fun _ => 0, none, ⟨wf_v00, wf_c00, by decide, fun i hi => absurd hi (Nat.not_lt_zero _), by decide, fun i hi => absurd hi (Nat.not_lt_zero _), fun v' c' e => (by cases e)⟩, ⟨xv_00, xc_00, by decide +kernel, fun i hi => absurd hi (Nat.not_lt_zero _), by decide +kernel, fun i hi => absurd hi (Nat.not_lt_zero _), fun i hi => rfl, fun _ => by decide +kernel, fun v' c' e => (by cases e)⟩, ⟨mv_00, mc_00, by decide +kernel, fun i hi => absurd hi (Nat.not_lt_zero _), by decide +kernel, fun i hi => absurd hi (Nat.not_lt_zero _), fun i hi => ?_, fun _ => by decide +kernel, fun v' c' e => (by cases e)⟩⟩
  rcases (show i = 0 ∨ i = 1 ∨ i = 2 ∨ i = 3 ∨ i = 4 ∨ i = 5 ∨ i = 6 by omega) with rfl | rfl | rfl | rfl | rfl | rfl | rfl <;> decide +kernel
