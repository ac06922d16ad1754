/-! the row; parts -/
theorem iIn01 (w : Int32) : (w = 0 ∨ w = 1 → iIn w 0 1 = 1) ∧ (¬ (w = 0 ∨ w = 1) → iIn w 0 1 = 0) := by
  by_cases h0 : w < 0
  · have e : iIn w 0 1 = 0 := iIn_neg (lo := 0) h0 (by omega)
    refine ⟨fun z => ?_, fun _ => e⟩
    rcases z with z | z <;> rw [z] at h0 <;> exact absurd h0 (by decide)
  · obtain ⟨x, hx, rfl⟩ := i32_nI h0
    have e : iIn (nI x) 0 1 = if 1 < x then 0 else 1 := (iIn_nI (lo := 0) (hi := 1) hx (by omega) (by omega)).trans (by rw [if_neg (by omega)])
    rw [e, z_eq hx 0 (by omega), z_eq hx 1 (by omega)]
    exact ⟨fun z => by rw [if_neg (by omega)], fun z => by rw [if_pos (by omega)]⟩
