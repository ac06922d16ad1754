/-! the reference reads values: inside what is open, the whole -/
/-- what is told, as the rows have it -/
theorem MT.whole {σ : sS} {v : VT} (wp : WFP v) (h : MT σ v [] 0) : MB σ (lnk v) := by
  refine ⟨h.1, fun p hp => ?_, fun p k hp h2 hk => ?_⟩
  · obtain ⟨a, b⟩ := h.2.1 p hp
    exact ⟨a, b List.not_mem_nil⟩
  · show σ 4 (kch v p k) = nI (lkD v (kch v p k))
    rw [lkD_rec wp hp hk h2]
    exact h.2.2.1 p k hp h2 hk
