/-! checks told in letters: the reference reads a check -/
theorem CB.congr {σ σ' : sS} {i j P w sg lo hi : Nat} {b b' : Prop} (h : CB σ σ' i j P w sg lo hi b) (e : b' ↔ b) : CB σ σ' i j P w sg lo hi b' := by
  obtain ⟨h1, h2, h3⟩ := h
  exact ⟨fun z => h1 (e.mp z), fun z => h2 (fun y => z (e.mpr y)), h3⟩
theorem SBc.of {n : Nat} {R : Nat ⊕ CT} {σ σ' : sS} (hn : n ≤ 96) (h : SBc n R σ) (h44 : σ' 0 44 = σ 0 44 ∨ ∃ i, σ' 0 44 = if σ 0 44 < 0 then nI i else σ 0 44) : SBc n R σ' := by
  obtain ⟨p, p1, p2, p3⟩ := h
  refine ⟨p, p1, p2, ?_⟩
  rcases h44 with e | ⟨i, e⟩
  · rw [e]; exact p3
  · rw [e, p3, if_neg (nI_pos (by omega))]
