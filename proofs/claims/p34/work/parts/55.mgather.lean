/-! the reference: finding faults -/
/-- a world that differs in what is found and in the stack alone -/
def gK (σ σ' : sS) : Prop := (∀ x, x ≠ 0 → (x < 20 ∨ 28 < x) → σ' x = σ x) ∧ ∀ i, i ≠ 33 → i ≠ 34 → i ≠ 35 → σ' 0 i = σ 0 i
