/-! what would be -/
def MND (σ : sS) (v0 : VT) : Prop := ∃ R, KV σ 920 R ∧ MB R v0
theorem MND.kept {σ σ' : sS} {v0 : VT} (h : MND σ v0) (e : σ' 35 = σ 35) : MND σ' v0 := by
  obtain ⟨R, a, b⟩ := h
  exact ⟨R, a.same (fun j _ _ => by rw [e]), b⟩
