/-! the reference's value: taking out, putting, leaving out -/
/-- a world that differs in the value's rows alone -/
def mK (σ σ' : sS) : Prop := (∀ c, c ≠ 0 → (c < 2 ∨ 6 < c) → σ' c = σ c) ∧ ∀ i, i ≠ 6 → σ' 0 i = σ 0 i
theorem mK.refl (σ : sS) : mK σ σ := ⟨fun _ _ _ => rfl, fun _ _ => rfl⟩
theorem mK.trans {σ σ1 σ2 : sS} (h : mK σ σ1) (g : mK σ1 σ2) : mK σ σ2 := ⟨fun c h0 hc => by rw [g.1 c h0 hc, h.1 c h0 hc], fun i hi => by rw [g.2 i hi, h.2 i hi]⟩
theorem mK.of {σ σ' : sS} (h : ∀ c, c ≠ 5 → c ≠ 6 → σ' c = σ c) : mK σ σ' := ⟨fun c _ hc => h c (by omega) (by omega), fun i _ => by rw [h 0 (by omega) (by omega)]⟩
theorem nI_div (a b : Nat) (ha : a < 2 ^ 31) (hb : b < 2 ^ 31) : nI a / nI b = nI (a / b) := by
  apply Int32.toInt_inj.mp
  have h1 := nI_toInt ha
  have h2 := nI_toInt hb
  have h3 := nI_toInt (show a / b < 2 ^ 31 from Nat.lt_of_le_of_lt (Nat.div_le_self a b) ha)
  rw [Int32.toInt_div_of_ne_left, h1, h2, h3]
  · rfl
  · intro e
    have := congrArg Int32.toInt e
    rw [h1] at this
    have : (Int32.minValue).toInt = -2147483648 := by decide
    omega
