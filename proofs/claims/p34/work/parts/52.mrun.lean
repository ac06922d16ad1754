/-! the reference: looking, by the frame on top -/
def mF (D : Nat) (σ σ' : sS) : Prop := (∀ x, x ≠ 0 → (x < 20 ∨ 28 < x) → σ' x = σ x) ∧ (∀ i, i ≠ 33 → i ≠ 34 → i ≠ 35 → σ' 0 i = σ 0 i) ∧ ∀ x i, 22 ≤ x → x ≤ 28 → i < D → σ' x i = σ x i
theorem mF.refl (D : Nat) (σ : sS) : mF D σ σ := ⟨fun _ _ _ => rfl, fun _ _ _ _ => rfl, fun _ _ _ _ _ => rfl⟩
theorem mF.trans {D : Nat} {σ σ1 σ2 : sS} (h : mF D σ σ1) (g : mF D σ1 σ2) : mF D σ σ2 := ⟨fun c a b => by rw [g.1 c a b, h.1 c a b], fun i a b e => by rw [g.2.1 i a b e, h.2.1 i a b e], fun x i a b e => by rw [g.2.2 x i a b e, h.2.2 x i a b e]⟩
theorem FM.pop {σ : sS} {L : List Nat} {w : Nat} (h : FM σ L w) (x : Int32) : FM (up σ 0 35 x) L w := ⟨by rw [up_other _ _ (Or.inr (by omega))]; exact h.1, by rw [up_other _ _ (Or.inr (by omega))]; exact h.2.1, fun i y hy => by rw [up_cell _ _ (by omega), up_cell _ _ (by omega)]; exact h.2.2 i y hy⟩
