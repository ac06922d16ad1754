/-! checks told in letters: the reference begins a check -/
def mC (σ σ' : sS) : Prop := (∀ x, x ≠ 0 → (x < 7 ∨ 19 < x) → (x < 30 ∨ 34 < x) → σ' x = σ x) ∧ ∀ i, (i < 20 ∨ 23 < i) → (i < 43 ∨ 45 < i) → σ' 0 i = σ 0 i
theorem mC.refl (σ : sS) : mC σ σ := ⟨fun _ _ _ _ => rfl, fun _ _ _ => rfl⟩
theorem mC.trans {σ σ1 σ2 : sS} (h : mC σ σ1) (g : mC σ1 σ2) : mC σ σ2 := ⟨fun x a b c => by rw [g.1 x a b c, h.1 x a b c], fun i a b => by rw [g.2 i a b, h.2 i a b]⟩
def SBc (n : Nat) (R : Nat ⊕ CT) (σ : sS) : Prop := ∃ p, p < n ∧ R = .inl p ∧ σ 0 44 = nI p
def m24 (P : Nat) : Nat := if P < 24 then P else 24
/-- what has changed when a check's sign (and its digits) are read; bd: it is not as it must be -/
def CB (σ σ' : sS) (i j P w sg lo hi : Nat) (bd : Prop) : Prop := (bd → σ' 0 44 = if σ 0 44 < 0 then nI i else σ 0 44) ∧ (¬ bd → σ' 0 44 = σ 0 44) ∧ σ' 7 (m24 P) = nI sg ∧ σ' 8 (m24 P) = nI lo ∧ σ' 9 (m24 P) = nI hi ∧ (∀ x, 7 ≤ x → x ≤ 11 → ∀ y, y ≠ m24 P → σ' x y = σ x y) ∧ σ' 0 20 = nI (P + 1) ∧ σ' 0 23 = nI (if sg = 94 then w + 1 else w) ∧ σ' 0 43 = nI j ∧ (∀ x, x ≠ 0 → (x < 7 ∨ 11 < x) → σ' x = σ x) ∧ (∀ j, j ≠ 20 → j ≠ 23 → j ≠ 43 → j ≠ 44 → σ' 0 j = σ 0 j)
