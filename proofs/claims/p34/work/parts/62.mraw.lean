/-! the reference reads letters: what its small methods do -/
def mV (σ σ' : sS) : Prop := (∀ x, x ≠ 0 → x ≠ 2 → x ≠ 3 → x ≠ 4 → (x < 30 ∨ 34 < x) → σ' x = σ x) ∧ ∀ i, i ≠ 6 → (i < 43 ∨ 46 < i) → σ' 0 i = σ 0 i
theorem mV.refl (σ : sS) : mV σ σ := ⟨fun _ _ _ _ _ _ => rfl, fun _ _ _ => rfl⟩
theorem mV.trans {σ σ1 σ2 : sS} (h : mV σ σ1) (g : mV σ1 σ2) : mV σ σ2 := ⟨fun x a b c d e => by rw [g.1 x a b c d e, h.1 x a b c d e], fun i a b => by rw [g.2 i a b, h.2 i a b]⟩
/-- letters that are read: how far, how many there are -/
def TP (L : Nat → Nat) (n : Nat) (σ : sS) (i : Nat) : Prop := σ 0 43 = nI i ∧ σ 0 42 = nI n ∧ (∀ j, j < n → σ 29 j = nI (L j) ∧ L j < 256) ∧ n ≤ 96 ∧ i ≤ n
theorem TP.kept {L : Nat → Nat} {n i j : Nat} {σ σ' : sS} (h : TP L n σ i) (h43 : σ' 0 43 = nI j) (hj : j ≤ n) (h42 : σ' 0 42 = σ 0 42) (h29 : σ' 29 = σ 29) : TP L n σ' j := ⟨h43, by rw [h42]; exact h.2.1, by rw [h29]; exact h.2.2.1, h.2.2.2.1, hj⟩
theorem TP.next {L : Nat → Nat} {n i : Nat} {σ : sS} (h : TP L n σ i) (hi : i < n) : TP L n (up σ 0 43 (nI (i + 1))) (i + 1) := h.kept (up_self _ _ _ _) hi (up_other _ _ (Or.inr (by omega))) (up_cell _ _ (by omega))
/-! what is open in the reference -/
abbrev OP : Type := List (Nat × Nat)
def ost (M : Nat) (σ : sS) : OP → Prop
  | [] => True
  | q :: r => (σ 31 r.length = nI q.1 ∧ σ 33 r.length = nI q.2 ∧ ∃ x, x ≤ M ∧ σ 30 r.length = nI x) ∧ ost M σ r
theorem ost.kept {M : Nat} {σ σ' : sS} : ∀ {o : OP}, ost M σ o → (∀ i, i < o.length → σ' 30 i = σ 30 i ∧ σ' 31 i = σ 31 i ∧ σ' 33 i = σ 33 i) → ost M σ' o
  | [], _, _ => True.intro
  | q :: r, h, g => by
    obtain ⟨g0, g1, g3⟩ := g r.length (by rw [List.length_cons]; omega)
    refine ⟨⟨by rw [g1]; exact h.1.1, by rw [g3]; exact h.1.2.1, ?_⟩, ost.kept h.2 (fun i hi => g i (by rw [List.length_cons]; omega))⟩
    obtain ⟨x, x1, x2⟩ := h.1.2.2
    exact ⟨x, x1, by rw [g0]; exact x2⟩
