/-! checks told in letters: the reference ends a check -/
def ostC (σ : sS) : OC → Prop
  | [] => True
  | q :: r => (σ 31 r.length = nI q.1 ∧ openS q.1 ∧ (q.1 ≠ 123 → σ 33 r.length = nI q.2.1 ∧ q.2.1 ≤ 1 ∧ (q.2.1 = 1 → q.1 = 47) ∧ q.2.2 = false) ∧ (q.1 = 123 → ∃ x, x ≤ 24 ∧ σ 33 r.length = nI x) ∧ (∃ x, x ≤ 24 ∧ σ 30 r.length = nI x) ∧ (∃ N, N < 64 ∧ σ 32 r.length = nI N ∧ (N % 2 = 1 ↔ q.2.2 = true)) ∧ (∃ x, x ≤ 1 ∧ σ 34 r.length = nI x)) ∧ ostC σ r
theorem ostC.kept {σ σ' : sS} : ∀ {o : OC}, ostC σ o → (∀ i, i < o.length → σ' 30 i = σ 30 i ∧ σ' 31 i = σ 31 i ∧ σ' 32 i = σ 32 i ∧ σ' 33 i = σ 33 i ∧ σ' 34 i = σ 34 i) → ostC σ' o
  | [], _, _ => True.intro
  | q :: r, h, g => by
    obtain ⟨g0, g1, g2, g3, g4⟩ := g r.length (by rw [List.length_cons]; omega)
    refine ⟨?_, ostC.kept h.2 (fun i hi => g i (by rw [List.length_cons]; omega))⟩
    rw [g0, g1, g2, g3, g4]
    exact h.1
def eK (σ σ' : sS) : Prop := (∀ x, x ≠ 0 → x ≠ 10 → x ≠ 11 → x ≠ 15 → x ≠ 33 → σ' x = σ x) ∧ ∀ i, i ≠ 45 → σ' 0 i = σ 0 i
theorem eK.refl (σ : sS) : eK σ σ := ⟨fun _ _ _ _ _ _ => rfl, fun _ _ => rfl⟩
theorem eK.trans {σ σ1 σ2 : sS} (h : eK σ σ1) (g : eK σ1 σ2) : eK σ σ2 := ⟨fun x a b c d e => by rw [g.1 x a b c d e, h.1 x a b c d e], fun i hi => by rw [g.2 i hi, h.2 i hi]⟩
