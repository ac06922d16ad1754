/-! the reference reads values: a part begins -/
def inc (o : OP) : OP := match o with
  | [] => []
  | q :: r => (q.1, q.2 + 1) :: r
def RG (L : Nat → Nat) (n : Nat) (σ : sS) (i B P : Nat) (o : OP) : Prop := TP L n σ i ∧ σ 0 6 = nI P ∧ P ≤ B ∧ B ≤ 97 ∧ σ 0 45 = nI o.length ∧ o.length ≤ B ∧ ost 20 σ o ∧ (∀ q, q ∈ o → (q.1 = 2 ∨ q.1 = 3) ∧ q.2 ≤ B) ∧ ∀ q, q ∈ o.tail → 1 ≤ q.2
theorem RG.mono {L : Nat → Nat} {n : Nat} {σ : sS} {i B B' P : Nat} {o : OP} (h : RG L n σ i B P o) (hb : B ≤ B') (hb2 : B' ≤ 97) : RG L n σ i B' P o := by
  obtain ⟨a1, a2, a3, a4, a5, a6, a7, a8, a9⟩ := h
  exact ⟨a1, a2, by omega, hb2, a5, by omega, a7, fun q hq => ⟨(a8 q hq).1, by have := (a8 q hq).2; omega⟩, a9⟩
def bdR (P : Nat) (o : OP) : Prop := 20 ≤ P ∨ 5 ≤ o.length ∨ ∃ q r, o = q :: r ∧ q.1 = 3 ∧ 4 ≤ q.2
def m20 (P : Nat) : Nat := if P < 20 then P else 20
/-- what has changed when a part has begun -/
def BP (σ σ' : sS) (i P : Nat) (o : OP) (of x : Nat) : Prop := (bdR P o → σ' 0 44 = if σ 0 44 < 0 then nI i else σ 0 44) ∧ (¬ bdR P o → σ' 0 44 = σ 0 44) ∧
  σ' 2 (m20 P) = nI of ∧ σ' 3 (m20 P) = nI x ∧ σ' 4 (m20 P) = σ 0 46 ∧ (∀ y, y ≠ m20 P → σ' 2 y = σ 2 y ∧ σ' 3 y = σ 3 y ∧ σ' 4 y = σ 4 y) ∧ σ' 0 46 = σ 0 46 ∧ σ' 30 = σ 30 ∧ σ' 32 = σ 32 ∧ mV σ σ'
theorem RG.next {L : Nat → Nat} {n : Nat} {σ : sS} {i B P : Nat} {o : OP} (h : RG L n σ i B P o) (hi : i < n) : RG L n (up σ 0 43 (nI (i + 1))) (i + 1) B P o := by
  obtain ⟨a1, a2, a3, a4, a5, a6, a7, a8, a9⟩ := h
  exact ⟨a1.next hi, by rw [up_other _ _ (Or.inr (by omega))]; exact a2, a3, a4, by rw [up_other _ _ (Or.inr (by omega))]; exact a5, a6, a7.kept (fun y _ => ⟨by rw [up_cell _ _ (by omega)], by rw [up_cell _ _ (by omega)], by rw [up_cell _ _ (by omega)]⟩), a8, a9⟩
