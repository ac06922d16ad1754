/-! the reference: what is found -/
def FM (σ : sS) (L : List Nat) (w : Nat) : Prop := σ 0 33 = nI L.length ∧ σ 0 34 = nI w ∧ ∀ i x, L[i]? = some x → σ 20 i = nI (x / 100) ∧ σ 21 i = nI (x % 100)
def fdK (σ σ' : sS) : Prop := (∀ x, x ≠ 0 → x ≠ 20 → x ≠ 21 → σ' x = σ x) ∧ ∀ i, i ≠ 33 → i ≠ 34 → σ' 0 i = σ 0 i
theorem fdK.refl (σ : sS) : fdK σ σ := ⟨fun _ _ _ _ => rfl, fun _ _ _ => rfl⟩
theorem fdK.trans {σ σ1 σ2 : sS} (h : fdK σ σ1) (g : fdK σ1 σ2) : fdK σ σ2 := ⟨fun c a b e => by rw [g.1 c a b e, h.1 c a b e], fun i a b => by rw [g.2 i a b, h.2 i a b]⟩
def GM (σ : sS) (v : VT) (c : CT) : Prop := MV σ v ∧ MC σ c
theorem GM.kept {σ σ' : sS} {v : VT} {c : CT} (wc : WFC c) (h : GM σ v c) (hk : fdK σ σ') : GM σ' v c := ⟨h.1.kept (hk.2 6 (by omega) (by omega)) (fun x a b => hk.1 x (by omega) (by omega) (by omega)), h.2.kept wc (fun i a b => hk.2 i (by omega) (by omega)) (fun x a b => hk.1 x (by omega) (by omega) (by omega))⟩
theorem FM.wait {σ : sS} {L : List Nat} {w : Nat} (h : FM σ L w) : FM (up σ 0 34 (nI (w + 1))) L (w + 1) ∧ fdK σ (up σ 0 34 (nI (w + 1))) :=
  ⟨⟨by rw [up_other _ _ (Or.inr (by omega))]; exact h.1, up_self _ _ _ _, fun i x hx => by rw [up_cell _ _ (by omega), up_cell _ _ (by omega)]; exact h.2.2 i x hx⟩, ⟨fun c a b e => up_cell _ _ a, fun i a b => up_other _ _ (Or.inr b)⟩⟩
theorem cnt_mono (p : Nat → Bool) {a b : Nat} (h : a ≤ b) : cnt p a ≤ cnt p b := by
  induction b with
  | zero =>
    have : a = 0 := by omega
    subst this
    exact Nat.le_refl _
  | succ b ih =>
    by_cases e : a = b + 1
    · subst e; exact Nat.le_refl _
    · exact Nat.le_trans (ih (by omega)) (Nat.le_add_right _ _)
theorem cnt_lt (p : Nat → Bool) {a b : Nat} (h : a < b) (hp : p a = true) : cnt p a < cnt p b := by
  have h1 := cnt_mono p (show a + 1 ≤ b by omega)
  have h2 : cnt p (a + 1) = cnt p a + 1 := by
    show cnt p a + (if p a then 1 else 0) = _
    rw [hp]; rfl
  omega
