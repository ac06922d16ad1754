/-! the reference's rows of parts -/
theorem z_eq {n : Nat} (h : n < 2 ^ 31) (m : Nat) (hm : m < 2 ^ 31) : (nI n = (OfNat.ofNat m : Int32)) ↔ n = m := i32_eq h hm
theorem cl_nI {n : Nat} (h : n < 2 ^ 31) : Int32.toNatClampNeg (nI n) = n := nI_clamp h
/-- what the reference's rows hold ahead of the measuring -/
def MB (σ : sS) (v : VT) : Prop := σ 0 6 = nI v.1 ∧ (∀ p, p < v.1 → σ 2 p = nI (v.2 0 p) ∧ σ 3 p = nI (if v.2 0 p = 0 then v.2 1 p else v.2 2 p)) ∧ ∀ p k, p < v.1 → v.2 0 p = 2 → k < v.2 2 p → σ 4 (kch v p k) = nI (v.2 3 (kch v p k))
theorem MB.kept {σ σ' : sS} {v : VT} (h : MB σ v) (h0 : σ' 0 6 = σ 0 6) (hk : ∀ c, 2 ≤ c → c < 5 → σ' c = σ c) : MB σ' v := ⟨by rw [h0]; exact h.1, fun p hp => by
  rw [hk 2 (by omega) (by omega), hk 3 (by omega) (by omega)]
  exact h.2.1 p hp, fun p k hp h2 hk2 => by rw [hk 4 (by omega) (by omega)]; exact h.2.2 p k hp h2 hk2⟩
