/-! the reference reads values: ends, fields, the loop -/
theorem bitsA : ∀ N, N < 64 → ∀ d, d < 6 → (nI N ||| ((1 : Int32) <<< (nI d &&& 31))) = nI (if N / 2 ^ d % 2 = 1 then N else N + 2 ^ d) := by decide +kernel
theorem bitsB : ∀ N, N < 64 → ∀ d, d < 6 → (if N / 2 ^ d % 2 = 1 then N else N + 2 ^ d) < 64 ∧ ∀ x, x < 6 → ((if N / 2 ^ d % 2 = 1 then N else N + 2 ^ d) / 2 ^ x % 2 = 1 ↔ N / 2 ^ x % 2 = 1 ∨ x = d) := by decide +kernel
theorem RG.tail {L : Nat → Nat} {n : Nat} {σ σ' : sS} {i j B P : Nat} {q : Nat × Nat} {r : OP} (h : RG L n σ i B P (q :: r)) (hT : TP L n σ' j) (h6 : σ' 0 6 = σ 0 6) (h45 : σ' 0 45 = nI r.length) (hc : ∀ c, 30 ≤ c → c ≤ 33 → σ' c = σ c) : RG L n σ' j B P r := by
  obtain ⟨a1, a2, a3, a4, a5, a6, a7, a8, a9⟩ := h
  rw [List.length_cons] at a6
  exact ⟨hT, by rw [h6]; exact a2, a3, a4, h45, by omega, a7.2.kept (fun y _ => ⟨by rw [hc 30 (by omega) (by omega)], by rw [hc 31 (by omega) (by omega)], by rw [hc 33 (by omega) (by omega)]⟩), fun x hx => a8 x (List.mem_cons_of_mem _ hx), fun x hx => a9 x (List.mem_of_mem_tail hx)⟩
