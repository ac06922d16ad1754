/-! the value: how many parts, and of each: kind 0, number 1, how many in it 2, digit 3, span 4, path 5, level 6 -/
abbrev VT : Type := Nat × (Nat → Nat → Nat)
def kch (v : VT) (p k : Nat) : Nat := ch (v.2 4) p k
def WFV (v : VT) : Prop := 1 ≤ v.1 ∧ v.1 ≤ 20 ∧ T1 v.1 (v.2 2) (v.2 4) ∧ v.2 4 0 = v.1 ∧ v.2 5 0 = 0 ∧ v.2 6 0 = 0 ∧ v.2 3 0 = 0 ∧ ∀ p, p < v.1 →
  v.2 0 p ≤ 3 ∧ (v.2 0 p = 0 → v.2 1 p ≤ 99) ∧ (v.2 0 p ≠ 0 → v.2 1 p = 0) ∧ (v.2 0 p ≤ 1 → v.2 2 p = 0) ∧ (v.2 0 p = 3 → v.2 2 p ≤ 4) ∧ v.2 6 p ≤ 4 ∧
  (∀ k, k < v.2 2 p → (v.2 0 p = 3 → v.2 3 (kch v p k) = 6 + k) ∧ (v.2 0 p = 2 → 1 ≤ v.2 3 (kch v p k) ∧ v.2 3 (kch v p k) ≤ 5 ∧ ∀ j, j < v.2 2 p → v.2 3 (kch v p j) = v.2 3 (kch v p k) → j = k) ∧ v.2 5 (kch v p k) = 10 * v.2 5 p + v.2 3 (kch v p k) ∧ v.2 6 (kch v p k) = v.2 6 p + 1)
/-- the tree at t holds the value -/
def XV (σ : sS) (t : Nat) (v : VT) : Prop := σ t 6 = nI v.1 ∧ ∀ f, f < 6 → ∀ p, p < v.1 → σ (t + 1 + f) p = nI (v.2 f p)
/-- the reference's rows hold it -/
def MV (σ : sS) (v : VT) : Prop := σ 0 6 = nI v.1 ∧ (∀ p, p < v.1 → σ 2 p = nI (v.2 0 p) ∧ σ 3 p = nI (if v.2 0 p = 0 then v.2 1 p else v.2 2 p) ∧ σ 5 p = nI (v.2 4 p) ∧ σ 6 p = nI (v.2 5 p)) ∧ ∀ p k, p < v.1 → v.2 0 p = 2 → k < v.2 2 p → σ 4 (kch v p k) = nI (v.2 3 (kch v p k))
theorem XV.kept {σ σ' : sS} {t : Nat} {v : VT} (h : XV σ t v) (hk : ∀ c, t ≤ c → c < t + 7 → σ' c = σ c) : XV σ' t v := ⟨by rw [hk t (Nat.le_refl _) (by omega)]; exact h.1, fun f hf p hp => by rw [hk _ (by omega) (by omega)]; exact h.2 f hf p hp⟩
theorem MV.kept {σ σ' : sS} {v : VT} (h : MV σ v) (h0 : σ' 0 6 = σ 0 6) (hk : ∀ c, 2 ≤ c → c < 7 → σ' c = σ c) : MV σ' v := ⟨by rw [h0]; exact h.1, fun p hp => by
  rw [hk 2 (by omega) (by omega), hk 3 (by omega) (by omega), hk 5 (by omega) (by omega), hk 6 (by omega) (by omega)]
  exact h.2.1 p hp, fun p k hp h2 hk2 => by rw [hk 4 (by omega) (by omega)]; exact h.2.2 p k hp h2 hk2⟩
theorem WFV.kids5 {v : VT} (h : WFV v) {p : Nat} (hp : p < v.1) : v.2 2 p ≤ 5 := by
  obtain ⟨h1, h2, h3, h4, h5, h6, h60, h7⟩ := h
  obtain ⟨a1, a2, a3, a4, a5, a6, a7⟩ := h7 p hp
  rcases Nat.lt_or_ge (v.2 0 p) 2 with q | q
  · have := a4 (by omega); omega
  · rcases Nat.lt_or_ge (v.2 0 p) 3 with q2 | q2
    · have e2 : v.2 0 p = 2 := by omega
      exact fb_holes' 5 (v.2 2 p) (fun k => v.2 3 (kch v p k) - 1) (fun k hk => by
        have := (a7 k hk).2.1 e2
        show v.2 3 (kch v p k) - 1 < 5
        omega) (fun i j hi hj hij he => by
        have hi2 := (a7 i (by omega)).2.1 e2
        have hj2 := (a7 j hj).2.1 e2
        have he : v.2 3 (kch v p i) - 1 = v.2 3 (kch v p j) - 1 := he
        have := hj2.2.2 i (by omega) (by omega)
        omega)
    · have := a5 (by omega); omega
/-- how big a path can be on its level -/
theorem WFV.road {v : VT} (h : WFV v) : ∀ p, p < v.1 → v.2 5 p < 10 ^ v.2 6 p := by
  obtain ⟨h1, h2, h3, h4, h5, h6, h60, h7⟩ := h
  have key : ∀ n p, p < n → p < v.1 → v.2 5 p < 10 ^ v.2 6 p := by
    intro n
    induction n with
    | zero => intro p hp; omega
    | succ n ih =>
      intro p hpn hp
      by_cases e : p = 0
      · subst e
        rw [h5, h6]
        exact Nat.lt_succ_self 0
      · obtain ⟨q, k, hq, hk, he⟩ := par h3 (by omega) hp (by omega)
        have hqn : q < v.1 := by omega
        obtain ⟨a1, a2, a3, a4, a5, a6, a7⟩ := h7 q hqn
        obtain ⟨b1, b2, b3, b4⟩ := a7 k hk
        have he' : kch v q k = p := he
        rw [he'] at b1 b2 b3 b4
        have hd : v.2 3 p ≤ 9 := by
          rcases Nat.lt_or_ge (v.2 0 q) 2 with z | z
          · have := a4 (by omega); omega
          · rcases Nat.lt_or_ge (v.2 0 q) 3 with z2 | z2
            · exact Nat.le_trans (b2 (by omega)).2.1 (by omega)
            · have := b1 (by omega)
              have := a5 (by omega)
              omega
        have := ih q (by omega) hqn
        rw [b3, b4, Nat.pow_succ]
        omega
  intro p hp
  exact key (p + 1) p (Nat.lt_succ_self p) hp
theorem WFV.road4 {v : VT} (h : WFV v) {p : Nat} (hp : p < v.1) : v.2 5 p < 10000 := by
  have h1 := h.road p hp
  have h2 : v.2 6 p ≤ 4 := (h.2.2.2.2.2.2.2 p hp).2.2.2.2.2.1
  have : 10 ^ v.2 6 p ≤ 10 ^ 4 := Nat.pow_le_pow_right (by omega) h2
  omega
/-- a digit of what is in another -/
theorem WFV.dig {v : VT} (h : WFV v) {p k : Nat} (hp : p < v.1) (hk : k < v.2 2 p) : 1 ≤ v.2 3 (kch v p k) ∧ v.2 3 (kch v p k) ≤ 9 := by
  obtain ⟨h1, h2, h3, h4, h5, h6, h60, h7⟩ := h
  obtain ⟨a1, a2, a3, a4, a5, a6, a7⟩ := h7 p hp
  obtain ⟨b1, b2, b3, b4⟩ := a7 k hk
  rcases Nat.lt_or_ge (v.2 0 p) 2 with z | z
  · have := a4 (by omega); omega
  · rcases Nat.lt_or_ge (v.2 0 p) 3 with z2 | z2
    · have := b2 (by omega); omega
    · have := b1 (by omega)
      have := a5 (by omega)
      omega
theorem WFV.dig1 {v : VT} (h : WFV v) {p i j : Nat} (hp : p < v.1) (hi : i < v.2 2 p) (hj : j < v.2 2 p) (e : v.2 3 (kch v p i) = v.2 3 (kch v p j)) : i = j := by
  obtain ⟨h1, h2, h3, h4, h5, h6, h60, h7⟩ := h
  obtain ⟨a1, a2, a3, a4, a5, a6, a7⟩ := h7 p hp
  rcases Nat.lt_or_ge (v.2 0 p) 2 with z | z
  · have := a4 (by omega); omega
  · rcases Nat.lt_or_ge (v.2 0 p) 3 with z2 | z2
    · exact ((a7 j hj).2.1 (by omega)).2.2 i hi e
    · have := (a7 i hi).1 (by omega)
      have := (a7 j hj).1 (by omega)
      omega
theorem WFV.sp20 {v : VT} (h : WFV v) {p : Nat} (hp : p < v.1) : 1 ≤ v.2 4 p ∧ p + v.2 4 p ≤ v.1 ∧ v.2 4 p ≤ 20 := by
  have := h.2.2.1 p hp
  have := h.2.1
  omega
theorem WFV.kchlt {v : VT} (h : WFV v) {p k : Nat} (hp : p < v.1) (hk : k < v.2 2 p) : p < kch v p k ∧ kch v p k < v.1 := ⟨ch_gt _ _ _, ch_part h.2.2.1 hp hk⟩
