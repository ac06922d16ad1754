/-! the value: how many parts, and of each: kind 0, number 1, how many in it 2, digit 3, span 4, path 5, level 6 -/
abbrev VT : Type := Nat × (Nat → Nat → Nat)
def kch (v : VT) (p k : Nat) : Nat := ch (v.2 4) p k
def WFV (v : VT) : Prop := 1 ≤ v.1 ∧ v.1 ≤ 20 ∧ T1 v.1 (v.2 2) (v.2 4) ∧ v.2 4 0 = v.1 ∧ v.2 5 0 = 0 ∧ v.2 6 0 = 0 ∧ v.2 3 0 = 0 ∧ ∀ p, p < v.1 →
  v.2 0 p ≤ 3 ∧ (v.2 0 p = 0 → v.2 1 p ≤ 99) ∧ (v.2 0 p ≠ 0 → v.2 1 p = 0) ∧ (v.2 0 p ≤ 1 → v.2 2 p = 0) ∧ (v.2 0 p = 3 → v.2 2 p ≤ 4) ∧ v.2 6 p ≤ 4 ∧
  (∀ k, k < v.2 2 p → (v.2 0 p = 3 → v.2 3 (kch v p k) = 6 + k) ∧ (v.2 0 p = 2 → 1 ≤ v.2 3 (kch v p k) ∧ v.2 3 (kch v p k) ≤ 5 ∧ ∀ j, j < v.2 2 p → v.2 3 (kch v p j) = v.2 3 (kch v p k) → j = k) ∧ v.2 5 (kch v p k) = 10 * v.2 5 p + v.2 3 (kch v p k) ∧ v.2 6 (kch v p k) = v.2 6 p + 1)
/-- the tree at t holds the value -/
def XV (σ : sS) (t : Nat) (v : VT) : Prop := σ t 6 = nI v.1 ∧ ∀ f, f < 6 → ∀ p, p < v.1 → σ (t + 1 + f) p = nI (v.2 f p)
/-- the reference's rows hold it -/
def MV (σ : sS) (v : VT) : Prop := σ 0 6 = nI v.1 ∧ (∀ p, p < v.1 → σ 2 p = nI (v.2 0 p) ∧ σ 3 p = nI (if v.2 0 p = 0 then v.2 1 p else v.2 2 p) ∧ σ 5 p = nI (v.2 4 p) ∧ σ 6 p = nI (v.2 5 p)) ∧ ∀ p k, p < v.1 → v.2 0 p = 2 → k < v.2 2 p → σ 4 (kch v p k) = nI (v.2 3 (kch v p k))
theorem XV.kept {σ σ' : sS} {t : Nat} {v : VT} (h : XV σ t v) (hk : ∀ c, t ≤ c → c < t + 7 → σ' c = σ c) : XV σ' t v := ⟨by rw [hk t (Nat.le_refl _) (by omega)]; exact h.1, fun f hf p hp => by rw [hk _ (by omega) (by omega)]; exact h.2 f hf p hp⟩
theorem MV.kept {σ σ' : sS} {v : VT} (h : MV σ v) (h0 : σ' 0 6 = σ 0 6) (hk : ∀ c, 2 ≤ c → c < 7 → σ' c = σ c) : MV σ' v := ⟨by rw [h0]; exact h.1, fun p hp => by
  rw [hk 2 (by omega) (by omega), hk 3 (by omega) (by omega), hk 5 (by omega) (by omega), hk 6 (by omega) (by omega)]
  exact h.2.1 p hp, fun p k hp h2 hk2 => by rw [hk 4 (by omega) (by omega)]; exact h.2.2 p k hp h2 hk2⟩
theorem WFV.kids5 {v : VT} (h : WFV v) {p : Nat} (hp : p < v.1) : v.2 2 p ≤ 5 := by
  obtain ⟨h1, h2, h3, h4, h5, h6, h60, h7⟩ := h
  obtain ⟨a1, a2, a3, a4, a5, a6, a7⟩ := h7 p hp
  rcases Nat.lt_or_ge (v.2 0 p) 2 with q | q
  · have := a4 (by omega); omega
  · rcases Nat.lt_or_ge (v.2 0 p) 3 with q2 | q2
    · have e2 : v.2 0 p = 2 := by omega
      exact fb_holes' 5 (v.2 2 p) (fun k => v.2 3 (kch v p k) - 1) (fun k hk => by
        have := (a7 k hk).2.1 e2
        show v.2 3 (kch v p k) - 1 < 5
        omega) (fun i j hi hj hij he => by
        have hi2 := (a7 i (by omega)).2.1 e2
        have hj2 := (a7 j hj).2.1 e2
        have he : v.2 3 (kch v p i) - 1 = v.2 3 (kch v p j) - 1 := he
        have := hj2.2.2 i (by omega) (by omega)
        omega)
    · have := a5 (by omega); omega
/-- how big a path can be on its level -/
theorem WFV.road {v : VT} (h : WFV v) : ∀ p, p < v.1 → v.2 5 p < 10 ^ v.2 6 p := by
  obtain ⟨h1, h2, h3, h4, h5, h6, h60, h7⟩ := h
  have key : ∀ n p, p < n → p < v.1 → v.2 5 p < 10 ^ v.2 6 p := by
    intro n
    induction n with
    | zero => intro p hp; omega
    | succ n ih =>
      intro p hpn hp
      by_cases e : p = 0
      · subst e
        rw [h5, h6]
        exact Nat.lt_succ_self 0
      · obtain ⟨q, k, hq, hk, he⟩ := par h3 (by omega) hp (by omega)
        have hqn : q < v.1 := by omega
        obtain ⟨a1, a2, a3, a4, a5, a6, a7⟩ := h7 q hqn
        obtain ⟨b1, b2, b3, b4⟩ := a7 k hk
        have he' : kch v q k = p := he
        rw [he'] at b1 b2 b3 b4
        have hd : v.2 3 p ≤ 9 := by
          rcases Nat.lt_or_ge (v.2 0 q) 2 with z | z
          · have := a4 (by omega); omega
          · rcases Nat.lt_or_ge (v.2 0 q) 3 with z2 | z2
            · exact Nat.le_trans (b2 (by omega)).2.1 (by omega)
            · have := b1 (by omega)
              have := a5 (by omega)
              omega
        have := ih q (by omega) hqn
        rw [b3, b4, Nat.pow_succ]
        omega
  intro p hp
  exact key (p + 1) p (Nat.lt_succ_self p) hp
theorem WFV.road4 {v : VT} (h : WFV v) {p : Nat} (hp : p < v.1) : v.2 5 p < 10000 := by
  have h1 := h.road p hp
  have h2 : v.2 6 p ≤ 4 := (h.2.2.2.2.2.2.2 p hp).2.2.2.2.2.1
  have : 10 ^ v.2 6 p ≤ 10 ^ 4 := Nat.pow_le_pow_right (by omega) h2
  omega
/-- a digit of what is in another -/
theorem WFV.dig {v : VT} (h : WFV v) {p k : Nat} (hp : p < v.1) (hk : k < v.2 2 p) : 1 ≤ v.2 3 (kch v p k) ∧ v.2 3 (kch v p k) ≤ 9 := by
  obtain ⟨h1, h2, h3, h4, h5, h6, h60, h7⟩ := h
  obtain ⟨a1, a2, a3, a4, a5, a6, a7⟩ := h7 p hp
  obtain ⟨b1, b2, b3, b4⟩ := a7 k hk
  rcases Nat.lt_or_ge (v.2 0 p) 2 with z | z
  · have := a4 (by omega); omega
  · rcases Nat.lt_or_ge (v.2 0 p) 3 with z2 | z2
    · have := b2 (by omega); omega
    · have := b1 (by omega)
      have := a5 (by omega)
      omega
theorem WFV.dig1 {v : VT} (h : WFV v) {p i j : Nat} (hp : p < v.1) (hi : i < v.2 2 p) (hj : j < v.2 2 p) (e : v.2 3 (kch v p i) = v.2 3 (kch v p j)) : i = j := by
  obtain ⟨h1, h2, h3, h4, h5, h6, h60, h7⟩ := h
  obtain ⟨a1, a2, a3, a4, a5, a6, a7⟩ := h7 p hp
  rcases Nat.lt_or_ge (v.2 0 p) 2 with z | z
  · have := a4 (by omega); omega
  · rcases Nat.lt_or_ge (v.2 0 p) 3 with z2 | z2
    · exact ((a7 j hj).2.1 (by omega)).2.2 i hi e
    · have := (a7 i hi).1 (by omega)
      have := (a7 j hj).1 (by omega)
      omega
theorem WFV.sp20 {v : VT} (h : WFV v) {p : Nat} (hp : p < v.1) : 1 ≤ v.2 4 p ∧ p + v.2 4 p ≤ v.1 ∧ v.2 4 p ≤ 20 := by
  have := h.2.2.1 p hp
  have := h.2.1
  omega
theorem WFV.kchlt {v : VT} (h : WFV v) {p k : Nat} (hp : p < v.1) (hk : k < v.2 2 p) : p < kch v p k ∧ kch v p k < v.1 := ⟨ch_gt _ _ _, ch_part h.2.2.1 hp hk⟩
/-! a number, or nothing, in place of a part -/
def fillV (v : VT) (p k x : Nat) : VT := (v.1 - (v.2 4 p - 1), fun f y => match f with
  | 0 => if y = p then k else v.2 0 (mp p (v.2 4 p - 1) y)
  | 1 => if y = p then x else v.2 1 (mp p (v.2 4 p - 1) y)
  | 2 => fK (v.2 2) (v.2 4) p y
  | 4 => fS (v.2 4) p y
  | f => v.2 f (mp p (v.2 4 p - 1) y))
theorem WFV.fill {v : VT} (h : WFV v) {p k x : Nat} (hp : p < v.1) (hk : k ≤ 1) (h0 : k = 0 → x ≤ 99) (h1 : k ≠ 0 → x = 0) : WFV (fillV v p k x) := by
  obtain ⟨w1, w2, w3, w4, w5, w6, w60, w7⟩ := id h
  have hs := w3 p hp
  have e0 : mp p (v.2 4 p - 1) 0 = 0 := mp_le (Nat.zero_le _)
  refine ⟨?_, ?_, fill_T1 w3 hp, ?_, ?_, ?_, ?_, ?_⟩
  · show 1 ≤ v.1 - (v.2 4 p - 1); omega
  · show v.1 - (v.2 4 p - 1) ≤ 20; omega
  · show fS (v.2 4) p 0 = v.1 - (v.2 4 p - 1)
    unfold fS
    simp only [e0]
    by_cases hh : 0 ≤ p ∧ p < 0 + v.2 4 0
    · rw [if_pos hh]; omega
    · omega
  · show v.2 5 (mp p (v.2 4 p - 1) 0) = 0
    rw [e0]; exact w5
  · show v.2 6 (mp p (v.2 4 p - 1) 0) = 0
    rw [e0]; exact w6
  · show v.2 3 (mp p (v.2 4 p - 1) 0) = 0
    rw [e0]; exact w60
  · intro y hy
    have hy : y < v.1 - (v.2 4 p - 1) := hy
    by_cases e : y = p
    · subst e
      have emp : mp y (v.2 4 y - 1) y = y := mp_le (Nat.le_refl _)
      have a0 : (fillV v y k x).2 0 y = k := by show (if y = y then k else _) = k; rw [if_pos rfl]
      have a1 : (fillV v y k x).2 1 y = x := by show (if y = y then x else _) = x; rw [if_pos rfl]
      have a2 : (fillV v y k x).2 2 y = 0 := by show fK (v.2 2) (v.2 4) y y = 0; unfold fK; rw [if_pos rfl]
      have a6 : (fillV v y k x).2 6 y = v.2 6 y := by show v.2 6 (mp y (v.2 4 y - 1) y) = v.2 6 y; rw [emp]
      rw [a0, a1, a2, a6]
      refine ⟨by omega, h0, h1, fun _ => rfl, fun z => by omega, (w7 y hp).2.2.2.2.2.1, fun j hj => absurd hj (Nat.not_lt_zero j)⟩
    · obtain ⟨z, hz⟩ : ∃ z, z = mp p (v.2 4 p - 1) y := ⟨_, rfl⟩
      have hum : um p (v.2 4 p - 1) z = y := by rw [hz, um_mp]
      have hzc : (y ≤ p ∧ z = y) ∨ (p < y ∧ z = y + (v.2 4 p - 1)) := by
        rcases Nat.lt_or_ge p y with q | q
        · exact Or.inr ⟨q, by rw [hz, mp_gt q]⟩
        · exact Or.inl ⟨q, by rw [hz, mp_le q]⟩
      have hzn : z < v.1 := by omega
      have hzin : ¬ (p < z ∧ z < p + v.2 4 p) := by omega
      have hzp : z ≠ p := by omega
      have a0 : (fillV v p k x).2 0 y = v.2 0 z := by show (if y = p then k else v.2 0 (mp p (v.2 4 p - 1) y)) = _; rw [if_neg e, ← hz]
      have a1 : (fillV v p k x).2 1 y = v.2 1 z := by show (if y = p then x else v.2 1 (mp p (v.2 4 p - 1) y)) = _; rw [if_neg e, ← hz]
      have a2 : (fillV v p k x).2 2 y = v.2 2 z := by show fK (v.2 2) (v.2 4) p y = _; unfold fK; rw [if_neg e, ← hz]
      have a5 : (fillV v p k x).2 5 y = v.2 5 z := by show v.2 5 (mp p (v.2 4 p - 1) y) = _; rw [← hz]
      have a6 : (fillV v p k x).2 6 y = v.2 6 z := by show v.2 6 (mp p (v.2 4 p - 1) y) = _; rw [← hz]
      obtain ⟨b1, b2, b3, b4, b5, b6, b7⟩ := w7 z hzn
      have hc : ∀ j, j ≤ v.2 2 z → kch (fillV v p k x) y j = um p (v.2 4 p - 1) (kch v z j) := by
        intro j hj
        have := fill_ch w3 hp hzn hzin hzp j hj
        rw [hum] at this
        exact this
      have hcm : ∀ j, j < v.2 2 z → mp p (v.2 4 p - 1) (kch (fillV v p k x) y j) = kch v z j := by
        intro j hj
        rw [hc j (by omega)]
        have := ch_out w3 hzn hp hzin hzp j (by omega)
        exact mp_um (by
          show ¬ (p < ch (v.2 4) z j ∧ ch (v.2 4) z j < p + (v.2 4 p - 1) + 1)
          omega)
      have f3 : ∀ j, j < v.2 2 z → (fillV v p k x).2 3 (kch (fillV v p k x) y j) = v.2 3 (kch v z j) := by
        intro j hj
        show v.2 3 (mp p (v.2 4 p - 1) (kch (fillV v p k x) y j)) = _
        rw [hcm j hj]
      have f5 : ∀ j, j < v.2 2 z → (fillV v p k x).2 5 (kch (fillV v p k x) y j) = v.2 5 (kch v z j) := by
        intro j hj
        show v.2 5 (mp p (v.2 4 p - 1) (kch (fillV v p k x) y j)) = _
        rw [hcm j hj]
      have f6 : ∀ j, j < v.2 2 z → (fillV v p k x).2 6 (kch (fillV v p k x) y j) = v.2 6 (kch v z j) := by
        intro j hj
        show v.2 6 (mp p (v.2 4 p - 1) (kch (fillV v p k x) y j)) = _
        rw [hcm j hj]
      rw [a0, a1, a2, a5, a6]
      refine ⟨b1, b2, b3, b4, b5, b6, fun j hj => ?_⟩
      obtain ⟨c1, c2, c3, c4⟩ := b7 j hj
      rw [f3 j hj, f5 j hj, f6 j hj]
      refine ⟨c1, fun h2 => ⟨(c2 h2).1, (c2 h2).2.1, fun i hi he => ?_⟩, c3, c4⟩
      rw [f3 i hi] at he
      exact (c2 h2).2.2 i hi he
