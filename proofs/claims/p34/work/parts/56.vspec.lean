/-! values told in letters: one part behind all others -/
/-- the open parts, the last one first -/
def StkOK (v : VT) : List Nat → Prop
  | [] => True
  | [q] => q = 0 ∧ 0 < v.1 ∧ v.2 4 0 = v.1 ∧ 2 ≤ v.2 0 0 ∧ v.2 6 0 = 0
  | q :: p :: r => q < v.1 ∧ q + v.2 4 q = v.1 ∧ 2 ≤ v.2 0 q ∧ 1 ≤ v.2 2 p ∧ kch v p (v.2 2 p - 1) = q ∧ v.2 6 q = r.length + 1 ∧ StkOK v (p :: r)
theorem StkOK.tail {v : VT} {q : Nat} {r : List Nat} (h : StkOK v (q :: r)) : StkOK v r := by
  cases r with
  | nil => exact True.intro
  | cons p r => exact h.2.2.2.2.2.2
theorem StkOK.mem {v : VT} : ∀ {s : List Nat}, StkOK v s → ∀ q, q ∈ s → q < v.1 ∧ q + v.2 4 q = v.1 ∧ 2 ≤ v.2 0 q
  | [], _, q, h => absurd h List.not_mem_nil
  | [x], h, q, hq => by
    rw [List.mem_singleton] at hq
    subst hq
    obtain ⟨h1, h2, h3, h4, -⟩ := h
    subst h1
    exact ⟨h2, by omega, h4⟩
  | x :: p :: r, h, q, hq => by
    rcases List.mem_cons.mp hq with rfl | hq
    · exact ⟨h.1, h.2.1, h.2.2.1⟩
    · exact StkOK.mem h.tail q hq
/-- an open part that isn't the first is the last one in the one that was opened before it -/
theorem StkOK.up {v : VT} (w : T1 v.1 (v.2 2) (v.2 4)) : ∀ {s : List Nat}, StkOK v s → ∀ q, q ∈ s → q = 0 ∨ ∃ p, p ∈ s ∧ p < q ∧ 1 ≤ v.2 2 p ∧ kch v p (v.2 2 p - 1) = q
  | [], _, q, h => absurd h List.not_mem_nil
  | [x], h, q, hq => by
    rw [List.mem_singleton] at hq
    subst hq
    exact Or.inl h.1
  | x :: p :: r, h, q, hq => by
    rcases List.mem_cons.mp hq with rfl | hq
    · refine Or.inr ⟨p, List.mem_cons_of_mem _ List.mem_cons_self, ?_, h.2.2.2.1, h.2.2.2.2.1⟩
      have := ch_gt (v.2 4) p (v.2 2 p - 1)
      have e := h.2.2.2.2.1
      show p < q
      rw [← e]
      exact this
    · rcases StkOK.up w h.tail q hq with z | ⟨p', h1, h2⟩
      · exact Or.inl z
      · exact Or.inr ⟨p', List.mem_cons_of_mem _ h1, h2⟩
/-- the one that was opened behind it -/
theorem StkOK.down {v : VT} : ∀ {s : List Nat}, StkOK v s → ∀ q, q ∈ s → s.head? = some q ∨ (1 ≤ v.2 2 q ∧ kch v q (v.2 2 q - 1) ∈ s)
  | [], _, q, h => absurd h List.not_mem_nil
  | [x], h, q, hq => by
    rw [List.mem_singleton] at hq
    subst hq
    exact Or.inl rfl
  | x :: p :: r, h, q, hq => by
    rcases List.mem_cons.mp hq with rfl | hq
    · exact Or.inl rfl
    · rcases StkOK.down h.tail q hq with z | ⟨h1, h2⟩
      · have : p = q := Option.some.inj z
        subst this
        refine Or.inr ⟨h.2.2.2.1, ?_⟩
        rw [h.2.2.2.2.1]
        exact List.mem_cons_self
      · exact Or.inr ⟨h1, List.mem_cons_of_mem _ h2⟩
def addV (v : VT) (s : List Nat) (k x dg : Nat) : VT := (v.1 + 1, fun f y => match f with
  | 0 => if y = v.1 then k else v.2 0 y
  | 1 => if y = v.1 then x else v.2 1 y
  | 2 => if y = v.1 then 0 else if s.head? = some y then v.2 2 y + 1 else v.2 2 y
  | 3 => if y = v.1 then dg else v.2 3 y
  | 4 => if y = v.1 then 1 else if y ∈ s then v.2 4 y + 1 else v.2 4 y
  | 6 => if y = v.1 then s.length else v.2 6 y
  | f => v.2 f y)
/-- the children as they were -/
theorem add_ch {v : VT} (w : T1 v.1 (v.2 2) (v.2 4)) {s : List Nat} (hs : StkOK v s) (k x dg : Nat) {p : Nat} (hp : p < v.1) : ∀ j, j < v.2 2 p ∨ (j = v.2 2 p ∧ ¬ (p ∈ s ∧ s.head? ≠ some p)) → ch ((addV v s k x dg).2 4) p j = ch (v.2 4) p j := by
  intro j
  induction j with
  | zero => intro _; rfl
  | succ j ih =>
    intro hj
    have hjK : j < v.2 2 p := by omega
    have hc := ch_part w hp hjK
    have hne : ch (v.2 4) p j ≠ v.1 := by omega
    have hns : ch (v.2 4) p j ∉ s := by
      intro z
      rcases hs.up w _ z with e | ⟨p', h1, h2, h3, h4⟩
      · have := ch_gt (v.2 4) p j; omega
      · have hp' := (hs.mem p' h1).1
        obtain ⟨e1, e2⟩ := par1 w hp hp' hjK (show v.2 2 p' - 1 < v.2 2 p' by omega) h4.symm
        subst e1
        have : j + 1 = v.2 2 p := by omega
        rcases hj with hj | ⟨-, hj⟩
        · omega
        · refine hj ⟨h1, fun hh => ?_⟩
          -- then p is the last one opened, but what is in it is open too
          have key : ∀ {s : List Nat}, StkOK v s → s.head? = some p → ch (v.2 4) p j ∉ s := by
            intro s hs hh hm
            cases s with
            | nil => cases hh
            | cons q r =>
              have : q = p := Option.some.inj hh
              subst this
              have hg := ch_gt (v.2 4) q j
              -- all in the rest are ahead of it
              have low : ∀ {r : List Nat} {q : Nat}, StkOK v (q :: r) → ∀ y ∈ r, y < q := by
                intro r
                induction r with
                | nil => intro q _ y hy; exact absurd hy List.not_mem_nil
                | cons p r ihr =>
                  intro q h y hy
                  have h5 := ch_gt (v.2 4) p (v.2 2 p - 1)
                  have h6 := h.2.2.2.2.1
                  have h7 : p < q := by rw [← h6]; exact h5
                  rcases List.mem_cons.mp hy with rfl | hy
                  · exact h7
                  · have := ihr h.tail y hy
                    omega
              rcases List.mem_cons.mp hm with e | e
              · omega
              · have := low hs _ e
                omega
          exact key hs hh z
    show ch ((addV v s k x dg).2 4) p j + (addV v s k x dg).2 4 (ch ((addV v s k x dg).2 4) p j) = ch (v.2 4) p j + v.2 4 (ch (v.2 4) p j)
    rw [ih (Or.inl hjK)]
    have : (addV v s k x dg).2 4 (ch (v.2 4) p j) = v.2 4 (ch (v.2 4) p j) := by
      show (if ch (v.2 4) p j = v.1 then 1 else if ch (v.2 4) p j ∈ s then _ else v.2 4 (ch (v.2 4) p j)) = _
      rw [if_neg hne, if_neg hns]
    rw [this]
theorem StkOK.low {v : VT} : ∀ {r : List Nat} {q : Nat}, StkOK v (q :: r) → ∀ y ∈ r, y < q
  | [], q, _, y, hy => absurd hy List.not_mem_nil
  | p :: r, q, h, y, hy => by
    have h5 := ch_gt (v.2 4) p (v.2 2 p - 1)
    have h6 := h.2.2.2.2.1
    have h7 : p < q := by rw [← h6]; exact h5
    rcases List.mem_cons.mp hy with rfl | hy
    · exact h7
    · have := StkOK.low h.tail y hy
      omega
theorem StkOK.lev {v : VT} : ∀ {r : List Nat} {q : Nat}, StkOK v (q :: r) → v.2 6 q = r.length
  | [], q, h => by
    obtain ⟨h1, -, -, -, h5⟩ := h
    subst h1
    exact h5
  | p :: r, q, h => h.2.2.2.2.2.1
/-- a part behind all others, in the one that was opened last -/
theorem add_T1 {v : VT} (w : T1 v.1 (v.2 2) (v.2 4)) {s : List Nat} (hs : StkOK v s) (k x dg : Nat) : T1 (v.1 + 1) ((addV v s k x dg).2 2) ((addV v s k x dg).2 4) := by
  intro p hp
  by_cases e : p = v.1
  · subst e
    have e2 : (addV v s k x dg).2 2 v.1 = 0 := by show (if v.1 = v.1 then 0 else _) = 0; rw [if_pos rfl]
    have e4 : (addV v s k x dg).2 4 v.1 = 1 := by show (if v.1 = v.1 then 1 else _) = 1; rw [if_pos rfl]
    rw [e2, e4]
    exact ⟨Nat.le_refl _, rfl, Nat.le_refl _, fun k hk => absurd hk (Nat.not_lt_zero _)⟩
  · have hpv : p < v.1 := by omega
    obtain ⟨w1, w2, w3, w4⟩ := w p hpv
    have e4 : (addV v s k x dg).2 4 p = if p ∈ s then v.2 4 p + 1 else v.2 4 p := by show (if p = v.1 then 1 else _) = _; rw [if_neg e]
    have e2 : (addV v s k x dg).2 2 p = if s.head? = some p then v.2 2 p + 1 else v.2 2 p := by show (if p = v.1 then 0 else _) = _; rw [if_neg e]
    have eN : (addV v s k x dg).2 4 v.1 = 1 := by show (if v.1 = v.1 then 1 else _) = 1; rw [if_pos rfl]
    rw [e2, e4]
    by_cases hin : p ∈ s
    · have hm := hs.mem p hin
      rw [if_pos hin]
      by_cases hh : s.head? = some p
      · rw [if_pos hh]
        have hc := fun j (hj : j ≤ v.2 2 p) => add_ch w hs k x dg hpv j (by
          rcases Nat.lt_or_ge j (v.2 2 p) with z | z
          · exact Or.inl z
          · exact Or.inr ⟨by omega, fun ⟨_, z2⟩ => z2 hh⟩)
        refine ⟨by omega, ?_, by omega, fun j hj => ?_⟩
        · show ch _ p (v.2 2 p) + _ = _
          rw [hc _ (Nat.le_refl _), w2, hm.2.1, eN]
          omega
        · rw [hc j (by omega)]
          rcases Nat.lt_or_ge j (v.2 2 p) with z | z
          · have := w4 j z; omega
          · have : j = v.2 2 p := by omega
            subst this
            rw [w2]
            omega
      · rw [if_neg hh]
        have hc := fun j (hj : j < v.2 2 p) => add_ch w hs k x dg hpv j (Or.inl hj)
        rcases hs.down p hin with z | ⟨h1, h2⟩
        · exact absurd z hh
        · have hq := (hs.mem _ h2)
          refine ⟨by omega, ?_, by omega, fun j hj => ?_⟩
          · obtain ⟨m, hm2⟩ : ∃ m, v.2 2 p = m + 1 := ⟨v.2 2 p - 1, by omega⟩
            have e1 : v.2 2 p - 1 = m := by omega
            rw [e1] at h2 hq
            have hcm := hc m (by omega)
            rw [hm2]
            show ch _ p m + (addV v s k x dg).2 4 (ch _ p m) = _
            rw [hcm]
            have e5 : (addV v s k x dg).2 4 (ch (v.2 4) p m) = v.2 4 (ch (v.2 4) p m) + 1 := by
              show (if ch (v.2 4) p m = v.1 then 1 else if ch (v.2 4) p m ∈ s then _ else _) = _
              have : ch (v.2 4) p m ≠ v.1 := by
                have := hq.1
                show ch (v.2 4) p m ≠ v.1
                have h9 : kch v p m < v.1 := this
                have h10 : ch (v.2 4) p m < v.1 := h9
                omega
              have h2 : ch (v.2 4) p m ∈ s := h2
              rw [if_neg this, if_pos h2]
            rw [e5, ← Nat.add_assoc]
            have w2' : ch (v.2 4) p m + v.2 4 (ch (v.2 4) p m) = p + v.2 4 p := by
              rw [hm2] at w2
              exact w2
            rw [w2']
            omega
          · rw [hc j hj]
            have := w4 j hj
            omega
    · have hh : s.head? ≠ some p := by
        intro z
        cases s with
        | nil => cases z
        | cons a r =>
          have : a = p := Option.some.inj z
          subst this
          exact hin List.mem_cons_self
      rw [if_neg hin, if_neg hh]
      have hc := fun j (hj : j ≤ v.2 2 p) => add_ch w hs k x dg hpv j (by
        rcases Nat.lt_or_ge j (v.2 2 p) with z | z
        · exact Or.inl z
        · exact Or.inr ⟨by omega, fun ⟨z2, _⟩ => hin z2⟩)
      refine ⟨w1, ?_, by omega, fun j hj => ?_⟩
      · rw [hc _ (Nat.le_refl _)]; exact w2
      · rw [hc j (by omega)]
        exact w4 j hj
