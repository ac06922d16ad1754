/-! values told in letters: one part more keeps it well told -/
theorem aV0 (v : VT) (s : List Nat) (k x dg y : Nat) : (addV v s k x dg).2 0 y = if y = v.1 then k else v.2 0 y := rfl
theorem aV1 (v : VT) (s : List Nat) (k x dg y : Nat) : (addV v s k x dg).2 1 y = if y = v.1 then x else v.2 1 y := rfl
theorem aV2 (v : VT) (s : List Nat) (k x dg y : Nat) : (addV v s k x dg).2 2 y = if y = v.1 then 0 else if s.head? = some y then v.2 2 y + 1 else v.2 2 y := rfl
theorem aV3 (v : VT) (s : List Nat) (k x dg y : Nat) : (addV v s k x dg).2 3 y = if y = v.1 then dg else v.2 3 y := rfl
theorem aV4 (v : VT) (s : List Nat) (k x dg y : Nat) : (addV v s k x dg).2 4 y = if y = v.1 then 1 else if y ∈ s then v.2 4 y + 1 else v.2 4 y := rfl
theorem aV6 (v : VT) (s : List Nat) (k x dg y : Nat) : (addV v s k x dg).2 6 y = if y = v.1 then s.length else v.2 6 y := rfl
theorem aVn (v : VT) (s : List Nat) (k x dg : Nat) : (addV v s k x dg).1 = v.1 + 1 := rfl
/-- the values that are being told -/
def WFQ (v : VT) (s : List Nat) : Prop := v.1 ≤ 20 ∧ T1 v.1 (v.2 2) (v.2 4) ∧ StkOK v s ∧ (1 ≤ v.1 → v.2 4 0 = v.1 ∧ v.2 6 0 = 0 ∧ v.2 3 0 = 0) ∧ ∀ p, p < v.1 →
  v.2 0 p ≤ 3 ∧ (v.2 0 p = 0 → v.2 1 p ≤ 99) ∧ (v.2 0 p ≠ 0 → v.2 1 p = 0) ∧ (v.2 0 p ≤ 1 → v.2 2 p = 0) ∧ (v.2 0 p = 3 → v.2 2 p ≤ 4) ∧ v.2 6 p ≤ 4 ∧
  (∀ k, k < v.2 2 p → (v.2 0 p = 2 → 1 ≤ v.2 3 (kch v p k) ∧ v.2 3 (kch v p k) ≤ 5 ∧ ∀ j, j < v.2 2 p → v.2 3 (kch v p j) = v.2 3 (kch v p k) → j = k) ∧ v.2 6 (kch v p k) = v.2 6 p + 1)
theorem WFQ.pop {v : VT} {q : Nat} {s : List Nat} (h : WFQ v (q :: s)) : WFQ v s := ⟨h.1, h.2.1, h.2.2.1.tail, h.2.2.2⟩
theorem WFQ.whole {v : VT} {s : List Nat} (h : WFQ v s) (h1 : 1 ≤ v.1) : WFP v := ⟨h1, h.1, h.2.1, (h.2.2.2.1 h1).1, (h.2.2.2.1 h1).2.1, h.2.2.2.2⟩
theorem head_eq {q y : Nat} {r : List Nat} : (q :: r).head? = some y ↔ q = y := ⟨fun h => Option.some.inj h, fun h => by subst h; rfl⟩
theorem add_stk {v : VT} (w : T1 v.1 (v.2 2) (v.2 4)) (k x dg : Nat) {s : List Nat} (hs : StkOK v s) : ∀ {r : List Nat} {m : List Nat}, m ++ r = s → StkOK v r → StkOK (addV v s k x dg) r
  | [], _, _, _ => True.intro
  | [q], m, e, h => by
    obtain ⟨h1, h2, h3, h4, h5⟩ := h
    subst h1
    have hm : (0 : Nat) ∈ s := by rw [← e]; simp
    refine ⟨rfl, Nat.succ_pos _, ?_, ?_, ?_⟩
    · rw [aV4, if_neg (by omega), if_pos hm, h3]; rfl
    · rw [aV0, if_neg (by omega)]; exact h4
    · rw [aV6, if_neg (by omega)]; exact h5
  | q :: p :: r, m, e, h => by
    obtain ⟨h1, h2, h3, h4, h5, h6, h7⟩ := h
    have hm : q ∈ s := by rw [← e]; simp
    have hp : p ∈ s := by rw [← e]; simp
    have hpm := hs.mem p hp
    have hqp : p < q := by
      have := ch_gt (v.2 4) p (v.2 2 p - 1)
      have e5 : ch (v.2 4) p (v.2 2 p - 1) = q := h5
      omega
    have hnh : s.head? ≠ some p := by
      rw [← e]
      cases m with
      | nil => intro z; have : q = p := Option.some.inj z; omega
      | cons a m =>
        intro z
        have z : a = p := Option.some.inj z
        have hs2 : StkOK v (a :: (m ++ q :: p :: r)) := by rw [← List.cons_append, e]; exact hs
        have := hs2.low p (by simp)
        omega
    have eK : (addV v s k x dg).2 2 p = v.2 2 p := by rw [aV2, if_neg (by omega), if_neg hnh]
    refine ⟨Nat.lt_succ_of_lt h1, ?_, ?_, ?_, ?_, ?_, ?_⟩
    · rw [aV4, if_neg (by omega), if_pos hm, aVn]; omega
    · rw [aV0, if_neg (by omega)]; exact h3
    · rw [eK]; exact h4
    · rw [eK]
      show ch ((addV v s k x dg).2 4) p (v.2 2 p - 1) = q
      rw [add_ch w hs k x dg hpm.1 _ (Or.inl (by omega))]
      exact h5
    · rw [aV6, if_neg (by omega)]; exact h6
    · exact add_stk w k x dg hs (m := m ++ [q]) (by rw [← e]; simp) h7
theorem WFQ.add {v : VT} {s : List Nat} (h : WFQ v s) {k x dg : Nat} (hn : v.1 < 20) (hl : s.length ≤ 4) (hne : v.1 = 0 ∨ s ≠ []) (hk : k ≤ 3) (h0 : k = 0 → x ≤ 99) (h1 : k ≠ 0 → x = 0) (hd : s = [] → dg = 0) (hq : ∀ q r, s = q :: r → (v.2 0 q = 3 → v.2 2 q < 4) ∧ (v.2 0 q = 2 → 1 ≤ dg ∧ dg ≤ 5 ∧ ∀ j, j < v.2 2 q → v.2 3 (kch v q j) ≠ dg)) :
    WFQ (addV v s k x dg) s ∧ (2 ≤ k → WFQ (addV v s k x dg) (v.1 :: s)) := by
  obtain ⟨w1, w2, w3, w4, w5⟩ := h
  have hT := add_T1 w2 w3 k x dg
  have hS := add_stk w2 k x dg w3 (m := []) rfl w3
  have hlev : ∀ q, s.head? = some q → q < v.1 ∧ v.2 6 q + 1 = s.length ∧ q + v.2 4 q = v.1 ∧ 2 ≤ v.2 0 q ∧ (v.2 0 q = 3 → v.2 2 q < 4) ∧ (v.2 0 q = 2 → 1 ≤ dg ∧ dg ≤ 5 ∧ ∀ j, j < v.2 2 q → v.2 3 (kch v q j) ≠ dg) := by
    intro q hq2
    cases s with
    | nil => cases hq2
    | cons a r =>
      have e : a = q := Option.some.inj hq2
      subst e
      have m := w3.mem a List.mem_cons_self
      have l := w3.lev
      exact ⟨m.1, by rw [l]; rfl, m.2.1, m.2.2, hq a r rfl⟩
  have base : ∀ y, y < v.1 → (addV v s k x dg).2 0 y = v.2 0 y ∧ (addV v s k x dg).2 1 y = v.2 1 y ∧ (addV v s k x dg).2 3 y = v.2 3 y ∧ (addV v s k x dg).2 6 y = v.2 6 y := fun y hy => by
    rw [aV0, aV1, aV3, aV6]
    exact ⟨if_neg (by omega), if_neg (by omega), if_neg (by omega), if_neg (by omega)⟩
  have hA : 1 ≤ (addV v s k x dg).1 → (addV v s k x dg).2 4 0 = (addV v s k x dg).1 ∧ (addV v s k x dg).2 6 0 = 0 ∧ (addV v s k x dg).2 3 0 = 0 := by
    intro _
    rw [aV4, aV6, aV3, aVn]
    by_cases e : 0 = v.1
    · have hs0 : s = [] := by
        cases s with
        | nil => rfl
        | cons a r => have := (w3.mem a List.mem_cons_self).1; omega
      rw [if_pos e, if_pos e, if_pos e, hs0, hd hs0]
      exact ⟨by omega, rfl, rfl⟩
    · have hne2 : s ≠ [] := by
        rcases hne with z | z
        · omega
        · exact z
      have m0 : (0 : Nat) ∈ s := by
        have key : ∀ {r : List Nat}, r ≠ [] → StkOK v r → (0 : Nat) ∈ r := by
          intro r
          induction r with
          | nil => intro h _; exact absurd rfl h
          | cons a r ih =>
            intro _ hr
            cases r with
            | nil => rw [hr.1]; exact List.mem_cons_self
            | cons b r => exact List.mem_cons_of_mem _ (ih (by simp) hr.tail)
        exact key hne2 w3
      have ww := w4 (by omega)
      rw [if_neg e, if_neg e, if_neg e, if_pos m0, ww.1]
      exact ⟨rfl, ww.2⟩
  have hB : ∀ p, p < (addV v s k x dg).1 → (addV v s k x dg).2 0 p ≤ 3 ∧ ((addV v s k x dg).2 0 p = 0 → (addV v s k x dg).2 1 p ≤ 99) ∧ ((addV v s k x dg).2 0 p ≠ 0 → (addV v s k x dg).2 1 p = 0) ∧ ((addV v s k x dg).2 0 p ≤ 1 → (addV v s k x dg).2 2 p = 0) ∧ ((addV v s k x dg).2 0 p = 3 → (addV v s k x dg).2 2 p ≤ 4) ∧ (addV v s k x dg).2 6 p ≤ 4 ∧
      (∀ j, j < (addV v s k x dg).2 2 p → ((addV v s k x dg).2 0 p = 2 → 1 ≤ (addV v s k x dg).2 3 (kch (addV v s k x dg) p j) ∧ (addV v s k x dg).2 3 (kch (addV v s k x dg) p j) ≤ 5 ∧ ∀ i, i < (addV v s k x dg).2 2 p → (addV v s k x dg).2 3 (kch (addV v s k x dg) p i) = (addV v s k x dg).2 3 (kch (addV v s k x dg) p j) → i = j) ∧ (addV v s k x dg).2 6 (kch (addV v s k x dg) p j) = (addV v s k x dg).2 6 p + 1) := by
    intro p hp
    rw [aVn] at hp
    by_cases e : p = v.1
    · have e2 : (addV v s k x dg).2 2 p = 0 := by rw [aV2, if_pos e]
      have e0 : (addV v s k x dg).2 0 p = k := by rw [aV0, if_pos e]
      have e1 : (addV v s k x dg).2 1 p = x := by rw [aV1, if_pos e]
      have e6 : (addV v s k x dg).2 6 p = s.length := by rw [aV6, if_pos e]
      rw [e2, e0, e1, e6]
      exact ⟨hk, h0, h1, fun _ => rfl, fun _ => Nat.zero_le _, hl, fun j hj => absurd hj (Nat.not_lt_zero _)⟩
    · have hpv : p < v.1 := by omega
      obtain ⟨b0, b1, b3, b6⟩ := base p hpv
      obtain ⟨a1, a2, a3, a4, a5, a6, a7⟩ := w5 p hpv
      have old : ∀ j, j < v.2 2 p → kch (addV v s k x dg) p j = kch v p j ∧ kch v p j < v.1 := fun j hj => ⟨add_ch w2 w3 k x dg hpv j (Or.inl hj), ch_part w2 hpv hj⟩
      have od : ∀ j, j < v.2 2 p → (addV v s k x dg).2 3 (kch (addV v s k x dg) p j) = v.2 3 (kch v p j) := fun j hj => by rw [(old j hj).1, (base _ (old j hj).2).2.2.1]
      have ol : ∀ j, j < v.2 2 p → (addV v s k x dg).2 6 (kch (addV v s k x dg) p j) = v.2 6 (kch v p j) := fun j hj => by rw [(old j hj).1, (base _ (old j hj).2).2.2.2]
      by_cases hh : s.head? = some p
      · obtain ⟨c1, c2, c3, c4, c5, c6⟩ := hlev p hh
        have e2 : (addV v s k x dg).2 2 p = v.2 2 p + 1 := by rw [aV2, if_neg e, if_pos hh]
        have ec : kch (addV v s k x dg) p (v.2 2 p) = v.1 := by
          show ch ((addV v s k x dg).2 4) p (v.2 2 p) = v.1
          rw [add_ch w2 w3 k x dg hpv _ (Or.inr ⟨rfl, fun z => z.2 hh⟩), (w2 p hpv).2.1, c3]
        have nd : (addV v s k x dg).2 3 v.1 = dg := by rw [aV3, if_pos rfl]
        have nl : (addV v s k x dg).2 6 v.1 = s.length := by rw [aV6, if_pos rfl]
        rw [b0, b1, b6, e2]
        refine ⟨a1, a2, a3, fun z => by omega, fun z => by have := c5 z; omega, a6, fun j hj => ?_⟩
        rcases Nat.lt_or_ge j (v.2 2 p) with z | z
        · rw [od j z, ol j z]
          refine ⟨fun z2 => ⟨((a7 j z).1 z2).1, ((a7 j z).1 z2).2.1, fun i hi he => ?_⟩, (a7 j z).2⟩
          rcases Nat.lt_or_ge i (v.2 2 p) with y | y
          · rw [od i y] at he
            exact ((a7 j z).1 z2).2.2 i y he
          · have : i = v.2 2 p := by omega
            subst this
            rw [ec, nd] at he
            exact absurd he.symm ((c6 z2).2.2 j z)
        · have : j = v.2 2 p := by omega
          subst this
          rw [ec, nd, nl]
          refine ⟨fun z2 => ⟨(c6 z2).1, (c6 z2).2.1, fun i hi he => ?_⟩, by omega⟩
          rcases Nat.lt_or_ge i (v.2 2 p) with y | y
          · rw [od i y] at he
            exact absurd he ((c6 z2).2.2 i y)
          · omega
      · have e2 : (addV v s k x dg).2 2 p = v.2 2 p := by rw [aV2, if_neg e, if_neg hh]
        rw [b0, b1, b6, e2]
        refine ⟨a1, a2, a3, a4, a5, a6, fun j hj => ?_⟩
        rw [od j hj, ol j hj]
        refine ⟨fun z2 => ⟨((a7 j hj).1 z2).1, ((a7 j hj).1 z2).2.1, fun i hi he => ?_⟩, (a7 j hj).2⟩
        rw [od i hi] at he
        exact ((a7 j hj).1 z2).2.2 i hi he
  refine ⟨⟨by rw [aVn]; omega, hT, hS, hA, hB⟩, fun hk2 => ⟨by rw [aVn]; omega, hT, ?_, hA, hB⟩⟩
  cases s with
  | nil =>
    have hv0 : v.1 = 0 := by
      rcases hne with z | z
      · exact z
      · exact absurd rfl z
    refine ⟨hv0, Nat.succ_pos _, ?_, ?_, ?_⟩
    · exact (hA (Nat.succ_pos _)).1
    · rw [aV0, if_pos hv0.symm]; exact hk2
    · exact (hA (Nat.succ_pos _)).2.1
  | cons p r =>
    obtain ⟨c1, c2, c3, c4, c5, c6⟩ := hlev p rfl
    refine ⟨Nat.lt_succ_self _, ?_, ?_, ?_, ?_, ?_, hS⟩
    · rw [aV4, if_pos rfl]; rfl
    · rw [aV0, if_pos rfl]; exact hk2
    · rw [aV2, if_neg (by omega), if_pos (show (p :: r).head? = some p from rfl)]; omega
    · rw [aV2, if_neg (by omega), if_pos (show (p :: r).head? = some p from rfl)]
      show ch ((addV v (p :: r) k x dg).2 4) p (v.2 2 p + 1 - 1) = v.1
      rw [Nat.add_sub_cancel, add_ch w2 w3 k x dg c1 _ (Or.inr ⟨rfl, fun z => z.2 rfl⟩), (w2 p c1).2.1, c3]
    · rw [aV6, if_pos rfl]; rfl
