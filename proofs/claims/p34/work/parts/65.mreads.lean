/-! the reference reads values: parts, fields, the loop -/
/-- the first thing that is not as it must be has been met -/
def SB (n : Nat) (R : Nat ⊕ VT) (σ : sS) : Prop := ∃ p, p < n ∧ R = .inl p ∧ σ 0 44 = nI p
/-- a part is to come -/
def ST (L : Nat → Nat) (n : Nat) (R : Nat ⊕ VT) (σ : sS) (i P : Nat) (o : OP) : Prop := SB n R σ ∨ ∃ v s dg e a, (∀ m, n ≤ i + m → vbu L n m i v s dg = R) ∧ σ 0 44 = -1 ∧ (a.1 = 0 ∨ a.1 = 3) ∧ VI v s dg a ∧ MT σ v s e ∧ (∀ q r, s = q :: r → v.2 0 q = 2 → e = dg ∧ σ 0 46 = nI dg) ∧ o = opOf v s ∧ P = v.1
/-- the head of the loop -/
def SH (L : Nat → Nat) (n : Nat) (R : Nat ⊕ VT) (σ : sS) (i P : Nat) (o : OP) : Prop := SB n R σ ∨ ∃ v s dg, (∀ m, n ≤ i + m → vbu L n m i v s dg = R) ∧ σ 0 44 = -1 ∧ VI v s dg (hst o, false, mks o) ∧ MT σ v s 0 ∧ o = opOf v s ∧ P = v.1
theorem SB.kept {n : Nat} {R : Nat ⊕ VT} {σ σ' : sS} (h : SB n R σ) (h44 : σ' 0 44 = σ 0 44) : SB n R σ' := by
  obtain ⟨p, p1, p2, p3⟩ := h
  exact ⟨p, p1, p2, by rw [h44]; exact p3⟩
theorem SB.bp {n : Nat} {R : Nat ⊕ VT} {σ σ' : sS} {i P : Nat} {o : OP} {of x : Nat} (h : SB n R σ) (hn : n ≤ 96) (hb : BP σ σ' i P o of x) : SB n R σ' := by
  obtain ⟨p, p1, p2, p3⟩ := h
  by_cases z : bdR P o
  · refine ⟨p, p1, p2, ?_⟩
    rw [hb.1 z, if_neg (by rw [p3]; exact nI_pos (by omega))]
    exact p3
  · exact ⟨p, p1, p2, by rw [hb.2.1 z]; exact p3⟩
/-- a leaf was read -/
theorem ST.leaf {L : Nat → Nat} {n : Nat} {R : Nat ⊕ VT} {σ σ' : sS} {i i' B P : Nat} {o : OP} {of x : Nat} (hn : n ≤ 96) (hi : i < n) (h : ST L n R σ i P o) (hb : BP σ σ' i P o of x) (hof : of ≤ 1) (hx0 : of = 0 → x ≤ 99) (hx1 : of ≠ 0 → x = 0) (hii : i < i')
    (hg : RG L n σ' i' B (P + 1) (inc o))
    (hst : ∀ m v s dg, vbu L n (m + 1) i v s dg = if pB (badQ v s) = true then .inl i else vbu L n m i' (addV v s of x (vdg v s dg)) s (vdg v s dg)) : SH L n R σ' i' (P + 1) (inc o) := by
  rcases h with z | ⟨v, s, dg, e, a, h1, h2, h3, h4, h5, h6, h7, h8⟩
  · exact Or.inl (z.bp hn hb)
  · subst h7; subst h8
    by_cases hbad : badQ v s
    · refine Or.inl ⟨i, hi, ?_, ?_⟩
      · rw [← h1 (n - i + 1) (by omega), hst, if_pos (pB_t hbad)]
      · rw [hb.1 (bdR_badQ.mpr hbad), h2, if_pos (by decide)]
    · obtain ⟨c1, c2, c3, c4, c5, c6⟩ := h4.canAdd h3 hbad
      have hvd : ∀ q r, s = q :: r → v.2 0 q = 2 → e = vdg v s dg ∧ σ 0 46 = nI (vdg v s dg) := by
        intro q r e1 e2
        have := h6 q r e1 e2
        subst e1
        have ev : vdg v (q :: r) dg = dg := by
          show (if v.2 0 q = 3 then _ else dg) = dg
          rw [if_neg (by omega)]
        rw [ev]
        exact this
      have hI := h4.leaf h3 hbad hof hx0 hx1 false
      refine Or.inr ⟨addV v s of x (vdg v s dg), s, vdg v s dg, fun m hm => ?_, ?_, ?_, ?_, (opOf_add h4.1 _ _ _).symm, rfl⟩
      · have := h1 (m + i' + 1) (by omega)
        rw [hst, if_neg (by rw [pB_f hbad]; decide)] at this
        rw [← this]
        exact vbu_any L n _ _ _ _ _ _ hm (by omega)
      · rw [hb.2.1 (fun z => hbad (bdR_badQ.mp z))]; exact h2
      · rw [hst_inc, mks_inc, mks_opOf, ← h4.2.1]
        exact hI
      · exact MT.add h4.1 h5 c1 hb hg.2.1 hx1 hvd
