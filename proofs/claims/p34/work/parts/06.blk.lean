/-! a stretch of a method: up to the stops -/
def fnd (pc : Nat) : List sT → Option sT
  | [] => none
  | e :: r => cond (Nat.beq e.1 pc) (some e) (fnd pc r)
def lkS (pc : Nat) : List (Nat × List Nat) → Option (List Nat)
  | [] => none
  | e :: r => cond (Nat.beq e.1 pc) (some e.2) (lkS pc r)
def hasK (k : Nat) : List Nat → Bool
  | [] => false
  | j :: r => cond (Nat.beq j k) true (hasK k r)
def keepL (ks : List Nat) : sL → sL
  | [] => []
  | q :: r => cond (hasK q.1 ks) (q :: keepL ks r) (keepL ks r)
def blk (Y : List kd) (d : Nat) (y : sY) (ft : List (Nat × Nat × Nat × sF)) (ct : List sE) (tab : List sT) (stops : List (Nat × List Nat)) (Q : Option sv → sS → Prop) : Nat → Nat → sL → List sv → sS → Prop
  | 0, pc, ls, st, σ => Jd Y d y pc ls st σ Q
  | n + 1, pc, ls, st, σ => match fnd pc tab with
    | none => False
    | some e => wp1 Y d y.2.2.1 y.2.2.2 ft ct e ls st σ (fun pc' ls' st' σ' => match lkS pc' stops with
      | some ks => Jd Y d y pc' (keepL ks ls') st' σ' Q
      | none => blk Y d y ft ct tab stops Q n pc' ls' st' σ') Q
theorem fnd_mem {pc : Nat} : ∀ {tab : List sT} {e : sT}, fnd pc tab = some e → e ∈ tab ∧ e.1 = pc
  | [], e, h => by cases h
  | q :: r, e, h => by
    simp only [fnd] at h
    cases hb : Nat.beq q.1 pc with
    | true =>
      rw [hb] at h
      have : q = e := by simpa using h
      subst this
      exact ⟨List.mem_cons_self, Nat.eq_of_beq_eq_true hb⟩
    | false =>
      rw [hb] at h
      exact ⟨List.mem_cons_of_mem _ (fnd_mem h).1, (fnd_mem h).2⟩
theorem keepL_mem {ks : List Nat} : ∀ {ls : sL} (q : Nat × sv), q ∈ keepL ks ls → q ∈ ls
  | [], q, h => by cases h
  | p :: r, q, h => by
    simp only [keepL] at h
    cases hb : hasK p.1 ks with
    | true =>
      rw [hb] at h
      rcases List.mem_cons.mp h with rfl | h
      · exact List.mem_cons_self
      · exact List.mem_cons_of_mem _ (keepL_mem q h)
    | false =>
      rw [hb] at h
      exact List.mem_cons_of_mem _ (keepL_mem q h)
/-- what a method's tables must be -/
def mOK (Y : List kd) (y : sY) (ft : List (Nat × Nat × Nat × sF)) (ct : List sE) (tab : List sT) : Prop := (∀ e ∈ tab, sTok y.1.cls y.2.1 e) ∧ (∀ q ∈ ft, fOK y.1.cls q) ∧ ∀ q ∈ ct, eOK Y y.1.cls q
theorem blk_ok {Y : List kd} {d : Nat} {y : sY} {ft : List (Nat × Nat × Nat × sF)} {ct : List sE} {tab : List sT} (hM : mOK Y y ft ct tab) (stops : List (Nat × List Nat)) {Q : Option sv → sS → Prop} : ∀ (n pc : Nat) (ls : sL) (st : List sv) (σ : sS), blk Y d y ft ct tab stops Q n pc ls st σ → Jd Y d y pc ls st σ Q
  | 0, pc, ls, st, σ, h => h
  | n + 1, pc, ls, st, σ, h => by
    simp only [blk] at h
    cases hf : fnd pc tab with
    | none => simp only [hf] at h
    | some e =>
      simp only [hf] at h
      obtain ⟨hm, hpc⟩ := fnd_mem hf
      rw [← hpc]
      refine wp1_ok hM.2.1 hM.2.2 (hM.1 e hm) h ?_
      intro pc' ls' st' σ' hk
      cases hl : lkS pc' stops with
      | none =>
        simp only [hl] at hk
        exact blk_ok hM stops n pc' ls' st' σ' hk
      | some ks =>
        simp only [hl] at hk
        exact Jd.sub hk (fun q hq => keepL_mem q hq)
theorem tab_of {own : String} {bytes : ByteArray} {tab : List sT} (h : tab.all (fun e => decide (decode bytes e.1 = .ok (e.2.2.1, e.2.1)) && sSide own e) = true) : ∀ e ∈ tab, sTok own bytes e := by
  intro e he
  have := List.all_eq_true.mp h e he
  simp only [Bool.and_eq_true, decide_eq_true_eq] at this
  exact this
