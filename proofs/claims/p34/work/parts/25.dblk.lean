/-! dm: a stretch of a method -/
def keepV (ks : List Nat) : dL → dL
  | [] => []
  | q :: r => cond (hasK q.1 ks) (q :: keepV ks r) (keepV ks r)
def dblk (B : dB) (ax : Nat → Nat) (d : Nat) (y : sY) (ini : Bool) (ft : List dF) (ct : List dCl) (tab : List sT) (stops : List (Nat × List Nat)) (Q : dQ) : Nat → Nat → Nat → dL → List Value → sS → dW → Prop
  | 0, pc, u, ls, st, σ, μ => DJ B ax d u y pc ls st σ μ Q
  | n + 1, pc, u, ls, st, σ, μ => match fnd pc tab with
    | none => False
    | some e => wp1D B ax d u ini y.2.2.1 y.2.2.2 ft ct e ls st σ μ (fun pc' ls' st' u' σ' μ' => match lkS pc' stops with
      | some ks => DJ B ax d u' y pc' (keepV ks ls') st' σ' μ' Q
      | none => dblk B ax d y ini ft ct tab stops Q n pc' u' ls' st' σ' μ') Q
theorem keepV_mem {ks : List Nat} : ∀ {ls : dL} (q : Nat × Value), q ∈ keepV ks ls → q ∈ ls
  | [], q, h => by cases h
  | p :: r, q, h => by
    simp only [keepV] at h
    cases hb : hasK p.1 ks with
    | true =>
      rw [hb] at h
      rcases List.mem_cons.mp h with rfl | h
      · exact List.mem_cons_self
      · exact List.mem_cons_of_mem _ (keepV_mem q h)
    | false =>
      rw [hb] at h
      exact List.mem_cons_of_mem _ (keepV_mem q h)
/-- what a method's tables must be -/
def dmOK (y : sY) (ini : Bool) (ft : List dF) (ct : List dCl) (tab : List sT) : Prop := (ini = true → y.1.name = "<init>") ∧ (∀ e ∈ tab, dTok y.1.cls y.2.1 e) ∧ (∀ q ∈ ft, dFOK y.1.cls q) ∧ ∀ q ∈ ct, dCOK y.1.cls q
/-- the room that is left at a stretch's end is no more than at its start -/
theorem dblk_ok {B : dB} {ax : Nat → Nat} {d : Nat} {y : sY} {ini : Bool} {ft : List dF} {ct : List dCl} {tab : List sT} (hM : dmOK y ini ft ct tab) (stops : List (Nat × List Nat)) {Q : dQ} : ∀ (n pc u : Nat) (ls : dL) (st : List Value) (σ : sS) (μ : dW), dblk B ax d y ini ft ct tab stops Q n pc u ls st σ μ → DJ B ax d u y pc ls st σ μ Q
  | 0, pc, u, ls, st, σ, μ, h => h
  | n + 1, pc, u, ls, st, σ, μ, h => by
    simp only [dblk] at h
    cases hf : fnd pc tab with
    | none => simp only [hf] at h
    | some e =>
      simp only [hf] at h
      obtain ⟨hm, hpc⟩ := fnd_mem hf
      rw [← hpc]
      refine wp1D_ok hM.1 hM.2.2.1 hM.2.2.2 (hM.2.1 e hm) h ?_
      intro pc' ls' st' u' σ' μ' hk
      cases hl : lkS pc' stops with
      | none =>
        simp only [hl] at hk
        exact dblk_ok hM stops n pc' u' ls' st' σ' μ' hk
      | some ks =>
        simp only [hl] at hk
        exact DJ.sub hk (fun q hq => keepV_mem q hq)
theorem dtab_of {own : String} {bytes : ByteArray} {tab : List sT} (h : tab.all (fun e => decide (decode bytes e.1 = .ok (e.2.2.1, e.2.1)) && dSide own e) = true) : ∀ e ∈ tab, dTok own bytes e := by
  intro e he
  have := List.all_eq_true.mp h e he
  simp only [Bool.and_eq_true, decide_eq_true_eq] at this
  exact this
