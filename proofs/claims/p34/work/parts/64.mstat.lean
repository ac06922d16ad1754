/-! the reference reads values: what its rows tell while it reads -/
def mst (v : VT) (σ : sS) : Nat → List Nat → Prop
  | _, [] => True
  | e, q :: r => (σ 30 r.length = nI q ∧ (v.2 0 q = 2 → ∃ N, N < 64 ∧ σ 32 r.length = nI N ∧ ∀ d, 1 ≤ d → d ≤ 5 → (N / 2 ^ d % 2 = 1 ↔ (∃ k, k < v.2 2 q ∧ v.2 3 (kch v q k) = d) ∨ d = e))) ∧ mst v σ 0 r
def MT (σ : sS) (v : VT) (s : List Nat) (e : Nat) : Prop := σ 0 6 = nI v.1 ∧ (∀ p, p < v.1 → σ 2 p = nI (v.2 0 p) ∧ (p ∉ s → σ 3 p = nI (if v.2 0 p = 0 then v.2 1 p else v.2 2 p))) ∧ (∀ p k, p < v.1 → v.2 0 p = 2 → k < v.2 2 p → σ 4 (kch v p k) = nI (v.2 3 (kch v p k))) ∧ mst v σ e s
def opOf (v : VT) (s : List Nat) : OP := s.map (fun q => (v.2 0 q, v.2 2 q))
theorem opOf_len (v : VT) (s : List Nat) : (opOf v s).length = s.length := List.length_map _
theorem bdR_badQ {v : VT} {s : List Nat} : bdR v.1 (opOf v s) ↔ badQ v s := by
  unfold bdR badQ
  rw [opOf_len]
  constructor
  · rintro (z | z | ⟨q, r, e, e3, e4⟩)
    · exact Or.inl z
    · exact Or.inr (Or.inl z)
    · cases s with
      | nil => cases e
      | cons a t =>
        unfold opOf at e
        rw [List.map_cons] at e
        cases e
        exact Or.inr (Or.inr ⟨a, t, rfl, e3, e4⟩)
  · rintro (z | z | ⟨q, r, e, e3, e4⟩)
    · exact Or.inl z
    · exact Or.inr (Or.inl z)
    · subst e
      exact Or.inr (Or.inr ⟨(v.2 0 q, v.2 2 q), opOf v r, rfl, e3, e4⟩)
theorem mst.kept {v : VT} {σ σ' : sS} (h30 : σ' 30 = σ 30) (h32 : σ' 32 = σ 32) : ∀ {s : List Nat} {e : Nat}, mst v σ e s → mst v σ' e s
  | [], _, _ => True.intro
  | q :: r, e, h => by
    refine ⟨⟨by rw [h30]; exact h.1.1, fun h2 => ?_⟩, mst.kept h30 h32 h.2⟩
    obtain ⟨N, n1, n2, n3⟩ := h.1.2 h2
    exact ⟨N, n1, by rw [h32]; exact n2, n3⟩
/-- the rows of what is open change above alone -/
theorem mst.low {v : VT} {σ σ' : sS} : ∀ {s : List Nat} {e : Nat}, mst v σ e s → (∀ i, i < s.length → σ' 30 i = σ 30 i ∧ σ' 32 i = σ 32 i) → mst v σ' e s
  | [], _, _, _ => True.intro
  | q :: r, e, h, g => by
    obtain ⟨g0, g2⟩ := g r.length (by rw [List.length_cons]; omega)
    refine ⟨⟨by rw [g0]; exact h.1.1, fun h2 => ?_⟩, mst.low h.2 (fun i hi => g i (by rw [List.length_cons]; omega))⟩
    obtain ⟨N, n1, n2, n3⟩ := h.1.2 h2
    exact ⟨N, n1, by rw [g2]; exact n2, n3⟩
theorem nohead {v : VT} {q : Nat} {r : List Nat} (w : StkOK v (q :: r)) {p : Nat} (hp : p ∈ r) : (q :: r).head? ≠ some p := by
  intro z
  have := head_eq.mp z
  have := w.low p hp
  omega
/-- what a part more tells of what is open, but not last -/
theorem mst.add_tail {v : VT} {s0 : List Nat} (w : WFQ v s0) (k x dg : Nat) {σ : sS} : ∀ {r : List Nat} {e : Nat}, (∀ p, p ∈ r → p ∈ s0 ∧ s0.head? ≠ some p) → mst v σ e r → mst (addV v s0 k x dg) σ e r
  | [], _, _, _ => True.intro
  | q :: r, e, hm, h => by
    obtain ⟨h1, h2⟩ := hm q List.mem_cons_self
    have hq := (w.2.2.1.mem q h1).1
    have e0 : (addV v s0 k x dg).2 0 q = v.2 0 q := by rw [aV0, if_neg (by omega)]
    have e2 : (addV v s0 k x dg).2 2 q = v.2 2 q := by rw [aV2, if_neg (by omega), if_neg h2]
    have ec : ∀ j, j < v.2 2 q → (addV v s0 k x dg).2 3 (kch (addV v s0 k x dg) q j) = v.2 3 (kch v q j) := by
      intro j hj
      have e1 : kch (addV v s0 k x dg) q j = kch v q j := add_ch w.2.1 w.2.2.1 k x dg hq j (Or.inl hj)
      have := ch_part w.2.1 hq hj
      have hlt : kch v q j < v.1 := this
      rw [e1, aV3, if_neg (by omega)]
    refine ⟨⟨h.1.1, fun z => ?_⟩, mst.add_tail w k x dg (fun p hp => hm p (List.mem_cons_of_mem _ hp)) h.2⟩
    rw [e0] at z
    obtain ⟨N, n1, n2, n3⟩ := h.1.2 z
    refine ⟨N, n1, n2, fun d d1 d5 => ?_⟩
    rw [n3 d d1 d5, e2]
    constructor
    · rintro (⟨j, j1, j2⟩ | z2)
      · exact Or.inl ⟨j, j1, by rw [ec j j1]; exact j2⟩
      · exact Or.inr z2
    · rintro (⟨j, j1, j2⟩ | z2)
      · exact Or.inl ⟨j, j1, by rw [← ec j j1]; exact j2⟩
      · exact Or.inr z2
/-- and of all that is open -/
theorem mst.add {v : VT} {s : List Nat} (w : WFQ v s) (k x dg : Nat) {σ : sS} {e : Nat} (he : ∀ q r, s = q :: r → v.2 0 q = 2 → e = dg) (h : mst v σ e s) : mst (addV v s k x dg) σ 0 s := by
  cases s with
  | nil => exact True.intro
  | cons q r =>
    have hq := (w.2.2.1.mem q List.mem_cons_self)
    have e0 : (addV v (q :: r) k x dg).2 0 q = v.2 0 q := by rw [aV0, if_neg (by omega)]
    have e2 : (addV v (q :: r) k x dg).2 2 q = v.2 2 q + 1 := by rw [aV2, if_neg (by omega), if_pos (show (q :: r).head? = some q from rfl)]
    have ec : ∀ j, j < v.2 2 q → (addV v (q :: r) k x dg).2 3 (kch (addV v (q :: r) k x dg) q j) = v.2 3 (kch v q j) := by
      intro j hj
      have e1 : kch (addV v (q :: r) k x dg) q j = kch v q j := add_ch w.2.1 w.2.2.1 k x dg hq.1 j (Or.inl hj)
      have := ch_part w.2.1 hq.1 hj
      have hlt : kch v q j < v.1 := this
      rw [e1, aV3, if_neg (by omega)]
    have eN : (addV v (q :: r) k x dg).2 3 (kch (addV v (q :: r) k x dg) q (v.2 2 q)) = dg := by
      have e1 : kch (addV v (q :: r) k x dg) q (v.2 2 q) = v.1 := by
        show ch ((addV v (q :: r) k x dg).2 4) q (v.2 2 q) = v.1
        rw [add_ch w.2.1 w.2.2.1 k x dg hq.1 _ (Or.inr ⟨rfl, fun z => z.2 rfl⟩), (w.2.1 q hq.1).2.1, hq.2.1]
      rw [e1, aV3, if_pos rfl]
    refine ⟨⟨h.1.1, fun z => ?_⟩, mst.add_tail w k x dg (fun p hp => ⟨List.mem_cons_of_mem _ hp, nohead w.2.2.1 hp⟩) h.2⟩
    rw [e0] at z
    obtain ⟨N, n1, n2, n3⟩ := h.1.2 z
    have hee := he q r rfl z
    refine ⟨N, n1, n2, fun d d1 d5 => ?_⟩
    rw [n3 d d1 d5, e2]
    constructor
    · rintro (⟨j, j1, j2⟩ | z2)
      · exact Or.inl ⟨j, by omega, by rw [ec j j1]; exact j2⟩
      · exact Or.inl ⟨v.2 2 q, by omega, by rw [eN]; omega⟩
    · rintro (⟨j, j1, j2⟩ | z2)
      · rcases Nat.lt_or_ge j (v.2 2 q) with y | y
        · exact Or.inl ⟨j, y, by rw [← ec j y]; exact j2⟩
        · have : j = v.2 2 q := by omega
          subst this
          rw [eN] at j2
          exact Or.inr (by omega)
      · omega
theorem opOf_add {v : VT} {s : List Nat} (w : WFQ v s) (k x dg : Nat) : opOf (addV v s k x dg) s = inc (opOf v s) := by
  cases s with
  | nil => rfl
  | cons q r =>
    have hq := (w.2.2.1.mem q List.mem_cons_self)
    have e0 : (addV v (q :: r) k x dg).2 0 q = v.2 0 q := by rw [aV0, if_neg (by omega)]
    have e2 : (addV v (q :: r) k x dg).2 2 q = v.2 2 q + 1 := by rw [aV2, if_neg (by omega), if_pos (show (q :: r).head? = some q from rfl)]
    show ((addV v (q :: r) k x dg).2 0 q, (addV v (q :: r) k x dg).2 2 q) :: opOf (addV v (q :: r) k x dg) r = (v.2 0 q, v.2 2 q + 1) :: opOf v r
    rw [e0, e2]
    congr 1
    refine List.map_congr_left (fun p hp => ?_)
    have hpm := (w.2.2.1.mem p (List.mem_cons_of_mem _ hp)).1
    rw [aV0, aV2, if_neg (show ¬ p = v.1 by omega), if_neg (show ¬ p = v.1 by omega), if_neg (nohead w.2.2.1 hp)]
/-- what a part more does to the rows -/
theorem MT.add {σ σ' : sS} {v : VT} {s : List Nat} {e i : Nat} (w : WFQ v s) (h : MT σ v s e) (hn : v.1 < 20) {of x dg : Nat} (hb : BP σ σ' i v.1 (opOf v s) of x) (hg : σ' 0 6 = nI (v.1 + 1)) (hx : of ≠ 0 → x = 0) (he : ∀ q r, s = q :: r → v.2 0 q = 2 → e = dg ∧ σ 0 46 = nI dg) : MT σ' (addV v s of x dg) s 0 := by
  obtain ⟨h1, h2, h3, h4⟩ := h
  obtain ⟨b1, b2, b3, b4, b5, b6, b7, b8, b9, b10⟩ := hb
  have em : m20 v.1 = v.1 := by unfold m20; rw [if_pos hn]
  rw [em] at b3 b4 b5 b6
  refine ⟨?_, fun p hp => ?_, fun p j hp hp2 hj => ?_, ?_⟩
  · exact hg
  · rw [aVn] at hp
    rw [aV0, aV1, aV2]
    by_cases ep : p = v.1
    · subst ep
      rw [if_pos rfl, if_pos rfl, if_pos rfl]
      refine ⟨b3, fun _ => ?_⟩
      rw [b4]
      by_cases z : of = 0
      · rw [if_pos z]
      · rw [if_neg z, hx z]
    · rw [if_neg ep, if_neg ep, if_neg ep]
      obtain ⟨c1, c2⟩ := h2 p (by omega)
      refine ⟨by rw [(b6 p ep).1]; exact c1, fun hns => ?_⟩
      have hnh : ¬ s.head? = some p := by
        intro z
        cases s with
        | nil => cases z
        | cons a r =>
          have := head_eq.mp z
          subst this
          exact hns List.mem_cons_self
      rw [(b6 p ep).2.1, c2 hns, if_neg hnh]
  · rw [aVn] at hp
    by_cases ep : p = v.1
    · rw [aV2, if_pos ep] at hj
      omega
    · have hpv : p < v.1 := by omega
      rw [aV0, if_neg ep] at hp2
      rw [aV2, if_neg ep] at hj
      by_cases hh : s.head? = some p
      · rw [if_pos hh] at hj
        cases s with
        | nil => cases hh
        | cons a r =>
          have := head_eq.mp hh
          subst this
          have hq := w.2.2.1.mem a List.mem_cons_self
          rcases Nat.lt_or_ge j (v.2 2 a) with y | y
          · have e1 : kch (addV v (a :: r) of x dg) a j = kch v a j := add_ch w.2.1 w.2.2.1 of x dg hpv j (Or.inl y)
            have hlt : kch v a j < v.1 := ch_part w.2.1 hpv y
            rw [e1, aV3, if_neg (by omega), (b6 _ (by omega)).2.2]
            exact h3 a j hpv hp2 y
          · have ej : j = v.2 2 a := by omega
            subst ej
            have e1 : kch (addV v (a :: r) of x dg) a (v.2 2 a) = v.1 := by
              show ch ((addV v (a :: r) of x dg).2 4) a (v.2 2 a) = v.1
              rw [add_ch w.2.1 w.2.2.1 of x dg hpv _ (Or.inr ⟨rfl, fun z => z.2 rfl⟩), (w.2.1 a hpv).2.1, hq.2.1]
            rw [e1, aV3, if_pos rfl, b5]
            exact (he a r rfl hp2).2
      · rw [if_neg hh] at hj
        have e1 : kch (addV v s of x dg) p j = kch v p j := add_ch w.2.1 w.2.2.1 of x dg hpv j (Or.inl hj)
        have hlt : kch v p j < v.1 := ch_part w.2.1 hpv hj
        rw [e1, aV3, if_neg (by omega), (b6 _ (by omega)).2.2]
        exact h3 p j hpv hp2 hj
  · exact (h4.add w of x dg (fun q r e1 e2 => (he q r e1 e2).1)).kept b8 b9
/-! how the head of the loop stands -/
def hst (o : OP) : Nat := match o with
  | [] => 1
  | q :: _ => if q.1 = 2 then 2 else if q.2 = 0 then 3 else 4
def mks (o : OP) : List Nat := o.map (fun q => if q.1 = 2 then 40 else 91)
theorem mks_opOf (v : VT) (s : List Nat) : mks (opOf v s) = s.map (vmark v) := by
  unfold mks opOf
  rw [List.map_map]
  rfl
theorem mks_inc (o : OP) : mks (inc o) = mks o := by cases o <;> rfl
theorem hst_vend {o : OP} (h : ∀ q r, o = q :: r → 1 ≤ q.2) : hst o = vend (mks o) := by
  cases o with
  | nil => rfl
  | cons q r =>
    have := h q r rfl
    by_cases z : q.1 = 2
    · simp [hst, vend, mks, z]
    · have z2 : ¬ q.2 = 0 := by omega
      simp [hst, vend, mks, z, z2]
theorem hst_inc (o : OP) : hst (inc o) = vend (mks o) := by
  rw [hst_vend (o := inc o) (fun q r e => ?_), mks_inc]
  cases o with
  | nil => cases e
  | cons a t => cases e; exact Nat.le_add_left 1 _
