/-! the reference reads values: parts, fields, the loop -/
noncomputable def pst (L : Nat → Nat) (n i : Nat) (S : List Nat) : Option Nat := if i < n then (match vbeg S (L i) with | none => some i | some b => vst L (n - (i + 1)) (i + 1) b) else some i
/-- the first thing that is not as it must be has been met -/
def SB (n : Nat) (R : Nat ⊕ VT) (σ : sS) : Prop := ∃ p, p < n ∧ R = .inl p ∧ σ 0 44 = nI p
/-- a part is to come -/
def ST (L : Nat → Nat) (n : Nat) (R : Nat ⊕ VT) (σ : sS) (i P : Nat) (o : OP) : Prop := SB n R σ ∨ ∃ v s dg e a, (∀ m, n ≤ i + m → vbu L n m i v s dg = R) ∧ σ 0 44 = -1 ∧ (a.1 = 0 ∨ a.1 = 3) ∧ VI v s dg a ∧ MT σ v s e ∧ (∀ q r, s = q :: r → v.2 0 q = 2 → e = dg ∧ σ 0 46 = nI dg) ∧ o = opOf v s ∧ P = v.1
/-- the head of the loop -/
def SH (L : Nat → Nat) (n : Nat) (R : Nat ⊕ VT) (σ : sS) (i P : Nat) (o : OP) : Prop := SB n R σ ∨ ∃ v s dg, (∀ m, n ≤ i + m → vbu L n m i v s dg = R) ∧ σ 0 44 = -1 ∧ VI v s dg (hst o, false, mks o) ∧ MT σ v s 0 ∧ o = opOf v s ∧ P = v.1
theorem pst_none {L : Nat → Nat} {n i : Nat} {S : List Nat} (h : i < n → vbeg S (L i) = none) : pst L n i S = some i := by
  unfold pst
  split
  · rename_i z
    rw [h z]
  · rfl
theorem pst_some {L : Nat → Nat} {n i : Nat} {S : List Nat} {b : VA} (hi : i < n) (h : vbeg S (L i) = some b) : pst L n i S = vst L (n - (i + 1)) (i + 1) b := by
  unfold pst
  rw [if_pos hi, h]
theorem pst_of0 {L : Nat → Nat} {n i : Nat} (hi : i ≤ n) (S : List Nat) : vst L (n - i) i (0, false, S) = pst L n i S := by
  unfold pst
  by_cases h : i < n
  · have e : n - i = (n - (i + 1)) + 1 := by omega
    rw [if_pos h, e]
    have e2 : vgo (0, false, S) (L i) = vbeg S (L i) := by unfold vgo; simp
    conv => lhs; unfold vst
    rw [e2]
    cases vbeg S (L i) <;> rfl
  · have e : n - i = 0 := by omega
    rw [if_neg h, e]
    unfold vst
    rw [if_neg (show ¬ (0 : Nat) = 1 by omega)]
theorem pst_of3 {L : Nat → Nat} {n i : Nat} (hi : i ≤ n) (S : List Nat) (h93 : i < n → L i ≠ 93) : vst L (n - i) i (3, false, S) = pst L n i S := by
  unfold pst
  by_cases h : i < n
  · have e : n - i = (n - (i + 1)) + 1 := by omega
    rw [if_pos h, e]
    have e2 : vgo (3, false, S) (L i) = vbeg S (L i) := by
      unfold vgo
      simp [h93 h]
    conv => lhs; unfold vst
    rw [e2]
    cases vbeg S (L i) <;> rfl
  · have e : n - i = 0 := by omega
    rw [if_neg h, e]
    unfold vst
    rw [if_neg (show ¬ (3 : Nat) = 1 by omega)]
theorem vst_step {L : Nat → Nat} {n i : Nat} (hi : i < n) {a b : VA} (h : vgo a (L i) = some b) : vst L (n - i) i a = vst L (n - (i + 1)) (i + 1) b := by
  have e : n - i = (n - (i + 1)) + 1 := by omega
  rw [e]
  conv => lhs; unfold vst
  rw [h]
theorem vst_stop {L : Nat → Nat} {n i : Nat} (hi : i ≤ n) {a : VA} (h1 : a.1 ≠ 1) (h : i < n → vgo a (L i) = none) : vst L (n - i) i a = some i := by
  by_cases z : i < n
  · have e : n - i = (n - (i + 1)) + 1 := by omega
    rw [e]
    unfold vst
    rw [h z]
  · have e : n - i = 0 := by omega
    rw [e]
    unfold vst
    rw [if_neg h1]
theorem SB.kept {n : Nat} {R : Nat ⊕ VT} {σ σ' : sS} (h : SB n R σ) (h44 : σ' 0 44 = σ 0 44) : SB n R σ' := by
  obtain ⟨p, p1, p2, p3⟩ := h
  exact ⟨p, p1, p2, by rw [h44]; exact p3⟩
theorem SB.bp {n : Nat} {R : Nat ⊕ VT} {σ σ' : sS} {i P : Nat} {o : OP} {of x : Nat} (h : SB n R σ) (hn : n ≤ 96) (hb : BP σ σ' i P o of x) : SB n R σ' := by
  obtain ⟨p, p1, p2, p3⟩ := h
  by_cases z : bdR P o
  · refine ⟨p, p1, p2, ?_⟩
    rw [hb.1 z, if_neg (by rw [p3]; exact nI_pos (by omega))]
    exact p3
  · exact ⟨p, p1, p2, by rw [hb.2.1 z]; exact p3⟩
/-- a leaf was read -/
theorem ST.leaf {L : Nat → Nat} {n : Nat} {R : Nat ⊕ VT} {σ σ' : sS} {i i' B P : Nat} {o : OP} {of x : Nat} (hn : n ≤ 96) (hi : i < n) (h : ST L n R σ i P o) (hb : BP σ σ' i P o of x) (hof : of ≤ 1) (hx0 : of = 0 → x ≤ 99) (hx1 : of ≠ 0 → x = 0) (hii : i < i')
    (hg : RG L n σ' i' B (P + 1) (inc o))
    (hst : ∀ m v s dg, vbu L n (m + 1) i v s dg = if pB (badQ v s) = true then .inl i else vbu L n m i' (addV v s of x (vdg v s dg)) s (vdg v s dg)) : SH L n R σ' i' (P + 1) (inc o) := by
  rcases h with z | ⟨v, s, dg, e, a, h1, h2, h3, h4, h5, h6, h7, h8⟩
  · exact Or.inl (z.bp hn hb)
  · subst h7; subst h8
    by_cases hbad : badQ v s
    · refine Or.inl ⟨i, hi, ?_, ?_⟩
      · rw [← h1 (n - i + 1) (by omega), hst, if_pos (pB_t hbad)]
      · rw [hb.1 (bdR_badQ.mpr hbad), h2, if_pos (by decide)]
    · obtain ⟨c1, c2, c3, c4, c5, c6⟩ := h4.canAdd h3 hbad
      have hvd : ∀ q r, s = q :: r → v.2 0 q = 2 → e = vdg v s dg ∧ σ 0 46 = nI (vdg v s dg) := by
        intro q r e1 e2
        have := h6 q r e1 e2
        subst e1
        have ev : vdg v (q :: r) dg = dg := by
          show (if v.2 0 q = 3 then _ else dg) = dg
          rw [if_neg (by omega)]
        rw [ev]
        exact this
      have hI := h4.leaf h3 hbad hof hx0 hx1 false
      refine Or.inr ⟨addV v s of x (vdg v s dg), s, vdg v s dg, fun m hm => ?_, ?_, ?_, ?_, (opOf_add h4.1 _ _ _).symm, rfl⟩
      · have := h1 (m + i' + 1) (by omega)
        rw [hst, if_neg (by rw [pB_f hbad]; decide)] at this
        rw [← this]
        exact vbu_any L n _ _ _ _ _ _ hm (by omega)
      · rw [hb.2.1 (fun z => hbad (bdR_badQ.mp z))]; exact h2
      · rw [hst_inc, mks_inc, mks_opOf, ← h4.2.1]
        exact hI
      · exact MT.add h4.1 h5 c1 hb hg.2.1 hx1 hvd
theorem ST.opened {L : Nat → Nat} {n : Nat} {R : Nat ⊕ VT} {σ σ' σ'' : sS} {i B P : Nat} {o : OP} {of : Nat} (hn : n ≤ 96) (hi : i < n) (h : ST L n R σ i P o) (hb : BP σ σ' i P o of 0) (hof : of = 2 ∨ of = 3) (hL : L i = if of = 2 then 40 else 91)
    (hg : RG L n σ' i B (P + 1) (inc o)) (h30 : σ'' 30 o.length = nI (m20 P)) (h32 : σ'' 32 o.length = 0) (hlow : ∀ y, y ≠ o.length → σ'' 30 y = σ' 30 y ∧ σ'' 32 y = σ' 32 y) (hrow : σ'' 2 = σ' 2 ∧ σ'' 3 = σ' 3 ∧ σ'' 4 = σ' 4) (h6' : σ'' 0 6 = σ' 0 6) (h44 : σ'' 0 44 = σ' 0 44) : SH L n R σ'' (i + 1) (P + 1) ((of, 0) :: inc o) := by
  have hstep : ∀ m v s dg, vbu L n (m + 1) i v s dg = if pB (badQ v s) = true then .inl i else vbu L n m (i + 1) (addV v s of 0 (vdg v s dg)) (v.1 :: s) (vdg v s dg) := by
    intro m v s dg
    have hD : ¬ isD (L i) = true := fun z => by
      have := isD_iff.mp z
      rw [hL] at this
      rcases hof with y | y
      · rw [if_pos y] at this; omega
      · rw [if_neg (by omega)] at this; omega
    conv => lhs; unfold vbu
    rw [if_neg (by omega), if_neg hD]
    rcases hof with y | y
    · rw [if_pos y] at hL
      subst y
      rw [if_neg (by omega), if_pos hL]
    · rw [if_neg (by omega)] at hL
      subst y
      rw [if_neg (by omega), if_neg (by omega), if_pos hL]
  rcases h with z | ⟨v, s, dg, e, a, h1, h2, h3, h4, h5, h6, h7, h8⟩
  · exact Or.inl ((z.bp hn hb).kept h44)
  · subst h7; subst h8
    by_cases hbad : badQ v s
    · refine Or.inl ⟨i, hi, ?_, ?_⟩
      · rw [← h1 (n - i + 1) (by omega), hstep, if_pos (pB_t hbad)]
      · rw [h44, hb.1 (bdR_badQ.mpr hbad), h2, if_pos (by decide)]
    · obtain ⟨c1, c2, c3, c4, c5, c6⟩ := h4.canAdd h3 hbad
      have hvd : ∀ q r, s = q :: r → v.2 0 q = 2 → e = vdg v s dg ∧ σ 0 46 = nI (vdg v s dg) := by
        intro q r e1 e2
        have := h6 q r e1 e2
        subst e1
        have ev : vdg v (q :: r) dg = dg := by
          show (if v.2 0 q = 3 then _ else dg) = dg
          rw [if_neg (by omega)]
        rw [ev]
        exact this
      have hI := h4.open_ h3 hbad hof
      have hM := MT.add (x := 0) h4.1 h5 c1 hb hg.2.1 (fun _ => rfl) hvd
      have e0 : (addV v s of 0 (vdg v s dg)).2 0 v.1 = of := by rw [aV0, if_pos rfl]
      have e2 : (addV v s of 0 (vdg v s dg)).2 2 v.1 = 0 := by rw [aV2, if_pos rfl]
      have eo : (of, 0) :: inc (opOf v s) = opOf (addV v s of 0 (vdg v s dg)) (v.1 :: s) := by
        rw [← opOf_add h4.1 of 0 (vdg v s dg)]
        show (of, 0) :: _ = ((addV v s of 0 (vdg v s dg)).2 0 v.1, (addV v s of 0 (vdg v s dg)).2 2 v.1) :: _
        rw [e0, e2]
        rfl
      rw [opOf_len] at h30 h32 hlow
      have em : m20 v.1 = v.1 := by unfold m20; rw [if_pos c1]
      refine Or.inr ⟨addV v s of 0 (vdg v s dg), v.1 :: s, vdg v s dg, fun m hm => ?_, ?_, ?_, ⟨?_, fun p hp => ?_, fun p j hp hp2 hj => ?_, ?_⟩, eo, rfl⟩
      · have := h1 (m + 1) (by omega)
        rw [hstep, if_neg (by rw [pB_f hbad]; decide)] at this
        exact this
      · rw [h44, hb.2.1 (fun z => hbad (bdR_badQ.mp z))]; exact h2
      · have em2 : mks ((of, 0) :: inc (opOf v s)) = (if of = 2 then 40 else 91) :: a.2.2 := by
          show (if of = 2 then 40 else 91) :: mks (inc (opOf v s)) = _
          rw [mks_inc, mks_opOf, ← h4.2.1]
        have eh : hst ((of, 0) :: inc (opOf v s)) = of := by
          show (if of = 2 then 2 else if (0 : Nat) = 0 then 3 else 4) = of
          rcases hof with y | y
          · rw [if_pos y, y]
          · rw [if_neg (by omega), if_pos rfl, y]
        rw [em2, eh]
        exact hI
      · rw [h6']; exact hM.1
      · obtain ⟨d1, d2⟩ := hM.2.1 p hp
        rw [hrow.1, hrow.2.1]
        exact ⟨d1, fun hns => d2 (fun z => hns (List.mem_cons_of_mem _ z))⟩
      · rw [hrow.2.2]
        exact hM.2.2.1 p j hp hp2 hj
      · refine ⟨⟨by rw [h30, em], fun _ => ⟨0, by omega, h32, fun d d1 d5 => ?_⟩⟩, hM.2.2.2.low (fun y hy => hlow y (by omega))⟩
        rw [e2]
        constructor
        · intro y
          rw [Nat.zero_div] at y
          exact absurd y (by decide)
        · rintro (⟨y, y1, -⟩ | y)
          · exact absurd y1 (Nat.not_lt_zero _)
          · omega
theorem mks_len (o : OP) : (mks o).length = o.length := List.length_map _
theorem c_MO_readsPart (Y : List kd) (d : Nat) {L : Nat → Nat} {n : Nat} {R : Nat ⊕ VT} {σ : sS} {i B P : Nat} {o : OP} (h : RG L n σ i B P o) (hB : B < 97) (ht : ST L n R σ i P o) (k : Int32 → sS → Prop)
    (h0 : pst L n i (mks o) = some i → k 0 σ)
    (h1 : ∀ i' P' o' σ', i < i' → RG L n σ' i' (B + 1) P' o' → SH L n R σ' i' P' o' → mV σ σ' → pst L n i (mks o) = vst L (n - i') i' (hst o', false, mks o') → k 1 σ') :
    CJ Y (d + 3) y_MO_readsPart [sR 0 (.inl 6)] σ (rI k) := by
  have hm := m20_le P
  have hn96 := h.1.2.2.2.1
  have hin := h.1.2.2.2.2
  have hol : o.length ≤ 97 := by have := h.2.2.2.2.2.1; omega
  have bad : (i < n → vbeg (mks o) (L i) = none) → k 0 σ := fun hz => h0 (pst_none hz)
  have at60 : ∀ of, (of = 2 ∨ of = 3) → i < n → L i = (if of = 2 then 40 else 91) → Jd Y (d + 3) y_MO_readsPart 60 [(0, sR 0 (.inl 6))] [sI (nI of)] σ (rI k) := by
    intro of hof hi hL
    refine s_MO_readsPart_60 Y (d + 2) 0 _ σ (rI k) ?_
    refine c_MO_beginsPart Y (d + 1) h hB of 0 _ (fun σ1 g1 b1 => ?_)
    have hl1 : (inc o).length < 100 := by rw [inc_len]; omega
    refine c_MO_opens Y _ g1.2.2.2.2.1 hl1 (m20 P) of 0 (by omega) _ (fun σ2 q1 q2 q3 q4 q5 q6 q7 q8 q9 => ?_)
    refine s_MO_readsPart_78 Y (d + 2) 0 σ2 (rI k) ⟨Or.inr rfl, ?_⟩
    have e43 : σ2 0 43 = nI i := by rw [q9 43 (by omega)]; exact g1.1.1
    rw [e43, nI_s1]
    obtain ⟨a1, a2, a3, a4, a5, a6, a7, a8, a9⟩ := g1
    rw [inc_len] at q1 q2 q3 q4 q5 q6 q7
    have u0 : ∀ y, y ≠ 43 → (up σ2 0 43 (nI (i + 1))) 0 y = σ2 0 y := fun y hy => up_other _ _ (Or.inr hy)
    have uc : ∀ c, c ≠ 0 → (up σ2 0 43 (nI (i + 1))) c = σ2 c := fun c hc => up_cell _ _ hc
    have gT : TP L n (up σ2 0 43 (nI (i + 1))) (i + 1) := a1.kept (up_self _ _ _ _) hi (by rw [u0 42 (by omega), q9 42 (by omega)]) (by rw [uc 29 (by omega), q8 29 (by omega) (by omega)])
    have gR : RG L n (up σ2 0 43 (nI (i + 1))) (i + 1) (B + 1) (P + 1) ((of, 0) :: inc o) := by
      refine ⟨gT, by rw [u0 6 (by omega), q9 6 (by omega)]; exact a2, a3, a4, ?_, ?_, ⟨⟨?_, ?_, m20 P, hm, ?_⟩, ?_⟩, ?_, ?_⟩
      · rw [u0 45 (by omega), q1, List.length_cons, inc_len]
      · rw [List.length_cons, inc_len]
        have := h.2.2.2.2.2.1
        omega
      · rw [inc_len, uc 31 (by omega)]; exact q3
      · rw [inc_len, uc 33 (by omega)]; exact q5
      · rw [inc_len, uc 30 (by omega)]; exact q2
      · refine a7.kept (fun y hy => ?_)
        rw [inc_len] at hy
        rw [uc 30 (by omega), uc 31 (by omega), uc 33 (by omega), q7 30 (by omega) (by omega) y (by omega), q7 31 (by omega) (by omega) y (by omega), q7 33 (by omega) (by omega) y (by omega)]
        exact ⟨rfl, rfl, rfl⟩
      · intro q hq
        rcases List.mem_cons.mp hq with e | hq
        · subst e
          exact ⟨hof, Nat.zero_le _⟩
        · exact a8 q hq
      · intro q hq
        have hq : q ∈ inc o := hq
        cases o with
        | nil => exact absurd hq List.not_mem_nil
        | cons b r =>
          rcases List.mem_cons.mp hq with e | hq
          · subst e
            exact Nat.le_add_left 1 _
          · exact a9 q hq
    have hb : vbeg (mks o) (L i) = some (of, false, (if of = 2 then 40 else 91) :: mks o) := by
      unfold vbeg
      rcases hof with z | z
      · rw [if_pos z] at hL ⊢
        rw [if_pos hL, z]
      · rw [if_neg (show ¬ of = 2 by omega)] at hL ⊢
        rw [if_neg (by omega), if_pos hL, z]
    refine h1 (i + 1) (P + 1) ((of, 0) :: inc o) _ (Nat.lt_succ_self i) gR ?_ ?_ ?_
    · refine ST.opened hn96 hi ht b1 hof hL ⟨a1, a2, a3, a4, a5, a6, a7, a8, a9⟩ ?_ ?_ (fun y hy => ?_) ?_ ?_ ?_
      · rw [uc 30 (by omega)]; exact q2
      · rw [uc 32 (by omega)]; exact q4
      · rw [uc 30 (by omega), uc 32 (by omega), q7 30 (by omega) (by omega) y hy, q7 32 (by omega) (by omega) y hy]
        exact ⟨rfl, rfl⟩
      · rw [uc 2 (by omega), uc 3 (by omega), uc 4 (by omega), q8 2 (by omega) (by omega), q8 3 (by omega) (by omega), q8 4 (by omega) (by omega)]
        exact ⟨rfl, rfl, rfl⟩
      · rw [u0 6 (by omega), q9 6 (by omega)]
      · rw [u0 44 (by omega), q9 44 (by omega)]
    · refine b1.2.2.2.2.2.2.2.2.2.trans ⟨fun c c0 c2 c3 c4 c5 => ?_, fun y y1 y2 => ?_⟩
      · rw [uc c c0, q8 c c0 c5]
      · rw [u0 y (by omega), q9 y (by omega)]
    · rw [pst_some hi hb]
      have em : mks ((of, 0) :: inc o) = (if of = 2 then 40 else 91) :: mks o := by
        show (if of = 2 then 40 else 91) :: mks (inc o) = _
        rw [mks_inc]
      have eh : hst ((of, 0) :: inc o) = of := by
        show (if of = 2 then 2 else if (0 : Nat) = 0 then 3 else 4) = of
        rcases hof with y | y
        · rw [if_pos y, y]
        · rw [if_neg (by omega), if_pos rfl, y]
      rw [em, eh]
  refine s_MO_readsPart_0 Y (d + 2) 0 σ (rI k) ?_
  refine c_MO_sign Y _ h.1 _ (fun hi => ?_) (fun hi => ?_)
  · have hb := (h.1.2.2.1 i hi).2
    rw [iInD_nI hb, z_eq (by omega) 63 (by omega), z_eq (by omega) 40 (by omega), z_eq (by omega) 91 (by omega)]
    cases hD : isD (L i) with
    | true =>
      have hDb := isD_iff.mp hD
      refine ⟨fun z => absurd z (by decide), fun _ => ?_⟩
      refine c_MO_readsNumber Y d h hB hi hD _ (fun σ' g b => ⟨Or.inr rfl, ?_⟩)
      have hlt := numP_gt L n i
      have hbg : vbeg (mks o) (L i) = some (vend (mks o), true, mks o) := by
        unfold vbeg
        rw [if_neg (by omega), if_neg (by omega), if_pos hD]
      refine h1 (numP L n i).2 (P + 1) (inc o) σ' hlt g ?_ b.2.2.2.2.2.2.2.2.2 ?_
      · refine ST.leaf hn96 hi ht b (by omega) (fun _ => ?_) (fun z => absurd rfl z) hlt g (fun m v s dg => ?_)
        · unfold numP
          split
          · rename_i z
            have := isD_iff.mp z.2
            show 10 * (L i - 48) + (L (i + 1) - 48) ≤ 99
            omega
          · show L i - 48 ≤ 99
            omega
        · conv => lhs; unfold vbu
          rw [if_neg (by omega), if_pos hD]
      · rw [pst_some hi hbg, hst_inc, mks_inc]
        unfold numP
        by_cases z : i + 1 < n ∧ isD (L (i + 1)) = true
        · rw [if_pos z]
          refine vst_step z.1 ?_
          unfold vgo
          rw [if_pos (by show (true && isD (L (i + 1))) = true; rw [z.2]; rfl)]
        · rw [if_neg z]
          refine vst_lone L _ _ _ _ true (fun z1 _ => ?_)
          cases y : isD (L (i + 1)) with
          | false => rfl
          | true => exact absurd ⟨by omega, y⟩ z
    | false =>
      have hDn : ¬ isD (L i) = true := by rw [hD]; decide
      refine ⟨fun _ => ⟨fun n63 => ⟨fun e40 => ?_, fun n40 => ⟨fun n91 => ⟨Or.inl rfl, ?_⟩, fun e91 => ?_⟩⟩, fun e63 => ?_⟩, fun z => absurd rfl z⟩
      · refine s_MO_readsPart_49 Y (d + 2) 0 _ σ (rI k) ⟨fun z => ?_, fun _ => at60 2 (Or.inl rfl) hi (by rw [if_pos rfl]; exact e40)⟩
        rw [z_eq (by omega) 40 (by omega)] at z
        exact absurd e40 z
      · refine bad (fun _ => ?_)
        unfold vbeg
        rw [if_neg n40, if_neg n91, if_neg hDn, if_neg n63]
      · refine s_MO_readsPart_49 Y (d + 2) 0 _ σ (rI k) ⟨fun _ => at60 3 (Or.inr rfl) hi (by rw [if_neg (by omega)]; exact e91), fun z => ?_⟩
        rw [z_eq (by omega) 40 (by omega)] at z
        exact absurd z n40
      · refine c_MO_beginsPart Y (d + 1) h hB 1 0 _ (fun σ1 g1 b1 => ?_)
        refine s_MO_readsPart_78 Y (d + 2) 0 σ1 (rI k) ⟨Or.inr rfl, ?_⟩
        rw [g1.1.1, nI_s1]
        have hbg : vbeg (mks o) (L i) = some (vend (mks o), false, mks o) := by
          unfold vbeg
          rw [if_neg (by omega), if_neg (by omega), if_neg hDn, if_pos e63]
        have g2 := g1.next hi
        have b2 := b1.at43 (nI (i + 1))
        refine h1 (i + 1) (P + 1) (inc o) _ (Nat.lt_succ_self i) g2 ?_ b2.2.2.2.2.2.2.2.2.2 ?_
        · refine ST.leaf hn96 hi ht b2 (by omega) (fun z => by omega) (fun _ => rfl) (Nat.lt_succ_self i) g2 (fun m v s dg => ?_)
          conv => lhs; unfold vbu
          rw [if_neg (by omega), if_neg hDn, if_pos e63]
        · rw [pst_some hi hbg, hst_inc, mks_inc]
  · have hk0 : k 0 σ := bad (fun z => by omega)
    refine ⟨fun _ => ⟨fun _ => ⟨fun z => absurd z (by decide), fun _ => ⟨fun _ => ⟨Or.inl rfl, hk0⟩, fun z => absurd z (by decide)⟩⟩, fun z => absurd z (by decide)⟩, fun z => absurd (by decide) z⟩
