/-! the reference reads values: inside what is open, the whole -/
theorem SH.at46 {L : Nat → Nat} {n : Nat} {R : Nat ⊕ VT} {σ σ' : sS} {i P : Nat} {o : OP} (h : SH L n R σ i P o) (h0 : σ' 0 44 = σ 0 44) (h6 : σ' 0 6 = σ 0 6) (hc : ∀ c, c ≠ 0 → σ' c = σ c) : SH L n R σ' i P o := by
  rcases h with z | ⟨v, s, dg, g1, g2, g3, g4, g5, g6⟩
  · exact Or.inl (z.kept h0)
  · refine Or.inr ⟨v, s, dg, g1, by rw [h0]; exact g2, g3, ⟨by rw [h6]; exact g4.1, fun p hp => by rw [hc 2 (by omega), hc 3 (by omega)]; exact g4.2.1 p hp, fun p j hp hp2 hj => by rw [hc 4 (by omega)]; exact g4.2.2.1 p j hp hp2 hj, g4.2.2.2.kept (hc 30 (by omega)) (hc 32 (by omega))⟩, g5, g6⟩
theorem RG.at46 {L : Nat → Nat} {n : Nat} {σ σ' : sS} {i B P : Nat} {o : OP} (h : RG L n σ i B P o) (h0 : ∀ y, y ≠ 46 → σ' 0 y = σ 0 y) (hc : ∀ c, c ≠ 0 → σ' c = σ c) : RG L n σ' i B P o := by
  obtain ⟨a1, a2, a3, a4, a5, a6, a7, a8, a9⟩ := h
  exact ⟨a1.kept (by rw [h0 43 (by omega)]; exact a1.1) a1.2.2.2.2 (h0 42 (by omega)) (hc 29 (by omega)), by rw [h0 6 (by omega)]; exact a2, a3, a4, by rw [h0 45 (by omega)]; exact a5, a6, a7.kept (fun y _ => ⟨by rw [hc 30 (by omega)], by rw [hc 31 (by omega)], by rw [hc 33 (by omega)]⟩), a8, a9⟩
theorem c_MO_readsInside (Y : List kd) (d : Nat) {L : Nat → Nat} {n : Nat} {R : Nat ⊕ VT} {σ : sS} {i P : Nat} {q : Nat × Nat} {r : OP} (h : RG L n σ i i P (q :: r)) (hs : SH L n R σ i P (q :: r)) (k : Int32 → sS → Prop)
    (h0 : ∀ p σ', vst L (n - i) i (hst (q :: r), false, mks (q :: r)) = some p → σ' 0 43 = nI p → mV σ σ' → k 0 σ')
    (h1 : ∀ i' P' o' σ', i < i' → RG L n σ' i' i' P' o' → SH L n R σ' i' P' o' → mV σ σ' → vst L (n - i) i (hst (q :: r), false, mks (q :: r)) = vst L (n - i') i' (hst o', false, mks o') → k 1 σ') :
    CJ Y (d + 5) y_MO_readsInside [sR 0 (.inl 6)] σ (rI k) := by
  have hn96 := h.1.2.2.2.1
  have hin := h.1.2.2.2.2
  have h45 := h.2.2.2.2.1
  have hlen := h.2.2.2.2.2.1
  rw [List.length_cons] at h45 hlen
  have hlr : r.length < 100 := by omega
  have hkb := h.2.2.2.2.2.2.2.1 q List.mem_cons_self
  have q1 : σ 31 r.length = nI q.1 := h.2.2.2.2.2.2.1.1.1
  have w0 : ∀ y, y ≠ 46 → (up σ 0 46 0) 0 y = σ 0 y := fun y hy => up_other _ _ (Or.inr hy)
  have wc : ∀ c, c ≠ 0 → (up σ 0 46 0) c = σ c := fun c hc => up_cell _ _ hc
  have g := h.at46 w0 wc
  have s := hs.at46 (w0 44 (by omega)) (w0 6 (by omega)) wc
  have gM : mV σ (up σ 0 46 0) := mV.up0 σ (by omega) 0
  refine s_MO_readsInside_0 Y (d + 4) 0 σ (rI k) ?_
  rw [w0 45 (by omega), h45, nI_pred]
  simp only [Nat.zero_add, cl_nI (show r.length < 2 ^ 31 by omega), wc 31 (by omega), q1]
  rw [z_eq (by omega) 2 (by omega)]
  refine ⟨vinI hlr (by omega), fun n2 => ?_, fun e2 => ?_⟩
  · have e3 : q.1 = 3 := by omega
    -- a part is to come
    have part : ∀ (j : Nat) (τ : sS), i ≤ j → RG L n τ j j P (q :: r) → ST L n R τ j P (q :: r) → mV σ τ → vst L (n - i) i (hst (q :: r), false, mks (q :: r)) = pst L n j (mks (q :: r)) → Jd Y (d + 5) y_MO_readsInside 76 [(0, sR 0 (.inl 6))] [] τ (rI k) := by
      intro j τ hj g1 g2 g3 g4
      refine s_MO_readsInside_76 Y (d + 4) 0 τ (rI k) ?_
      refine c_MO_readsPart Y (d + 1) g1 (by have := g1.1.2.2.2.2; omega) g2 _ (fun hp => ⟨fun _ => ⟨Or.inl rfl, ?_⟩, fun z => absurd rfl z⟩) (fun i' P' o' σ' k1 k2 k3 k4 k5 => ⟨fun z => absurd z (by decide), fun _ => ⟨Or.inr rfl, ?_⟩⟩)
      · exact h0 j τ (by rw [g4, hp]) g1.1.1 g3
      · exact h1 i' P' o' σ' (by omega) (k2.mono (by omega) (by have := k2.1.2.2.2.2; omega)) k3 (g3.trans k4) (by rw [g4]; exact k5)
    refine c_MO_closes Y (d + 2) g s (c := 93) (by rw [if_neg (by omega)]) _ (fun h93 => ⟨fun _ => ?_, fun z => absurd rfl z⟩) (fun σ' hi g1 g2 g3 g4 => ⟨fun z => absurd z (by decide), fun _ => ⟨by decide, ?_⟩⟩)
    · have q2 : σ 33 r.length = nI q.2 := h.2.2.2.2.2.2.1.1.2.1
      have w45 : (up σ 0 46 0) 0 45 = nI (r.length + 1) := by rw [w0 45 (by omega)]; exact h45
      rw [w45, nI_pred]
      simp only [cl_nI (show r.length < 2 ^ 31 by omega), wc 33 (by omega), q2]
      rw [z_eq (by omega) 0 (by omega)]
      have eh : hst (q :: r) = if q.2 = 0 then 3 else 4 := by
        show (if q.1 = 2 then 2 else if q.2 = 0 then 3 else 4) = _
        rw [if_neg n2]
      refine ⟨vinI hlr (by omega), fun e0 => ?_, fun n0 => ?_⟩
      · rw [if_pos e0] at eh
        refine part i _ (Nat.le_refl _) g ?_ gM ?_
        · rcases s with z | ⟨v, s, dg, g1, g2, g3, g4, g5, g6⟩
          · exact Or.inl z
          · refine Or.inr ⟨v, s, dg, 0, (hst (q :: r), false, mks (q :: r)), g1, g2, Or.inr eh, g3, g4, fun q' r' e z => ?_, g5, g6⟩
            subst e
            have : q :: r = (v.2 0 q', v.2 2 q') :: opOf v r' := g5
            injection this with y1 y2
            rw [y1] at e3
            omega
        · rw [eh]
          exact pst_of3 hin _ h93
      · rw [if_neg n0] at eh
        refine c_MO_reads Y _ g.1 (by omega : 44 < 256) _ (fun hi e44 => ⟨fun z => absurd z (by decide), fun _ => ?_⟩) (fun hn44 => ⟨fun _ => ⟨by decide, ?_⟩, fun z => absurd rfl z⟩)
        · have hgo : vgo (hst (q :: r), false, mks (q :: r)) (L i) = some (0, false, mks (q :: r)) := by
            rw [eh, e44]
            unfold vgo
            simp
          refine part (i + 1) _ (by omega) ((g.next hi).mono (by omega) (by omega)) ?_ (gM.trans (mV.up0 _ (by omega) _)) ?_
          · rcases s with z | ⟨v, s, dg, g1, g2, g3, g4, g5, g6⟩
            · exact Or.inl (z.kept (by rw [up_other _ _ (Or.inr (by omega))]))
            · refine Or.inr ⟨v, s, dg, 0, (0, false, mks (q :: r)), fun m hm => ?_, by rw [up_other _ _ (Or.inr (by omega))]; exact g2, Or.inl rfl, g3.comma eh, ?_, fun q' r' e z => ?_, g5, g6⟩
              · have := g1 (m + 1) (by omega)
                rw [vbu_comma hi e44] at this
                exact this
              · exact ⟨by rw [up_other _ _ (Or.inr (by omega))]; exact g4.1, fun p hp => by rw [up_cell _ _ (by omega), up_cell _ _ (by omega)]; exact g4.2.1 p hp, fun p j hp hp2 hj => by rw [up_cell _ _ (by omega)]; exact g4.2.2.1 p j hp hp2 hj, g4.2.2.2.kept (up_cell _ _ (by omega)) (up_cell _ _ (by omega))⟩
              · subst e
                have : q :: r = (v.2 0 q', v.2 2 q') :: opOf v r' := g5
                injection this with y1 y2
                rw [y1] at e3
                omega
          · rw [vst_step hi hgo, pst_of0 (by omega)]
        · refine h0 i _ ?_ g.1.1 gM
          refine vst_stop hin ?_ (fun hi => ?_)
          · show hst (q :: r) ≠ 1
            rw [eh]
            omega
          · rw [eh]
            unfold vgo
            simp [h93 hi, hn44 hi]
    · exact h1 (i + 1) P r σ' (Nat.lt_succ_self i) g1 g2 (gM.trans g3) g4
  · refine c_MO_closes Y (d + 2) g s (c := 41) (by rw [if_pos e2]) _ (fun h41 => ⟨fun z => absurd rfl z, fun _ => ?_⟩) (fun σ' hi g1 g2 g3 g4 => ⟨fun _ => ⟨by decide, ?_⟩, fun z => absurd z (by decide)⟩)
    · refine c_MO_readsField Y d g e2 s h41 _ (fun p σ' k1 k2 k3 => ⟨fun _ => ⟨by decide, h0 p σ' k1 k2 (gM.trans k3)⟩, fun z => absurd rfl z⟩) (fun i' P' o' σ' k1 k2 k3 k4 k5 => ⟨fun z => absurd z (by decide), fun _ => ⟨by decide, h1 i' P' o' σ' k1 k2 k3 (gM.trans k4) k5⟩⟩)
    · exact h1 (i + 1) P r σ' (Nat.lt_succ_self i) g1 g2 (gM.trans g3) g4
/-- what is told, as the rows have it -/
theorem MT.whole {σ : sS} {v : VT} (wp : WFP v) (h : MT σ v [] 0) : MB σ (lnk v) := by
  refine ⟨h.1, fun p hp => ?_, fun p k hp h2 hk => ?_⟩
  · obtain ⟨a, b⟩ := h.2.1 p hp
    exact ⟨a, b List.not_mem_nil⟩
  · show σ 4 (kch v p k) = nI (lkD v (kch v p k))
    rw [lkD_rec wp hp hk h2]
    exact h.2.2.1 p k hp h2 hk
theorem c_MO_readsValue (Y : List kd) (d : Nat) {L : Nat → Nat} {n : Nat} {σ : sS} (h42 : σ 0 42 = nI n) (hn : n ≤ 96) (hL : ∀ j, j < n → σ 29 j = nI (L j) ∧ L j < 256) (k : Int32 → sS → Prop)
    (h0 : ∀ p σ', vst L n 0 (0, false, []) = some p → σ' 0 43 = nI p → mV σ σ' → k 0 σ')
    (hb : ∀ p σ', vst L n 0 (0, false, []) = none → p < n → vbu L n n 0 (0, fun _ _ => 0) [] 0 = .inl p → σ' 0 44 = nI p → mV σ σ' → k 1 σ')
    (h1 : ∀ v σ', vst L n 0 (0, false, []) = none → vbu L n n 0 (0, fun _ _ => 0) [] 0 = .inr v → WFP v → σ' 0 44 = -1 → MB σ' (lnk v) → mV σ σ' → k 1 σ') :
    CJ Y (d + 6) y_MO_readsValue [sR 0 (.inl 6)] σ (rI k) := by
  -- not good
  have at49n : ∀ (p : Nat) (τ : sS), vst L n 0 (0, false, []) = some p → τ 0 43 = nI p → mV σ τ → Jd Y (d + 6) y_MO_readsValue 49 [(0, sR 0 (.inl 6)), (1, sI 0)] [] τ (rI k) := by
    intro p τ e1 e2 e3
    exact s_MO_readsValue_49 Y (d + 5) 0 _ τ (rI k) ⟨fun _ => ⟨Or.inl rfl, h0 p τ e1 e2 e3⟩, fun z => absurd rfl z⟩
  have at30n : ∀ (p : Nat) (τ : sS), vst L n 0 (0, false, []) = some p → τ 0 43 = nI p → mV σ τ → Jd Y (d + 6) y_MO_readsValue 30 [(0, sR 0 (.inl 6)), (1, sI 0)] [] τ (rI k) := by
    intro p τ e1 e2 e3
    exact s_MO_readsValue_30 Y (d + 5) 0 _ τ (rI k) ⟨fun _ => at49n p τ e1 e2 e3, fun z => absurd rfl z⟩
  have loop : ∀ m i P o (τ : sS), n ≤ i + m → RG L n τ i i P o → SH L n (vbu L n n 0 (0, fun _ _ => 0) [] 0) τ i P o → mV σ τ → vst L n 0 (0, false, []) = vst L (n - i) i (hst o, false, mks o) → Jd Y (d + 6) y_MO_readsValue 30 [(0, sR 0 (.inl 6)), (1, sI 1)] [] τ (rI k) := by
    intro m
    induction m using Nat.strongRecOn with
    | _ m ih =>
      intro i P o τ hm g s gM e
      have hin := g.1.2.2.2.2
      refine s_MO_readsValue_30 Y (d + 5) 0 _ τ (rI k) ⟨fun z => absurd z (by decide), fun _ => ⟨fun hz => ?_, fun hz => ?_⟩⟩
      · rw [g.2.2.2.2.1, lit 0, i32_lt (by omega) (by have := g.2.2.2.2.2.1; omega)] at hz
        cases o with
        | cons q r => rw [List.length_cons] at hz; omega
        | nil =>
          refine s_MO_readsValue_49 Y (d + 5) 0 _ τ (rI k) ⟨fun z => absurd z (by decide), fun _ => ?_⟩
          rw [g.1.1, g.1.2.1, i32_eq (by omega) (by omega)]
          refine ⟨fun hne => ⟨Or.inl rfl, ?_⟩, fun he => ⟨Or.inr rfl, ?_⟩⟩
          · refine h0 i τ ?_ g.1.1 gM
            rw [e]
            have hi : i < n := by omega
            have en : n - i = (n - (i + 1)) + 1 := by omega
            rw [en]
            have hg : vgo (hst [], false, mks []) (L i) = none := by
              unfold vgo hst
              simp
            unfold vst
            rw [hg]
          · subst he
            have e0 : vst L i 0 (0, false, []) = none := by
              rw [e, Nat.sub_self]
              unfold vst
              rw [if_pos (show (hst [], false, mks []).1 = 1 from rfl)]
            rcases s with ⟨p, p1, p2, p3⟩ | ⟨v, s, dg, g1, g2, g3, g4, g5, g6⟩
            · exact hb p τ e0 p1 p2 p3 gM
            · cases s with
              | cons a t => cases g5
              | nil =>
                have ev := g1 0 (by omega)
                have hv1 : 1 ≤ v.1 := by
                  rcases Nat.eq_zero_or_pos v.1 with z | z
                  · have := (g3.2.2.2.2.1 z).2.2
                    exact absurd this (by decide)
                  · exact z
                have wp := g3.1.whole hv1
                exact h1 v τ e0 (by rw [← ev]; rfl) wp g2 (g4.whole wp) gM
      · cases o with
        | nil =>
          rw [g.2.2.2.2.1] at hz
          exact absurd hz (by decide)
        | cons q r =>
          refine c_MO_readsInside Y d g s _ (fun p σ' k1 k2 k3 => at30n p σ' (by rw [e]; exact k1) k2 (gM.trans k3)) (fun i' P' o' σ' k1 k2 k3 k4 k5 => ?_)
          have hi' := k2.1.2.2.2.2
          exact ih (n - i') (by omega) i' P' o' σ' (by omega) k2 k3 (gM.trans k4) (by rw [e]; exact k5)
  refine s_MO_readsValue_0 Y (d + 5) 0 σ (rI k) ?_
  have u0 : ∀ y, y ≠ 43 → y ≠ 44 → y ≠ 45 → y ≠ 6 → y ≠ 46 → (up (up (up (up (up σ 0 43 0) 0 44 (-1)) 0 45 0) 0 6 0) 0 46 0) 0 y = σ 0 y := fun y a b c d e => by
    rw [up_other _ _ (Or.inr e), up_other _ _ (Or.inr d), up_other _ _ (Or.inr c), up_other _ _ (Or.inr b), up_other _ _ (Or.inr a)]
  have uc : ∀ c, c ≠ 0 → (up (up (up (up (up σ 0 43 0) 0 44 (-1)) 0 45 0) 0 6 0) 0 46 0) c = σ c := fun c hc => by
    rw [up_cell _ _ hc, up_cell _ _ hc, up_cell _ _ hc, up_cell _ _ hc, up_cell _ _ hc]
  have u43 : (up (up (up (up (up σ 0 43 0) 0 44 (-1)) 0 45 0) 0 6 0) 0 46 0) 0 43 = nI 0 := by
    rw [up_other _ _ (Or.inr (by omega)), up_other _ _ (Or.inr (by omega)), up_other _ _ (Or.inr (by omega)), up_other _ _ (Or.inr (by omega)), up_self]; rfl
  have u44 : (up (up (up (up (up σ 0 43 0) 0 44 (-1)) 0 45 0) 0 6 0) 0 46 0) 0 44 = -1 := by
    rw [up_other _ _ (Or.inr (by omega)), up_other _ _ (Or.inr (by omega)), up_other _ _ (Or.inr (by omega)), up_self]
  have u45 : (up (up (up (up (up σ 0 43 0) 0 44 (-1)) 0 45 0) 0 6 0) 0 46 0) 0 45 = nI 0 := by
    rw [up_other _ _ (Or.inr (by omega)), up_other _ _ (Or.inr (by omega)), up_self]; rfl
  have u6 : (up (up (up (up (up σ 0 43 0) 0 44 (-1)) 0 45 0) 0 6 0) 0 46 0) 0 6 = nI 0 := by
    rw [up_other _ _ (Or.inr (by omega)), up_self]; rfl
  have gM : mV σ (up (up (up (up (up σ 0 43 0) 0 44 (-1)) 0 45 0) 0 6 0) 0 46 0) := ⟨fun c c0 _ _ _ _ => uc c c0, fun y y1 y2 => u0 y (by omega) (by omega) (by omega) (by omega) (by omega)⟩
  have gR : RG L n (up (up (up (up (up σ 0 43 0) 0 44 (-1)) 0 45 0) 0 6 0) 0 46 0) 0 0 0 [] := ⟨⟨u43, by rw [u0 42 (by omega) (by omega) (by omega) (by omega) (by omega)]; exact h42, by rw [uc 29 (by omega)]; exact hL, hn, Nat.zero_le _⟩, u6, Nat.le_refl _, by omega, u45, Nat.le_refl _, True.intro, fun q hq => absurd hq List.not_mem_nil, fun q hq => absurd hq List.not_mem_nil⟩
  have gS : ST L n (vbu L n n 0 (0, fun _ _ => 0) [] 0) (up (up (up (up (up σ 0 43 0) 0 44 (-1)) 0 45 0) 0 6 0) 0 46 0) 0 0 [] := by
    refine Or.inr ⟨(0, fun _ _ => 0), [], 0, 0, (0, false, []), fun m hm => vbu_any L n _ _ _ _ _ _ hm (by omega), u44, Or.inl rfl, VI.start, ⟨u6, fun p hp => absurd hp (Nat.not_lt_zero _), fun p j hp => absurd hp (Nat.not_lt_zero _), True.intro⟩, fun q r e => (by cases e), rfl, rfl⟩
  refine c_MO_readsPart Y (d + 2) gR (by omega) gS _ (fun hp => ?_) (fun i' P' o' σ' k1 k2 k3 k4 k5 => ?_)
  · refine at30n 0 _ ?_ u43 gM
    have := pst_of0 (L := L) (Nat.zero_le n) []
    rw [Nat.sub_zero] at this
    rw [this]
    exact hp
  · have hi' := k2.1.2.2.2.2
    refine loop (n - i') i' P' o' σ' (by omega) (k2.mono (by omega) (by omega)) k3 (gM.trans k4) ?_
    have := pst_of0 (L := L) (Nat.zero_le n) []
    rw [Nat.sub_zero] at this
    rw [this]
    exact k5
