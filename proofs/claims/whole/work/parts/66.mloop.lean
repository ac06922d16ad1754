/-! the reference reads values: ends, fields, the loop -/
theorem bitsA : ∀ N, N < 64 → ∀ d, d < 6 → (nI N ||| ((1 : Int32) <<< (nI d &&& 31))) = nI (if N / 2 ^ d % 2 = 1 then N else N + 2 ^ d) := by decide +kernel
theorem bitsB : ∀ N, N < 64 → ∀ d, d < 6 → (if N / 2 ^ d % 2 = 1 then N else N + 2 ^ d) < 64 ∧ ∀ x, x < 6 → ((if N / 2 ^ d % 2 = 1 then N else N + 2 ^ d) / 2 ^ x % 2 = 1 ↔ N / 2 ^ x % 2 = 1 ∨ x = d) := by decide +kernel
theorem bitsC : ∀ N, N < 64 → ∀ d, d < 6 → (iHas (nI N) (nI d) = 0 ↔ ¬ N / 2 ^ d % 2 = 1) := by decide +kernel
theorem vbu_close {L : Nat → Nat} {n m i : Nat} {v : VT} {s : List Nat} {dg : Nat} (hi : i < n) (hc : L i = 41 ∨ L i = 93) : vbu L n (m + 1) i v s dg = vbu L n m (i + 1) v s.tail dg := by
  have hD : ¬ isD (L i) = true := fun z => by
    have := isD_iff.mp z
    omega
  conv => lhs; unfold vbu
  rw [if_neg (by omega), if_neg hD, if_neg (by omega), if_neg (by omega), if_neg (by omega), if_pos hc]
theorem vbu_comma {L : Nat → Nat} {n m i : Nat} {v : VT} {s : List Nat} {dg : Nat} (hi : i < n) (hc : L i = 44) : vbu L n (m + 1) i v s dg = vbu L n m (i + 1) v s dg := by
  have hD : ¬ isD (L i) = true := fun z => by
    have := isD_iff.mp z
    omega
  conv => lhs; unfold vbu
  rw [if_neg (by omega), if_neg hD, if_neg (by omega), if_neg (by omega), if_neg (by omega), if_neg (by omega), if_pos hc]
theorem vbu_name {L : Nat → Nat} {n m i : Nat} {v : VT} {s : List Nat} {dg : Nat} (hi : i < n) (hc : isN (L i) = true) : vbu L n (m + 1) i v s dg = if pB (dupQ v s (L i - 96)) = true then .inl i else vbu L n m (i + 1) v s (L i - 96) := by
  have hN := isN_iff.mp hc
  have hD : ¬ isD (L i) = true := fun z => by
    have := isD_iff.mp z
    omega
  conv => lhs; unfold vbu
  rw [if_neg (by omega), if_neg hD, if_neg (by omega), if_neg (by omega), if_neg (by omega), if_neg (by omega), if_neg (by omega)]
theorem RG.tail {L : Nat → Nat} {n : Nat} {σ σ' : sS} {i j B P : Nat} {q : Nat × Nat} {r : OP} (h : RG L n σ i B P (q :: r)) (hT : TP L n σ' j) (h6 : σ' 0 6 = σ 0 6) (h45 : σ' 0 45 = nI r.length) (hc : ∀ c, 30 ≤ c → c ≤ 33 → σ' c = σ c) : RG L n σ' j B P r := by
  obtain ⟨a1, a2, a3, a4, a5, a6, a7, a8, a9⟩ := h
  rw [List.length_cons] at a6
  exact ⟨hT, by rw [h6]; exact a2, a3, a4, h45, by omega, a7.2.kept (fun y _ => ⟨by rw [hc 30 (by omega) (by omega)], by rw [hc 31 (by omega) (by omega)], by rw [hc 33 (by omega) (by omega)]⟩), fun x hx => a8 x (List.mem_cons_of_mem _ hx), fun x hx => a9 x (List.mem_of_mem_tail hx)⟩
theorem hst_head {q : Nat × Nat} {r : OP} (h : q.1 = 2 ∨ q.1 = 3) : (hst (q :: r) = 2 ∧ q.1 = 2) ∨ (hst (q :: r) = 3 ∧ q.1 = 3 ∧ q.2 = 0) ∨ (hst (q :: r) = 4 ∧ q.1 = 3 ∧ q.2 ≠ 0) := by
  show ((if q.1 = 2 then 2 else if q.2 = 0 then 3 else 4) = 2 ∧ _) ∨ _
  by_cases z : q.1 = 2
  · exact Or.inl ⟨by rw [if_pos z], z⟩
  · by_cases y : q.2 = 0
    · refine Or.inr (Or.inl ⟨?_, by omega, y⟩)
      show (if q.1 = 2 then 2 else if q.2 = 0 then 3 else 4) = 3
      rw [if_neg z, if_pos y]
    · refine Or.inr (Or.inr ⟨?_, by omega, y⟩)
      show (if q.1 = 2 then 2 else if q.2 = 0 then 3 else 4) = 4
      rw [if_neg z, if_neg y]
theorem c_MO_closes (Y : List kd) (d : Nat) {L : Nat → Nat} {n : Nat} {R : Nat ⊕ VT} {σ : sS} {i P : Nat} {q : Nat × Nat} {r : OP} (h : RG L n σ i i P (q :: r)) (hs : SH L n R σ i P (q :: r)) {c : Nat} (hc : c = if q.1 = 2 then 41 else 93) (k : Int32 → sS → Prop)
    (h0 : (i < n → L i ≠ c) → k 0 σ)
    (h1 : ∀ σ', i < n → RG L n σ' (i + 1) (i + 1) P r → SH L n R σ' (i + 1) P r → mV σ σ' → vst L (n - i) i (hst (q :: r), false, mks (q :: r)) = vst L (n - (i + 1)) (i + 1) (hst r, false, mks r) → k 1 σ') :
    CJ Y (d + 2) y_MO_closes [sR 0 (.inl 6), sI (nI c)] σ (rI k) := by
  have hcb : c < 256 := by
    rw [hc]
    split <;> omega
  have hc2 : c = 41 ∨ c = 93 := by
    rw [hc]
    split
    · exact Or.inl rfl
    · exact Or.inr rfl
  refine s_MO_closes_0 Y (d + 1) 0 _ σ (rI k) ?_
  refine c_MO_reads Y d h.1 hcb _ (fun hi e => ⟨fun _ => ?_, fun z => absurd z (by decide)⟩) (fun hn => ⟨fun z => absurd rfl z, fun _ => ⟨Or.inl rfl, h0 hn⟩⟩)
  obtain ⟨x, x1, x2⟩ := h.2.2.2.2.2.2.1.1.2.2
  have q2 : σ 33 r.length = nI q.2 := h.2.2.2.2.2.2.1.1.2.1
  have h45 := h.2.2.2.2.1
  have hlen := h.2.2.2.2.2.1
  have hn96 := h.1.2.2.2.1
  have hin := h.1.2.2.2.2
  rw [List.length_cons] at h45 hlen
  have hkq := h.2.2.2.2.2.2.2.1 q List.mem_cons_self
  have hlr : r.length < 100 := by omega
  have w45 : (up σ 0 43 (nI (i + 1))) 0 45 = nI (r.length + 1) := by rw [up_other _ _ (Or.inr (by omega))]; exact h45
  rw [w45, nI_pred]
  have c0 : ∀ (τ : sS) (j y : Nat) (z : Int32) (b : Nat), b ≠ 0 → up τ 0 j z b = τ b := fun τ j y z b hb => up_cell _ _ hb
  simp only [up_self, Nat.zero_add, cl_nI (show r.length < 2 ^ 31 by omega), c0 _ _ 0 _ 30 (by omega), c0 _ _ 0 _ 33 (by omega), x2, q2, cl_nI (show x < 2 ^ 31 by omega)]
  refine ⟨vinI hlr (by omega), vinI hlr (by omega), vinI (by omega) (by omega), by simp, ?_⟩
  have u0 : ∀ y, y ≠ 43 → y ≠ 45 → (up (up (up σ 0 43 (nI (i + 1))) 0 45 (nI r.length)) 3 x (nI q.2)) 0 y = σ 0 y := fun y y1 y2 => by
    rw [up_cell _ _ (by omega), up_other _ _ (Or.inr y2), up_other _ _ (Or.inr y1)]
  have uc : ∀ b, b ≠ 0 → b ≠ 3 → (up (up (up σ 0 43 (nI (i + 1))) 0 45 (nI r.length)) 3 x (nI q.2)) b = σ b := fun b b0 b3 => by
    rw [up_cell _ _ b3, up_cell _ _ b0, up_cell _ _ b0]
  have e43 : (up (up (up σ 0 43 (nI (i + 1))) 0 45 (nI r.length)) 3 x (nI q.2)) 0 43 = nI (i + 1) := by
    rw [up_cell _ _ (by omega), up_other _ _ (Or.inr (by omega)), up_self]
  have e45 : (up (up (up σ 0 43 (nI (i + 1))) 0 45 (nI r.length)) 3 x (nI q.2)) 0 45 = nI r.length := by
    rw [up_cell _ _ (by omega), up_self]
  have hT : TP L n (up (up (up σ 0 43 (nI (i + 1))) 0 45 (nI r.length)) 3 x (nI q.2)) (i + 1) := h.1.kept e43 hi (u0 42 (by omega) (by omega)) (uc 29 (by omega) (by omega))
  have hG := (h.tail hT (u0 6 (by omega) (by omega)) e45 (fun b b1 b2 => uc b (by omega) (by omega))).mono (B' := i + 1) (by omega) (by omega)
  have hhv : hst r = vend (mks r) := hst_vend (fun q' r' e => h.2.2.2.2.2.2.2.2 q' (by rw [e]; exact List.mem_cons_self))
  refine h1 _ hi hG ?_ ⟨fun b b0 b2 b3 b4 b5 => uc b b0 b3, fun y y1 y2 => u0 y (by omega) (by omega)⟩ ?_
  · rcases hs with z | ⟨v, s, dg, g1, g2, g3, g4, g5, g6⟩
    · exact Or.inl (z.kept (u0 44 (by omega) (by omega)))
    · cases s with
      | nil => cases g5
      | cons q0 s0 =>
        have g5' : q = (v.2 0 q0, v.2 2 q0) ∧ r = opOf v s0 := by
          have : q :: r = (v.2 0 q0, v.2 2 q0) :: opOf v s0 := g5
          injection this with e1 e2
          exact ⟨e1, e2⟩
        obtain ⟨e1, e2⟩ := g5'
        have hcl := g3.close (by
          rcases hst_head (r := r) hkq.1 with ⟨y, -⟩ | ⟨y, -⟩ | ⟨y, -⟩
          · exact Or.inl y
          · exact Or.inr (Or.inl y)
          · exact Or.inr (Or.inr y))
        have hq0 := g3.1.2.2.1.mem q0 List.mem_cons_self
        have hq20 := g3.1.1
        have ex : x = q0 := by
          have := g4.2.2.2.1.1
          rw [e2, opOf_len] at x2
          rw [x2] at this
          exact nI_inj' this (by omega) (by omega)
        refine Or.inr ⟨v, s0, dg, fun m hm => ?_, by rw [u0 44 (by omega) (by omega)]; exact g2, ?_, ⟨by rw [u0 6 (by omega) (by omega)]; exact g4.1, fun p hp => ⟨by rw [uc 2 (by omega) (by omega)]; exact (g4.2.1 p hp).1, fun hns => ?_⟩, fun p j hp hp2 hj => by rw [uc 4 (by omega) (by omega)]; exact g4.2.2.1 p j hp hp2 hj, g4.2.2.2.2.low (fun y _ => ⟨by rw [uc 30 (by omega) (by omega)], by rw [uc 32 (by omega) (by omega)]⟩)⟩, e2, g6⟩
        · have := g1 (m + 1) (by omega)
          rw [vbu_close hi (by omega)] at this
          exact this
        · rw [hhv]
          exact hcl
        · rw [ex]
          by_cases ep : p = q0
          · rw [ep, up_self, e1, if_neg (show ¬ v.2 0 q0 = 0 by omega)]
          · rw [up_other _ _ (Or.inr ep), up_cell _ _ (by omega), up_cell _ _ (by omega)]
            exact (g4.2.1 p hp).2 (fun z => by
              rcases List.mem_cons.mp z with y | y
              · exact ep y
              · exact hns y)
  · refine vst_step hi ?_
    rw [hhv]
    show vgo (hst (q :: r), false, mks (q :: r)) (L i) = some (vend (mks (q :: r)).tail, false, (mks (q :: r)).tail)
    rcases hst_head (r := r) hkq.1 with ⟨y, y2⟩ | ⟨y, y2, -⟩ | ⟨y, y2, -⟩
    · rw [y, e, hc, if_pos y2]
      unfold vgo
      simp
    · rw [y, e, hc, if_neg (show ¬ q.1 = 2 by omega)]
      unfold vgo
      simp
    · rw [y, e, hc, if_neg (show ¬ q.1 = 2 by omega)]
      unfold vgo
      simp
theorem c_MO_readsField (Y : List kd) (d : Nat) {L : Nat → Nat} {n : Nat} {R : Nat ⊕ VT} {σ : sS} {i P : Nat} {q : Nat × Nat} {r : OP} (h : RG L n σ i i P (q :: r)) (h2 : q.1 = 2) (hs : SH L n R σ i P (q :: r)) (h41 : i < n → L i ≠ 41) (k : Int32 → sS → Prop)
    (h0 : ∀ p σ', vst L (n - i) i (hst (q :: r), false, mks (q :: r)) = some p → σ' 0 43 = nI p → mV σ σ' → k 0 σ')
    (h1 : ∀ i' P' o' σ', i < i' → RG L n σ' i' i' P' o' → SH L n R σ' i' P' o' → mV σ σ' → vst L (n - i) i (hst (q :: r), false, mks (q :: r)) = vst L (n - i') i' (hst o', false, mks o') → k 1 σ') :
    CJ Y (d + 4) y_MO_readsField [sR 0 (.inl 6)] σ (rI k) := by
  have hn96 := h.1.2.2.2.1
  have hin := h.1.2.2.2.2
  have h45 := h.2.2.2.2.1
  have hlen := h.2.2.2.2.2.1
  rw [List.length_cons] at h45 hlen
  have hlr : r.length < 100 := by omega
  have eh : hst (q :: r) = 2 := by
    show (if q.1 = 2 then 2 else _) = 2
    rw [if_pos h2]
  have hkb := h.2.2.2.2.2.2.2.1 q List.mem_cons_self
  refine s_MO_readsField_0 Y (d + 3) 0 σ (rI k) ?_
  refine c_MO_nameNow Y _ h.1 _ (fun hi hN => ?_) (fun hnn => ?_)
  · have hNb := isN_iff.mp hN
    have hdb : L i - 96 < 6 := by omega
    rw [up_self]
    refine ⟨fun _ => ?_, fun z => absurd z (nI_pos (by omega))⟩
    have w45 : (up (up σ 0 43 (nI (i + 1))) 0 46 (nI (L i - 96))) 0 45 = nI (r.length + 1) := by rw [up_other _ _ (Or.inr (by omega)), up_other _ _ (Or.inr (by omega))]; exact h45
    have c0 : ∀ (τ : sS) (j : Nat) (z : Int32), up τ 0 j z 32 = τ 32 := fun τ j z => up_cell _ _ (by omega)
    rw [w45, nI_pred]
    simp only [Nat.zero_add, cl_nI (show r.length < 2 ^ 31 by omega), c0, h.1.1]
    refine ⟨vinI hlr (by omega), ?_⟩
    have hgo : vgo (hst (q :: r), false, mks (q :: r)) (L i) = some (0, false, mks (q :: r)) := by
      rw [eh]
      unfold vgo
      simp [h41 hi, hN]
    have est : vst L (n - i) i (hst (q :: r), false, mks (q :: r)) = pst L n (i + 1) (mks (q :: r)) := by
      rw [vst_step hi hgo, pst_of0 (by omega)]
    -- the name is told, then the part
    have at48 : ∀ τ : sS, (∀ y, y ≠ 43 → y ≠ 44 → y ≠ 46 → τ 0 y = σ 0 y) → τ 0 43 = nI (i + 1) → τ 0 46 = nI (L i - 96) → (∀ c, c ≠ 0 → τ c = σ c) → (SB n R τ ∨ (τ 0 44 = -1 ∧ ∃ v s dg, (∀ m, n ≤ i + m → vbu L n m i v s dg = R) ∧ VI v s dg (hst (q :: r), false, mks (q :: r)) ∧ MT σ v s 0 ∧ q :: r = opOf v s ∧ P = v.1 ∧ ¬ dupQ v s (L i - 96))) → Jd Y (d + 4) y_MO_readsField 48 [(0, sR 0 (.inl 6))] [] τ (rI k) := by
      intro τ t0 t43 t46 tc tS
      refine s_MO_readsField_48 Y (d + 3) 0 τ (rI k) ?_
      rw [t0 45 (by omega) (by omega) (by omega), h45, nI_pred]
      simp only [Nat.zero_add, cl_nI (show r.length < 2 ^ 31 by omega), t46, tc 32 (by omega)]
      refine ⟨vinI hlr (by omega), vinI hlr (by omega), ?_⟩
      have u0 : ∀ (w : Int32) y, (up τ 32 r.length w) 0 y = τ 0 y := fun w y => by rw [up_cell _ _ (by omega)]
      have uc : ∀ (w : Int32) c, c ≠ 0 → c ≠ 32 → (up τ 32 r.length w) c = σ c := fun w c c1 c2 => by rw [up_cell _ _ c2, tc c c1]
      have gT : ∀ w, TP L n (up τ 32 r.length w) (i + 1) := fun w => h.1.kept (by rw [u0]; exact t43) hi (by rw [u0, t0 42 (by omega) (by omega) (by omega)]) (uc w 29 (by omega) (by omega))
      have gR : ∀ w, RG L n (up τ 32 r.length w) (i + 1) i P (q :: r) := fun w => by
        obtain ⟨a1, a2, a3, a4, a5, a6, a7, a8, a9⟩ := h
        exact ⟨gT w, by rw [u0, t0 6 (by omega) (by omega) (by omega)]; exact a2, a3, a4, by rw [u0, t0 45 (by omega) (by omega) (by omega)]; exact a5, a6, a7.kept (fun y _ => ⟨by rw [uc w 30 (by omega) (by omega)], by rw [uc w 31 (by omega) (by omega)], by rw [uc w 33 (by omega) (by omega)]⟩), a8, a9⟩
      have gM : ∀ w, mV σ (up τ 32 r.length w) := fun w => ⟨fun c c0 c2 c3 c4 c5 => uc w c c0 (by omega), fun y y1 y2 => by rw [u0, t0 y (by omega) (by omega) (by omega)]⟩
      refine c_MO_readsPart Y d (R := R) (gR _) (by omega) ?_ _ (fun hp => ⟨Or.inl rfl, ?_⟩) (fun i' P' o' σ' g1 g2 g3 g4 g5 => ⟨Or.inr rfl, ?_⟩)
      · rcases tS with z | ⟨t44, v, s, dg, s1, s2, s3, s4, s5, s6⟩
        · exact Or.inl (z.kept (by rw [u0]))
        · have hnm := s2.name (by rw [eh]) (show 1 ≤ L i - 96 ∧ L i - 96 ≤ 5 by omega) s6
          cases s with
          | nil => cases s4
          | cons q0 s0 =>
            have s4' : q = (v.2 0 q0, v.2 2 q0) ∧ r = opOf v s0 := by
              have : q :: r = (v.2 0 q0, v.2 2 q0) :: opOf v s0 := s4
              injection this with e1 e2
              exact ⟨e1, e2⟩
            obtain ⟨e1, e2⟩ := s4'
            have k2 : v.2 0 q0 = 2 := by rw [e1] at h2; exact h2
            obtain ⟨N, n1, n2, n3⟩ := s3.2.2.2.1.2 k2
            have el : r.length = s0.length := by rw [e2, opOf_len]
            rw [← el] at n2
            refine Or.inr ⟨v, q0 :: s0, L i - 96, L i - 96, (0, false, mks (q :: r)), fun m hm => ?_, by rw [u0]; exact t44, Or.inl rfl, hnm, ⟨by rw [u0, t0 6 (by omega) (by omega) (by omega)]; exact s3.1, fun p hp => by rw [uc _ 2 (by omega) (by omega), uc _ 3 (by omega) (by omega)]; exact s3.2.1 p hp, fun p j hp hp2 hj => by rw [uc _ 4 (by omega) (by omega)]; exact s3.2.2.1 p j hp hp2 hj, ⟨⟨by rw [uc _ 30 (by omega) (by omega)]; exact s3.2.2.2.1.1, fun _ => ⟨_, (bitsB N n1 (L i - 96) hdb).1, ?_, fun x x1 x5 => ?_⟩⟩, ?_⟩⟩, fun q' r' e _ => ⟨rfl, by rw [u0]; exact t46⟩, s4, s5⟩
            · have := s1 (m + 1) (by omega)
              rw [vbu_name hi hN, if_neg (by rw [pB_f s6]; decide)] at this
              exact this
            · rw [← el, up_self, n2]
              exact bitsA N n1 (L i - 96) hdb
            · rw [(bitsB N n1 (L i - 96) hdb).2 x (by omega), n3 x x1 x5]
              constructor
              · rintro ((z | z) | z)
                · exact Or.inl z
                · omega
                · exact Or.inr z
              · rintro (z | z)
                · exact Or.inl (Or.inl z)
                · exact Or.inr z
            · refine s3.2.2.2.2.low (fun y hy => ⟨by rw [uc _ 30 (by omega) (by omega)], ?_⟩)
              rw [up_other _ _ (Or.inr (by omega)), tc 32 (by omega)]
      · refine h0 (i + 1) _ (by rw [est, hp]) ?_ (gM _)
        rw [u0]; exact t43
      · refine h1 i' P' o' σ' (by omega) (g2.mono (by omega) (by have := g2.1.2.2.2.2; omega)) g3 ((gM _).trans g4) (by rw [est]; exact g5)
    have v0 : ∀ y, y ≠ 43 → y ≠ 44 → y ≠ 46 → (up (up σ 0 43 (nI (i + 1))) 0 46 (nI (L i - 96))) 0 y = σ 0 y := fun y y1 y2 y3 => by rw [up_other _ _ (Or.inr y3), up_other _ _ (Or.inr y1)]
    have v44 : (up (up σ 0 43 (nI (i + 1))) 0 46 (nI (L i - 96))) 0 44 = σ 0 44 := by rw [up_other _ _ (Or.inr (by omega)), up_other _ _ (Or.inr (by omega))]
    have v43 : (up (up σ 0 43 (nI (i + 1))) 0 46 (nI (L i - 96))) 0 43 = nI (i + 1) := by rw [up_other _ _ (Or.inr (by omega)), up_self]
    have vc : ∀ c, c ≠ 0 → (up (up σ 0 43 (nI (i + 1))) 0 46 (nI (L i - 96))) c = σ c := fun c hc => by rw [up_cell _ _ hc, up_cell _ _ hc]
    -- whether the name is there already
    have isdup : (SB n R σ) ∨ (∃ v s dg, (∀ m, n ≤ i + m → vbu L n m i v s dg = R) ∧ σ 0 44 = -1 ∧ VI v s dg (hst (q :: r), false, mks (q :: r)) ∧ MT σ v s 0 ∧ q :: r = opOf v s ∧ P = v.1 ∧ (iHas (σ 32 r.length) (nI (L i - 96)) = 0 ↔ ¬ dupQ v s (L i - 96))) := by
      rcases hs with z | ⟨v, s, dg, s1, s2, s3, s4, s5, s6⟩
      · exact Or.inl z
      · refine Or.inr ⟨v, s, dg, s1, s2, s3, s4, s5, s6, ?_⟩
        cases s with
        | nil => cases s5
        | cons q0 s0 =>
          have s4' : q = (v.2 0 q0, v.2 2 q0) ∧ r = opOf v s0 := by
            have : q :: r = (v.2 0 q0, v.2 2 q0) :: opOf v s0 := s5
            injection this with e1 e2
            exact ⟨e1, e2⟩
          obtain ⟨e1, e2⟩ := s4'
          have k2 : v.2 0 q0 = 2 := by rw [e1] at h2; exact h2
          obtain ⟨N, n1, n2, n3⟩ := s4.2.2.2.1.2 k2
          have el : r.length = s0.length := by rw [e2, opOf_len]
          rw [← el] at n2
          rw [n2, bitsC N n1 (L i - 96) hdb, n3 (L i - 96) (by omega) (by omega)]
          constructor
          · rintro z ⟨q', r', e, j, j1, j2⟩
            cases e
            exact z (Or.inl ⟨j, j1, j2⟩)
          · rintro z (⟨j, j1, j2⟩ | y)
            · exact z ⟨q0, s0, rfl, j, j1, j2⟩
            · omega
    refine ⟨fun hz => ?_, fun hz => ?_⟩
    · refine at48 _ v0 v43 (up_self _ _ _ _) vc ?_
      rcases isdup with z | ⟨v, s, dg, s1, s2, s3, s4, s5, s6, s7⟩
      · exact Or.inl (z.kept v44)
      · exact Or.inr ⟨by rw [v44]; exact s2, v, s, dg, s1, s3, s4, s5, s6, s7.mp hz⟩
    · refine c_MO_isBad Y _ i _ ?_
      refine at48 _ (fun y y1 y2 y3 => by rw [up_other _ _ (Or.inr y2)]; exact v0 y y1 y2 y3) (by rw [up_other _ _ (Or.inr (by omega))]; exact v43) (by rw [up_other _ _ (Or.inr (by omega)), up_self]) (fun c hc => by rw [up_cell _ _ hc]; exact vc c hc) ?_
      refine Or.inl ?_
      rcases isdup with ⟨p, p1, p2, p3⟩ | ⟨v, s, dg, s1, s2, s3, s4, s5, s6, s7⟩
      · refine ⟨p, p1, p2, ?_⟩
        rw [up_self, v44, if_neg (by rw [p3]; exact nI_pos (by omega))]
        exact p3
      · have hd : dupQ v s (L i - 96) := by
          by_cases y : dupQ v s (L i - 96)
          · exact y
          · exact absurd (s7.mpr y) hz
        refine ⟨i, hi, ?_, ?_⟩
        · rw [← s1 (n - i + 1) (by omega), vbu_name hi hN, if_pos (pB_t hd)]
        · rw [up_self, v44, s2, if_pos (by decide)]
  · rw [up_self]
    refine ⟨fun z => absurd (by decide) z, fun _ => ⟨Or.inl rfl, h0 i _ ?_ ?_ (mV.up0 σ (by omega) _)⟩⟩
    · refine vst_stop hin ?_ (fun hi => ?_)
      · show hst (q :: r) ≠ 1
        rw [eh]
        omega
      · rw [eh]
        unfold vgo
        simp [h41 hi, hnn hi]
    · rw [up_other _ _ (Or.inr (by omega))]; exact h.1.1
