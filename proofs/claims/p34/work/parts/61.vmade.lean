/-! the class's ValueReader: names, ends, the whole -/
theorem c_TR_childQ (Y : List kd) (d T : Nat) {σ : sS} {p K : Nat} {S D : Nat → Nat} (hp : p < 20) (hK : σ (T + 3) p = nI K) (hK2 : K < 2 ^ 30) (hc : ∀ j, j < K → ch S p j < 20 ∧ σ (T + 4) (ch S p j) = nI (D (ch S p j)) ∧ D (ch S p j) < 2 ^ 31 ∧ σ (T + 5) (ch S p j) = nI (S (ch S p j))) {dg : Nat} (hd : dg < 2 ^ 31) (k : Int32 → sS → Prop)
    (h1 : (∃ j, j < K ∧ D (ch S p j) = dg) → ∀ r, ¬ r < 0 → k r σ) (h0 : (¬ ∃ j, j < K ∧ D (ch S p j) = dg) → k (-1) σ) : CJ Y (d + 1) y_TR_child [sR T (.inl 3), sI (nI p), sI (nI dg)] σ (rI k) := by
  refine s_TR_child_0 Y d T (nI p) _ σ (rI k) ?_
  rw [rd_nI (by omega) (by omega), hK, nI_s1]
  have key : ∀ m i, i + m = K → (∀ j, j < i → D (ch S p j) ≠ dg) → Jd Y (d + 1) y_TR_child 17 [(0, sR T (.inl 3)), (2, sI (nI dg)), (3, sI (nI K)), (4, sI (nI (ch S p i))), (5, sI (nI i))] [] σ (rI k) := by
    intro m
    induction m with
    | zero =>
      intro i hi hn
      refine s_TR_child_17 Y d T _ _ _ (nI i) σ (rI k) ⟨fun _ => h0 (fun ⟨j, h3, h4⟩ => hn j (by omega) h4), fun hlt => ?_⟩
      rw [i32_lt (by omega) (by omega)] at hlt
      omega
    | succ m ih =>
      intro i hi hn
      obtain ⟨c1, c2, c3, c4⟩ := hc i (by omega)
      refine s_TR_child_17 Y d T _ _ _ (nI i) σ (rI k) ⟨fun hlt => ?_, fun _ => ?_⟩
      · rw [i32_lt (by omega) (by omega)] at hlt
        omega
      · rw [rd_nI c1 (by omega), rd_nI c1 (by omega), c2, c4, i32_eq c3 hd]
        refine ⟨fun hne => ?_, fun he => ?_⟩
        · rw [nI_s1, nI_add]
          refine ih (i + 1) (by omega) (fun j hj => ?_)
          by_cases e : j = i
          · subst e; exact hne
          · exact hn j (by omega)
        · exact h1 ⟨i, by omega, he⟩ _ (nI_pos (by omega))
  exact key K 0 (by omega) (fun j hj => absurd hj (Nat.not_lt_zero _))
/-- of what is open, all in it but the last one is whole -/
theorem WFQ.shut {v : VT} {q : Nat} {r : List Nat} (w : WFQ v (q :: r)) {j : Nat} (hj : j < v.2 2 q) : kch v q j ∉ q :: r := by
  intro h
  have hg := ch_gt (v.2 4) q j
  have hg : q < kch v q j := hg
  rcases List.mem_cons.mp h with e | e
  · omega
  · have := w.2.2.1.low _ e
    omega
theorem WFQ.kidsb {v : VT} {s : List Nat} (w : WFQ v s) {q : Nat} (hq : q < v.1) : v.2 2 q < 20 := by
  have h1 := w.2.1 q hq
  have h2 := ch_big w.2.1 hq (v.2 2 q) (Nat.le_refl _)
  have := w.1
  rw [h1.2.1] at h2
  omega
theorem c_VR_takes_part (Y : List kd) (d t : Nat) {σ : sS} {v : VT} {s : List Nat} {dg : Nat} (w : WFQ v s) (hs5 : s.length ≤ 5) (hx : XB σ t v s dg) {kd c : Nat} (hc : c = 63 ∧ kd = 1 ∨ c = 40 ∧ kd = 2 ∨ c = 91 ∧ kd = 3) (k : Int32 → sS → Prop)
    (h0 : ∀ σ', badQ v s → vK t σ σ' → k 0 σ')
    (h1 : ∀ σ', ¬ badQ v s → vK t σ σ' → XB σ' t (addV v s kd 0 (vdg v s dg)) (if 2 ≤ kd then v.1 :: s else s) (vdg v s dg) → k 1 σ') :
    CJ Y (d + 3) y_VR_takes [sR t (.inl 4), sI (nI c)] σ (rI k) := by
  have hb : c < 2 ^ 31 := by omega
  have add := fun (z : kd ≤ 3) => c_VR_adds Y d t w hs5 hx (x := 0) z (fun r σ' => (r = 0 ∨ r = 1) ∧ k r σ') (fun σ' a b => ⟨Or.inl rfl, h0 σ' a b⟩) (fun σ' a b c => ⟨Or.inr rfl, h1 σ' a b c⟩)
  refine s_VR_takes_0 Y (d + 2) t _ σ (rI k) ?_
  rw [z_eq hb 40 (by omega), z_eq hb 41 (by omega), z_eq hb 44 (by omega), z_eq hb 63 (by omega), z_eq hb 91 (by omega), z_eq hb 93 (by omega)]
  refine ⟨fun e => ?_, fun n40 => ⟨fun e => by omega, fun _ => ⟨fun e => by omega, fun _ => ⟨fun e => ?_, fun n63 => ⟨fun e => ?_, fun n91 => by omega⟩⟩⟩⟩⟩
  · have ek : kd = 2 := by omega
    subst ek
    exact add (by omega)
  · have ek : kd = 1 := by omega
    subst ek
    exact add (by omega)
  · have ek : kd = 3 := by omega
    subst ek
    exact add (by omega)
theorem c_VR_takes_close (Y : List kd) (d t : Nat) {σ : sS} {v : VT} {q : Nat} {s : List Nat} {dg : Nat} (w : WFQ v (q :: s)) (hs5 : (q :: s).length ≤ 5) (hx : XB σ t v (q :: s) dg) {c : Nat} (hc : c = 41 ∨ c = 93) (k : Int32 → sS → Prop)
    (h1 : ∀ σ', vK t σ σ' → XB σ' t v s dg → k 1 σ') :
    CJ Y (d + 2) y_VR_takes [sR t (.inl 4), sI (nI c)] σ (rI k) := by
  have hb : c < 2 ^ 31 := by omega
  have hm := w.2.2.1.mem q List.mem_cons_self
  have h20 := w.1
  obtain ⟨x1, x2, x3, x4, x5⟩ := id hx
  have go : CJ Y (d + 1) y_RD_top [sR t (.inl 4)] σ (rI fun r8 σ8 => CJ Y (d + 1) y_RD_top [sR t (.inl 4)] σ8 (rI fun r9 σ9 => CJ Y (d + 1) y_RD_pop [sR t (.inl 4)] (wr σ9 (t + 7) 20 r8 ((σ8 (t + 2) 6) - r9)) (rN fun σ10 => (((1 : Int32) = 0 ∨ (1 : Int32) = 1) ∧ (rI k) (some (sI 1)) σ10)))) := by
    refine c_RD_topV Y d t x1 x2 (by omega) _ ?_
    refine c_RD_topV Y d t x1 x2 (by omega) _ ?_
    show CJ Y (d + 1) y_RD_pop [sR t (.inl 4)] (wr σ (t + 7) 20 (nI q) ((σ (t + 2) 6) - nI q)) _
    rw [x4, wr_nI (by omega) (by omega), nI_subm (by omega)]
    have y1 : (up σ (t + 7) q (nI (v.1 - q))) t 1 = nI (q :: s).length := by rw [up_cell _ _ (by omega)]; exact x1
    refine c_RD_popV Y _ t y1 (by omega) _ (fun σ' p1 p2 p3 => ⟨Or.inr rfl, ?_⟩)
    have p1 : σ' t 1 = nI s.length := p1
    refine h1 σ' (fun y hy => by rw [p2 y (by omega), up_cell _ _ (by omega)]) ⟨p1, ?_, ?_, ?_, fun p hp => ?_⟩
    · exact x2.2.kept (fun i _ => by rw [p2 (t + 1) (by omega), up_cell _ _ (by omega)])
    · rw [p3 5 (by omega), up_cell _ _ (by omega)]; exact x3
    · rw [p2 (t + 2) (by omega), up_cell _ _ (by omega)]; exact x4
    · obtain ⟨r1, r2, r3, r4, r5⟩ := x5 p hp
      rw [p2 (t + 3) (by omega), p2 (t + 4) (by omega), p2 (t + 5) (by omega), p2 (t + 6) (by omega), p2 (t + 7) (by omega), up_cell _ _ (show t + 3 ≠ t + 7 by omega), up_cell _ _ (show t + 4 ≠ t + 7 by omega), up_cell _ _ (show t + 5 ≠ t + 7 by omega), up_cell _ _ (show t + 6 ≠ t + 7 by omega)]
      refine ⟨r1, r2, r3, r4, fun hns => ?_⟩
      by_cases e : p = q
      · subst e
        rw [up_self]
        congr 1
        omega
      · rw [up_other _ _ (Or.inr e)]
        exact r5 (fun z => by
          rcases List.mem_cons.mp z with z | z
          · exact e z
          · exact hns z)
  refine s_VR_takes_0 Y (d + 1) t _ σ (rI k) ?_
  rw [z_eq hb 40 (by omega), z_eq hb 41 (by omega), z_eq hb 44 (by omega), z_eq hb 63 (by omega), z_eq hb 91 (by omega), z_eq hb 93 (by omega)]
  exact ⟨fun e => by omega, fun _ => ⟨fun _ => go, fun n41 => ⟨fun e => by omega, fun _ => ⟨fun e => by omega, fun _ => ⟨fun e => by omega, fun _ => ⟨fun _ => go, fun n93 => by omega⟩⟩⟩⟩⟩⟩
theorem c_VR_takes_comma (Y : List kd) (d t : Nat) {σ : sS} (k : Int32 → sS → Prop) (h1 : k 1 σ) : CJ Y (d + 1) y_VR_takes [sR t (.inl 4), sI (nI 44)] σ (rI k) := by
  have hb : (44 : Nat) < 2 ^ 31 := by omega
  refine s_VR_takes_0 Y d t _ σ (rI k) ?_
  rw [z_eq hb 40 (by omega), z_eq hb 41 (by omega), z_eq hb 44 (by omega), z_eq hb 63 (by omega), z_eq hb 91 (by omega), z_eq hb 93 (by omega)]
  exact ⟨fun e => by omega, fun _ => ⟨fun e => by omega, fun _ => ⟨fun _ => ⟨Or.inr rfl, h1⟩, fun e => absurd rfl e⟩⟩⟩
theorem c_VR_takes_name (Y : List kd) (d t : Nat) {σ : sS} {v : VT} {q : Nat} {s : List Nat} {dg : Nat} (w : WFQ v (q :: s)) (h2 : v.2 0 q = 2) (hs5 : (q :: s).length ≤ 5) (hx : XB σ t v (q :: s) dg) {c : Nat} (hc : isN c = true) (k : Int32 → sS → Prop)
    (h0 : ∀ σ', dupQ v (q :: s) (c - 96) → vK t σ σ' → k 0 σ')
    (h1 : ∀ σ', ¬ dupQ v (q :: s) (c - 96) → vK t σ σ' → XB σ' t v (q :: s) (c - 96) → k 1 σ') :
    CJ Y (d + 2) y_VR_takes [sR t (.inl 4), sI (nI c)] σ (rI k) := by
  have hcb := isN_iff.mp hc
  have hb : c < 2 ^ 31 := by omega
  have hm := w.2.2.1.mem q List.mem_cons_self
  have h20 := w.1
  have hkb := w.kidsb hm.1
  obtain ⟨x1, x2, x3, x4, x5⟩ := id hx
  refine s_VR_takes_0 Y (d + 1) t _ σ (rI k) ?_
  rw [z_eq hb 40 (by omega), z_eq hb 41 (by omega), z_eq hb 44 (by omega), z_eq hb 63 (by omega), z_eq hb 91 (by omega), z_eq hb 93 (by omega)]
  refine ⟨fun e => by omega, fun _ => ⟨fun e => by omega, fun _ => ⟨fun e => by omega, fun _ => ⟨fun e => by omega, fun _ => ⟨fun e => by omega, fun _ => ⟨fun e => by omega, fun _ => ?_⟩⟩⟩⟩⟩⟩
  have e1 : nI c - 97 + 1 = nI (c - 96) := by
    rw [lit 97, nI_subm (by omega), nI_s1]
    congr 1
    omega
  rw [e1]
  have y1 : (up σ t 5 (nI (c - 96))) t 1 = nI (q :: s).length := by rw [up_other _ _ (Or.inr (by omega))]; exact x1
  have y2 : stk (up σ t 5 (nI (c - 96))) (t + 1) (q :: s) := x2.kept (fun i _ => by rw [up_cell _ _ (by omega)])
  have yK : vK t σ (up σ t 5 (nI (c - 96))) := fun x hx => up_cell _ _ (by omega)
  refine c_RD_topV Y d t y1 y2 (by omega) _ ?_
  show CJ Y (d + 1) y_TR_child [sR (t + 2) (.inl 3), sI (nI q), sI ((up σ t 5 (nI (c - 96))) t 5)] (up σ t 5 (nI (c - 96))) _
  rw [up_self]
  obtain ⟨r1, r2, r3, r4, r5⟩ := x5 q hm.1
  refine c_TR_childQ Y d (t + 2) (K := v.2 2 q) (S := v.2 4) (D := v.2 3) (by omega) ?_ (by omega) (fun j hj => ?_) (by omega) _ (fun hd r hr => ⟨fun _ => ⟨Or.inl rfl, ?_⟩, fun h => absurd h hr⟩) (fun hd => ⟨fun h => absurd (by decide) h, fun _ => ⟨Or.inr rfl, ?_⟩⟩)
  · rw [up_cell _ _ (by omega)]; exact r3
  · have hcl : kch v q j < v.1 := ch_part w.2.1 hm.1 hj
    have hcl2 : ch (v.2 4) q j < v.1 := hcl
    obtain ⟨c1, c2, c3, c4, c5⟩ := x5 _ hcl
    have c6 := c5 (w.shut hj)
    rw [up_cell _ _ (by omega), up_cell _ _ (by omega)]
    have := ((w.2.2.2.2 q hm.1).2.2.2.2.2.2 j hj).1 h2
    exact ⟨by omega, c4, Nat.lt_of_le_of_lt this.2.1 (by omega), c6⟩
  · obtain ⟨j, hj, he⟩ := hd
    exact h0 _ ⟨q, s, rfl, j, hj, he⟩ yK
  · refine h1 _ (fun ⟨q', s', e, j, hj, he⟩ => by cases e; exact hd ⟨j, hj, he⟩) yK ⟨y1, y2, up_self _ _ _ _, ?_, fun p hp => ?_⟩
    · rw [up_cell _ _ (by omega)]; exact x4
    · rw [up_cell _ _ (show t + 3 ≠ t by omega), up_cell _ _ (show t + 4 ≠ t by omega), up_cell _ _ (show t + 5 ≠ t by omega), up_cell _ _ (show t + 6 ≠ t by omega), up_cell _ _ (show t + 7 ≠ t by omega)]
      exact x5 p hp
/-- how long the open ones can be -/
theorem VI.len5 {v : VT} {s : List Nat} {dg : Nat} {a : VA} (h : VI v s dg a) : s.length ≤ 5 := by
  cases s with
  | nil => exact Nat.zero_le _
  | cons q r =>
    have := h.1.2.2.1.lev
    have h2 := (h.1.2.2.2.2 q (h.1.2.2.1.mem q List.mem_cons_self).1).2.2.2.2.2.1
    rw [List.length_cons]
    omega
theorem c_VR_build (Y : List kd) (d t a n : Nat) (L : Nat → Nat) (hn : n ≤ 96) (hta : a < t ∨ t + 9 ≤ a) {σ : sS} (hL : ∀ i, i < n → σ a i = nI (L i) ∧ L i < 256) (h1 : σ t 1 = 0) (hok : vst L n 0 (0, false, []) = none) (k : Int32 → sS → Prop)
    (hk0 : ∀ p σ', p < n → vbu L n n 0 (0, fun _ _ => 0) [] 0 = .inl p → vK t σ σ' → k (nI p) σ')
    (hk1 : ∀ v σ', vbu L n n 0 (0, fun _ _ => 0) [] 0 = .inr v → WFP v → XV σ' (t + 2) (lnk v) → vK t σ σ' → k (-1) σ') :
    CJ Y (d + 4) y_VR_build [sR t (.inl 4), sR a (.inr 96), sI (nI n)] σ (rI k) := by
  have key : ∀ m i v s dg (b : VA) (τ : sS), n ≤ i + m → i ≤ n → VI v s dg b → XB τ t v s dg → vK t σ τ → vst L (n - i) i b = none → (b.2.1 = true → i < n → isD (L i) = false) →
      (∀ p σ', p < n → vbu L n m i v s dg = .inl p → vK t σ σ' → k (nI p) σ') → (∀ v' σ', vbu L n m i v s dg = .inr v' → WFP v' → XV σ' (t + 2) (lnk v') → vK t σ σ' → k (-1) σ') →
      Jd Y (d + 4) y_VR_build 15 [(0, sR t (.inl 4)), (1, sR a (.inr 96)), (2, sI (nI n)), (3, sI (nI i))] [] τ (rI k) := by
    intro m
    induction m with
    | zero =>
      intro i v s dg b τ hm hin hI hX hK hst hlo q0 q1
      have ei : i = n := by omega
      subst ei
      refine s_VR_build_15 Y (d + 3) t a _ _ τ (rI k) ⟨fun _ => ?_, fun hlt => ?_⟩
      · rw [Nat.sub_self] at hst
        unfold vst at hst
        have hb1 : b.1 = 1 := by
          by_cases z : b.1 = 1
          · exact z
          · rw [if_neg z] at hst; cases hst
        have hs0 : s = [] := hI.2.2.2.2.2.2.2.2.2 hb1
        have hv1 : 1 ≤ v.1 := by
          rcases Nat.eq_zero_or_pos v.1 with z | z
          · have := (hI.2.2.2.2.1 z).2.2
            omega
          · exact z
        have wp := hI.1.whole hv1
        obtain ⟨x1, x2, x3, x4, x5⟩ := hX
        subst hs0
        refine c_TR_link Y (d + 2) (t + 2) wp.lnk (σ := τ) ⟨x4, fun f hf f3 f5 p hp => ?_, fun p j hp h2 hj => ?_, ?_⟩ _ (fun σ' g1 g2 => ?_)
        · obtain ⟨r1, r2, r3, r4, r5⟩ := x5 p hp
          rcases (show f = 0 ∨ f = 1 ∨ f = 2 ∨ f = 4 by omega) with rfl | rfl | rfl | rfl
          · exact r1
          · exact r2
          · exact r3
          · exact r5 List.not_mem_nil
        · have hcl : kch v p j < v.1 := ch_part wp.2.2.1 hp hj
          show τ (t + 6) (kch v p j) = nI (lkD v (kch v p j))
          rw [lkD_rec wp hp hj h2]
          exact (x5 _ hcl).2.2.2.1
        · have := (x5 0 hv1).2.2.2.1
          rw [(hI.1.2.2.2.1 hv1).2.2] at this
          exact this
        · refine q1 v σ' rfl wp g1 (fun y hy => by rw [g2 y (by omega) (by omega), hK y hy])
      · rw [i32_lt (by omega) (by omega)] at hlt
        omega
    | succ m ih =>
      intro i v s dg b τ hm hin hI hX hK hst hlo q0 q1
      by_cases hi : i = n
      · -- the end
        have hge : n ≤ i := by omega
        have e : vbu L n (m + 1) i v s dg = vbu L n 0 i v s dg := vbu_any L n _ _ i v s dg (by omega) (by omega)
        rw [e] at q0 q1
        subst hi
        refine s_VR_build_15 Y (d + 3) t a _ _ τ (rI k) ⟨fun _ => ?_, fun hlt => ?_⟩
        · rw [Nat.sub_self] at hst
          unfold vst at hst
          have hb1 : b.1 = 1 := by
            by_cases z : b.1 = 1
            · exact z
            · rw [if_neg z] at hst; cases hst
          have hs0 : s = [] := hI.2.2.2.2.2.2.2.2.2 hb1
          have hv1 : 1 ≤ v.1 := by
            rcases Nat.eq_zero_or_pos v.1 with z | z
            · have := (hI.2.2.2.2.1 z).2.2
              omega
            · exact z
          have wp := hI.1.whole hv1
          obtain ⟨x1, x2, x3, x4, x5⟩ := hX
          subst hs0
          refine c_TR_link Y (d + 2) (t + 2) wp.lnk (σ := τ) ⟨x4, fun f hf f3 f5 p hp => ?_, fun p j hp h2 hj => ?_, ?_⟩ _ (fun σ' g1 g2 => ?_)
          · obtain ⟨r1, r2, r3, r4, r5⟩ := x5 p hp
            rcases (show f = 0 ∨ f = 1 ∨ f = 2 ∨ f = 4 by omega) with rfl | rfl | rfl | rfl
            · exact r1
            · exact r2
            · exact r3
            · exact r5 List.not_mem_nil
          · have hcl : kch v p j < v.1 := ch_part wp.2.2.1 hp hj
            show τ (t + 6) (kch v p j) = nI (lkD v (kch v p j))
            rw [lkD_rec wp hp hj h2]
            exact (x5 _ hcl).2.2.2.1
          · have := (x5 0 hv1).2.2.2.1
            rw [(hI.1.2.2.2.1 hv1).2.2] at this
            exact this
          · refine q1 v σ' rfl wp g1 (fun y hy => by rw [g2 y (by omega) (by omega), hK y hy])
        · rw [i32_lt (by omega) (by omega)] at hlt
          omega
      · have hlt : i < n := by omega
        obtain ⟨l1, l2⟩ := hL i hlt
        have l1' : τ a i = nI (L i) := by rw [hK a hta]; exact l1
        have h5 := hI.len5
        have hst2 : ∃ b2, vgo b (L i) = some b2 ∧ vst L (n - (i + 1)) (i + 1) b2 = none := by
          have e : n - i = (n - (i + 1)) + 1 := by omega
          rw [e] at hst
          unfold vst at hst
          cases z : vgo b (L i) with
          | none => rw [z] at hst; cases hst
          | some b2 => rw [z] at hst; exact ⟨b2, rfl, hst⟩
        obtain ⟨b2, hg, hst2⟩ := hst2
        have hlo2 : (b.2.1 && isD (L i)) = false := by
          cases z : b.2.1 with
          | false => rfl
          | true => rw [hlo z hlt]; rfl
        unfold vbu at q0 q1
        rw [if_neg (by omega)] at q0 q1
        refine s_VR_build_15 Y (d + 3) t a _ _ τ (rI k) ⟨fun h => ?_, fun _ => ?_⟩
        · rw [i32_lt (by omega) (by omega)] at h
          omega
        rw [rd_nI (by omega) (by omega), l1', iDig_nI l2]
        -- behind what was taken
        have fin : ∀ (τ' : sS) (v' : VT) (s' : List Nat) (dg' : Nat) (b' : VA), VI v' s' dg' b' → XB τ' t v' s' dg' → vK t σ τ' → vst L (n - (i + 1)) (i + 1) b' = none → (b'.2.1 = true → i + 1 < n → isD (L (i + 1)) = false) →
            (∀ p σ', p < n → vbu L n m (i + 1) v' s' dg' = .inl p → vK t σ σ' → k (nI p) σ') → (∀ v'' σ', vbu L n m (i + 1) v' s' dg' = .inr v'' → WFP v'' → XV σ' (t + 2) (lnk v'') → vK t σ σ' → k (-1) σ') →
            Jd Y (d + 4) y_VR_build 112 [(0, sR t (.inl 4)), (1, sR a (.inr 96)), (2, sI (nI n)), (3, sI (nI i)), (4, sI (nI i)), (6, sI 1)] [] τ' (rI k) := by
          intro τ' v' s' dg' b' i1 i2 i3 i4 i5 i6 i7
          refine s_VR_build_112 Y (d + 3) t a _ _ _ _ τ' (rI k) ⟨fun _ => ?_, fun h => absurd h (by decide)⟩
          rw [nI_s1]
          exact ih (i + 1) v' s' dg' b' τ' (by omega) (by omega) i1 i2 i3 i4 i5 i6 i7
        have bad : ∀ (j : Nat) (τ' : sS), vK t σ τ' → (∀ σ', vK t σ σ' → k (nI i) σ') → Jd Y (d + 4) y_VR_build 112 [(0, sR t (.inl 4)), (1, sR a (.inr 96)), (2, sI (nI n)), (3, sI (nI j)), (4, sI (nI i)), (6, sI 0)] [] τ' (rI k) := by
          intro j τ' i1 i2
          exact s_VR_build_112 Y (d + 3) t a _ _ _ _ τ' (rI k) ⟨fun h => absurd rfl h, fun _ => i2 τ' i1⟩
        by_cases hD : isD (L i) = true
        · rw [if_pos hD] at q0 q1
          rw [if_pos hD]
          have hDb := isD_iff.mp hD
          obtain ⟨ha, hv⟩ := vgo_begin hg hlo2 (Or.inl hD)
          have eb : b2 = (vend b.2.2, true, b.2.2) := by
            unfold vbeg at hv
            rw [if_neg (by omega), if_neg (by omega), if_pos hD] at hv
            cases hv
            rfl
          refine ⟨fun h => absurd h (by decide), fun _ => ?_⟩
          have e48 : nI (L i) - 48 = nI (L i - 48) := nI_subm (a := L i) (b := 48) (by omega)
          -- one digit
          have one : ¬ (i + 1 < n ∧ isD (L (i + 1)) = true) → Jd Y (d + 4) y_VR_build 92 [(0, sR t (.inl 4)), (1, sR a (.inr 96)), (2, sI (nI n)), (3, sI (nI i)), (4, sI (nI i)), (7, sI (nI (L i - 48)))] [] τ (rI k) := by
            intro h1d
            have eN : numP L n i = (L i - 48, i + 1) := by unfold numP; rw [if_neg h1d]
            rw [eN] at q0 q1
            refine s_VR_build_92 Y (d + 3) t a _ _ _ _ τ (rI k) ?_
            refine c_VR_adds Y (d + 1) t hI.1 h5 hX (kd := 0) (by omega) _ (fun τ' hb g => ?_) (fun τ' hb g gx => ?_)
            · exact bad i τ' (fun y hy => by rw [g y hy, hK y hy]) (fun σ' hs => q0 i σ' hlt (by rw [if_pos (pB_t hb)]) hs)
            · rw [if_neg (by omega)] at gx
              rw [if_neg (by rw [pB_f hb]; decide)] at q0 q1
              refine fin τ' _ s _ b2 ?_ gx (fun y hy => by rw [g y hy, hK y hy]) hst2 (fun _ z => ?_) q0 q1
              · rw [eb]; exact hI.leaf ha hb (by omega) (fun _ => by omega) (fun z => absurd rfl z) true
              · cases y : isD (L (i + 1)) with
                | false => rfl
                | true => exact absurd ⟨z, y⟩ h1d
          refine ⟨fun hge => ?_, fun hlt1 => ?_⟩
          · rw [nI_s1, i32_lt (by omega) (by omega)] at hge
            refine s_VR_build_66 Y (d + 3) t a _ _ _ _ _ τ (rI k) ⟨fun _ => ?_, fun h => absurd (by decide) h⟩
            rw [e48]
            exact one (fun z => hge z.1)
          · rw [nI_s1, i32_lt (by omega) (by omega)] at hlt1
            obtain ⟨l3, l4⟩ := hL (i + 1) hlt1
            have l3' : τ a (i + 1) = nI (L (i + 1)) := by rw [hK a hta]; exact l3
            rw [nI_s1, rd_nI (by omega) (by omega), l3', e48]
            refine s_VR_build_66 Y (d + 3) t a _ _ _ _ _ τ (rI k) ⟨fun h => ?_, fun h => ?_⟩
            · rw [iDig_nI l4] at h
              refine one (fun z => ?_)
              rw [if_pos z.2] at h
              exact absurd h (by decide)
            · rw [iDig_nI l4] at h
              have hD2 : isD (L (i + 1)) = true := by
                cases z : isD (L (i + 1)) with
                | true => rfl
                | false => rw [z] at h; exact absurd rfl h
              have hD2b := isD_iff.mp hD2
              have eN : numP L n i = (10 * (L i - 48) + (L (i + 1) - 48), i + 2) := by unfold numP; rw [if_pos ⟨hlt1, hD2⟩]
              rw [eN] at q0 q1
              have ev : 10 * nI (L i - 48) + nI (L (i + 1)) - 48 = nI (10 * (L i - 48) + (L (i + 1) - 48)) := by
                rw [lit 10, pk_mul, nI_add, lit 48, nI_subm (by omega)]
                congr 1
                omega
              rw [ev, nI_s1]
              have hst3 : vst L (n - (i + 2)) (i + 2) (vend b.2.2, false, b.2.2) = none := by
                have e : n - (i + 1) = (n - (i + 2)) + 1 := by omega
                rw [e, eb] at hst2
                unfold vst at hst2
                have e2 : vgo (vend b.2.2, true, b.2.2) (L (i + 1)) = some (vend b.2.2, false, b.2.2) := by
                  unfold vgo
                  rw [if_pos (by show (true && isD (L (i + 1))) = true; rw [hD2]; rfl)]
                rw [e2] at hst2
                exact hst2
              refine s_VR_build_92 Y (d + 3) t a _ _ _ _ τ (rI k) ?_
              refine c_VR_adds Y (d + 1) t hI.1 h5 hX (kd := 0) (by omega) _ (fun τ' hb g => ?_) (fun τ' hb g gx => ?_)
              · exact bad (i + 1) τ' (fun y hy => by rw [g y hy, hK y hy]) (fun σ' hs => q0 i σ' hlt (by rw [if_pos (pB_t hb)]) hs)
              · rw [if_neg (by omega)] at gx
                rw [if_neg (by rw [pB_f hb]; decide)] at q0 q1
                refine s_VR_build_112 Y (d + 3) t a _ _ _ _ τ' (rI k) ⟨fun _ => ?_, fun h => absurd h (by decide)⟩
                rw [nI_s1]
                refine ih (i + 2) _ s _ (vend b.2.2, false, b.2.2) τ' (by omega) (by omega) ?_ gx (fun y hy => by rw [g y hy, hK y hy]) hst3 (fun z => by cases z) q0 q1
                exact hI.leaf ha hb (by omega) (fun _ => by omega) (fun z => absurd rfl z) false
        · rw [if_neg hD] at q0 q1
          rw [if_neg hD]
          refine ⟨fun _ => ?_, fun h => absurd rfl h⟩
          -- a part that is no number
          have part : ∀ kd, (L i = 63 ∧ kd = 1 ∨ L i = 40 ∧ kd = 2 ∨ L i = 91 ∧ kd = 3) → (pB (badQ v s) = true → ∀ σ', vK t σ σ' → k (nI i) σ') → (¬ badQ v s → (∀ p σ', p < n → vbu L n m (i + 1) (addV v s kd 0 (vdg v s dg)) (if 2 ≤ kd then v.1 :: s else s) (vdg v s dg) = .inl p → vK t σ σ' → k (nI p) σ') ∧ (∀ v'' σ', vbu L n m (i + 1) (addV v s kd 0 (vdg v s dg)) (if 2 ≤ kd then v.1 :: s else s) (vdg v s dg) = .inr v'' → WFP v'' → XV σ' (t + 2) (lnk v'') → vK t σ σ' → k (-1) σ')) → CJ Y (d + 3) y_VR_takes [sR t (.inl 4), sI (nI (L i))] τ (rI fun r2 σ2 => Jd Y (d + 4) y_VR_build 112 [(0, sR t (.inl 4)), (1, sR a (.inr 96)), (2, sI (nI n)), (3, sI (nI i)), (4, sI (nI i)), (6, sI r2)] [] σ2 (rI k)) := by
            intro kd hcc hb0 hb1
            have hbg := vgo_begin hg hlo2 (by omega)
            have hv := hbg.2
            refine c_VR_takes_part Y d t hI.1 h5 hX hcc _ (fun τ' hb g => ?_) (fun τ' hb g gx => ?_)
            · exact bad i τ' (fun y hy => by rw [g y hy, hK y hy]) (hb0 (pB_t hb))
            · obtain ⟨z0, z1⟩ := hb1 hb
              refine fin τ' _ _ _ b2 ?_ gx (fun y hy => by rw [g y hy, hK y hy]) hst2 ?_ z0 z1
              · unfold vbeg at hv
                rcases hcc with ⟨c1, c2⟩ | ⟨c1, c2⟩ | ⟨c1, c2⟩
                · rw [if_neg (by omega), if_neg (by omega), if_neg hD, if_pos c1] at hv
                  cases hv
                  subst c2
                  rw [if_neg (by omega)]
                  exact hI.leaf hbg.1 hb (by omega) (fun z => by omega) (fun _ => rfl) false
                · rw [if_pos c1] at hv
                  cases hv
                  subst c2
                  rw [if_pos (by omega)]
                  exact hI.open_ hbg.1 hb (Or.inl rfl)
                · rw [if_neg (by omega), if_pos c1] at hv
                  cases hv
                  subst c2
                  rw [if_pos (by omega)]
                  exact hI.open_ hbg.1 hb (Or.inr rfl)
              · unfold vbeg at hv
                rcases hcc with ⟨c1, c2⟩ | ⟨c1, c2⟩ | ⟨c1, c2⟩
                · rw [if_neg (by omega), if_neg (by omega), if_neg hD, if_pos c1] at hv
                  cases hv
                  exact fun z => by cases z
                · rw [if_pos c1] at hv
                  cases hv
                  exact fun z => by cases z
                · rw [if_neg (by omega), if_pos c1] at hv
                  cases hv
                  exact fun z => by cases z
          by_cases h63 : L i = 63
          · rw [if_pos h63] at q0 q1
            refine part 1 (Or.inl ⟨h63, rfl⟩) (fun hb σ' hs => q0 i σ' hlt (by rw [if_pos hb]) hs) (fun hb => ?_)
            rw [if_neg (by rw [pB_f hb]; decide)] at q0 q1
            exact ⟨q0, q1⟩
          · rw [if_neg h63] at q0 q1
            by_cases h40 : L i = 40
            · rw [if_pos h40] at q0 q1
              refine part 2 (Or.inr (Or.inl ⟨h40, rfl⟩)) (fun hb σ' hs => q0 i σ' hlt (by rw [if_pos hb]) hs) (fun hb => ?_)
              rw [if_neg (by rw [pB_f hb]; decide)] at q0 q1
              exact ⟨q0, q1⟩
            · rw [if_neg h40] at q0 q1
              by_cases h91 : L i = 91
              · rw [if_pos h91] at q0 q1
                refine part 3 (Or.inr (Or.inr ⟨h91, rfl⟩)) (fun hb σ' hs => q0 i σ' hlt (by rw [if_pos hb]) hs) (fun hb => ?_)
                rw [if_neg (by rw [pB_f hb]; decide)] at q0 q1
                exact ⟨q0, q1⟩
              · rw [if_neg h91] at q0 q1
                rcases vgo_other hg (by rintro (z | z | z | z) <;> contradiction) with ⟨hcl, eb⟩ | ⟨h44, h4, eb⟩ | ⟨hN, h2, eb⟩
                · have hc2 : L i = 41 ∨ L i = 93 := by
                    rcases hcl with z | z
                    · exact Or.inl z.1
                    · exact Or.inr z.1
                  have ha : b.1 = 2 ∨ b.1 = 3 ∨ b.1 = 4 := by
                    rcases hcl with z | z
                    · exact Or.inl z.2
                    · exact Or.inr z.2
                  rw [if_pos hc2] at q0 q1
                  have hne : ∃ q r, s = q :: r := by
                    rcases ha with z | z | z
                    · obtain ⟨q, r, e, -⟩ := hI.2.2.2.2.2.2.1 z; exact ⟨q, r, e⟩
                    · obtain ⟨q, r, e, -⟩ := hI.2.2.2.2.2.2.2.1 z; exact ⟨q, r, e⟩
                    · obtain ⟨q, r, e, -⟩ := hI.2.2.2.2.2.2.2.2.1 z; exact ⟨q, r, e⟩
                  obtain ⟨q, r, e⟩ := hne
                  subst e
                  refine c_VR_takes_close Y (d + 1) t hI.1 h5 hX hc2 _ (fun τ' g gx => ?_)
                  refine fin τ' v r dg b2 ?_ gx (fun y hy => by rw [g y hy, hK y hy]) hst2 (fun z => by rw [eb] at z; cases z) q0 q1
                  rw [eb]
                  exact hI.close ha
                · rw [if_neg (by omega), if_pos h44] at q0 q1
                  rw [h44]
                  refine c_VR_takes_comma Y (d + 2) t _ ?_
                  refine fin τ v s dg b2 ?_ hX hK hst2 (fun z => by rw [eb] at z; cases z) q0 q1
                  rw [eb]
                  exact hI.comma h4
                · have hNb := isN_iff.mp hN
                  rw [if_neg (by omega), if_neg (by omega)] at q0 q1
                  obtain ⟨q, r, e, e2⟩ := hI.2.2.2.2.2.2.1 h2
                  subst e
                  refine c_VR_takes_name Y (d + 1) t hI.1 e2 h5 hX hN _ (fun τ' hd g => ?_) (fun τ' hd g gx => ?_)
                  · exact bad i τ' (fun y hy => by rw [g y hy, hK y hy]) (fun σ' hs => q0 i σ' hlt (by rw [if_pos (pB_t hd)]) hs)
                  · rw [if_neg (by rw [pB_f hd]; decide)] at q0 q1
                    refine fin τ' v (q :: r) (L i - 96) b2 ?_ gx (fun y hy => by rw [g y hy, hK y hy]) hst2 (fun z => by rw [eb] at z; cases z) q0 q1
                    rw [eb]
                    exact hI.name h2 (by omega) hd
  refine s_VR_build_0 Y (d + 3) t a _ σ (rI k) ?_
  refine key n 0 _ [] 0 (0, false, []) _ (by omega) (Nat.zero_le _) VI.start ⟨?_, True.intro, up_self _ _ _ _, ?_, fun p hp => absurd hp (Nat.not_lt_zero _)⟩ (fun y hy => by rw [up_cell _ _ (by omega), up_cell _ _ (by omega)]) (by rw [Nat.sub_zero]; exact hok) (fun z => by cases z) hk0 hk1
  · rw [up_other _ _ (Or.inr (by omega)), up_cell _ _ (by omega)]; exact h1
  · rw [up_cell _ _ (by omega), up_self]; rfl
