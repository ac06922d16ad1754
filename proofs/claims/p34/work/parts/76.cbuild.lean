/-! checks told in letters: the class's CheckReader takes and builds -/
theorem nI_2 (a : Nat) : nI a + 2 = nI (a + 2) := nI_add a 2
theorem nI_3 (a : Nat) : nI a + 3 = nI (a + 3) := nI_add a 3
theorem c_CR_two (Y : List kd) (d a i : Nat) (hi : i + 1 < 96) {τ : sS} {x y : Nat} (hx : τ a i = nI x) (hy : τ a (i + 1) = nI y) (dx : isD x = true) (dy : isD y = true) (k : Int32 → sS → Prop) (hk : k (nI (10 * (x - 48) + (y - 48))) τ) : CJ Y (d + 1) y_CR_two [sR a (.inr 96), sI (nI i)] τ (rI k) := by
  have bx := isD_iff.mp dx
  have by' := isD_iff.mp dy
  refine s_CR_two_0 Y d a _ τ (rI k) ?_
  have e : 10 * (nI x - 48) + nI y - 48 = nI (10 * (x - 48) + (y - 48)) := by
    rw [show nI x - 48 = nI (x - 48) from nI_subm (a := x) (b := 48) (by omega), lit 10, pk_mul, nI_add, lit 48, nI_subm (by omega)]
    congr 1
    omega
  rw [nI_s1, rd_nI (by omega) (by omega), rd_nI (by omega) (by omega), hx, hy, e]
  exact hk
theorem nam96 {c : Nat} (h : isN c = true) : nI c - 97 + 1 = nI (c - 96) ∧ 1 ≤ c - 96 ∧ c - 96 ≤ 5 := by
  have := isN_iff.mp h
  refine ⟨?_, by omega, by omega⟩
  rw [lit 97, nI_subm (by omega), nI_s1]
  congr 1
  omega
theorem cstep_close {L : Nat → Nat} {i : Nat} {c : CT} {s : List Nat} {dg fr rt : Nat} (e : L i = 125) : cstep L i c s dg fr rt = some (c, cset c s.tail, dg, fr, rt) := by
  unfold cstep
  rw [if_pos e]
theorem cstep_may {L : Nat → Nat} {i : Nat} {c : CT} {q : Nat} {r : List Nat} {dg fr rt : Nat} (e : L i = 46) : (bitC c q (L (i + 1) - 96) → cstep L i c (q :: r) dg fr rt = none) ∧ (¬ bitC c q (L (i + 1) - 96) → cstep L i c (q :: r) dg fr rt = some (fldC c q (L (i + 1) - 96), q :: r, L (i + 1) - 96, 1, rt)) := by
  unfold cstep tp
  rw [if_neg (by omega), if_pos e]
  exact ⟨fun z => by rw [if_pos (pB_t z)], fun z => by rw [if_neg (by rw [pB_f z]; decide)]⟩
theorem cstep_dep {L : Nat → Nat} {i : Nat} {c : CT} {q : Nat} {r : List Nat} {dg fr rt : Nat} (e : L i = 60 ∨ L i = 61) : (¬ (bitC c q (L (i + 1) - 96) ∧ bitC c q (L (i + 2) - 96)) → cstep L i c (q :: r) dg fr rt = none) ∧ (bitC c q (L (i + 1) - 96) ∧ bitC c q (L (i + 2) - 96) → cstep L i c (q :: r) dg fr rt = some (depC c q (L i) (L (i + 1) - 96) (L (i + 2) - 96), q :: r, dg, fr, rt)) := by
  unfold cstep tp
  rw [if_neg (by omega), if_neg (by omega), if_pos e]
  exact ⟨fun z => by rw [if_neg (by rw [pB_f z]; decide)], fun z => by rw [if_pos (pB_t z)]⟩
theorem cstep_name {L : Nat → Nat} {i : Nat} {c : CT} {q : Nat} {r : List Nat} {dg fr rt : Nat} (e : isN (L i) = true) : (bitC c q (L i - 96) → cstep L i c (q :: r) dg fr rt = none) ∧ (¬ bitC c q (L i - 96) → cstep L i c (q :: r) dg fr rt = some (fldC c q (L i - 96), q :: r, L i - 96, 0, rt)) := by
  have := isN_iff.mp e
  unfold cstep tp
  rw [if_neg (by omega), if_neg (by omega), if_neg (by omega), if_pos e]
  exact ⟨fun z => by rw [if_pos (pB_t z)], fun z => by rw [if_neg (by rw [pB_f z]; decide)]⟩
theorem cstep_check {L : Nat → Nat} {i : Nat} {c : CT} {s : List Nat} {dg fr rt : Nat} (e : sgOK (L i)) : (badC c s (L i) (cbds L i).1 (cbds L i).2 rt → cstep L i c s dg fr rt = none) ∧ (¬ badC c s (L i) (cbds L i).1 (cbds L i).2 rt → cstep L i c s dg fr rt = some (addK c s (L i) (cbds L i).1 (cbds L i).2 dg fr rt)) := by
  have e2 := e
  unfold sgOK at e2
  unfold cstep
  rw [if_neg (by omega), if_neg (by omega), if_neg (by omega), if_neg (fun z => by have := isN_iff.mp z; omega)]
  exact ⟨fun z => by rw [if_pos (pB_t z)], fun z => by rw [if_neg (by rw [pB_f z]; decide)]⟩
/-- digits behind a sign are small numbers -/
theorem cbds_le {L : Nat → Nat} {i : Nat} (h : ∀ j, 1 ≤ j → j ≤ ctl (L i) → isD (L (i + j)) = true) : (cbds L i).1 ≤ 99 ∧ (cbds L i).2 ≤ 99 := by
  unfold cbds
  unfold ctl at h
  by_cases e : L i = 35
  · rw [if_pos e] at h ⊢
    have h1 := isD_iff.mp (h 1 (by omega) (by omega))
    have h2 := isD_iff.mp (h 2 (by omega) (by omega))
    have h3 := isD_iff.mp (h 3 (by omega) (by omega))
    have h4 := isD_iff.mp (h 4 (by omega) (by omega))
    exact ⟨by show 10 * (L (i + 1) - 48) + (L (i + 2) - 48) ≤ 99; omega, by show 10 * (L (i + 3) - 48) + (L (i + 4) - 48) ≤ 99; omega⟩
  · rw [if_neg e] at h ⊢
    by_cases e2 : L i = 64
    · rw [if_neg (by omega), if_pos (by omega)] at h
      rw [if_pos e2]
      have h1 := isD_iff.mp (h 1 (by omega) (by omega))
      have h2 := isD_iff.mp (h 2 (by omega) (by omega))
      exact ⟨by show L (i + 1) - 48 ≤ 99; omega, by show L (i + 2) - 48 ≤ 99; omega⟩
    · rw [if_neg e2]
      exact ⟨Nat.zero_le _, Nat.zero_le _⟩
/-- one thing more is told -/
theorem CG.next {L : Nat → Nat} {n i : Nat} (hn : n ≤ 96) (hi : i < n) {c : CT} {s : List Nat} {dg fr rt : Nat} (h : CG i (c, s, dg, fr, rt)) (hst : cst L (n - i) i (stC c s dg) = none) {x : CS} (hx : cstep L i c s dg fr rt = some x) : i + ctl (L i) < n ∧ CG (i + ctl (L i) + 1) x ∧ cst L (n - (i + ctl (L i) + 1)) (i + ctl (L i) + 1) (stC x.1 x.2.1 x.2.2.1) = none := by
  have g := h.1
  have g : GC 0 c s dg := g
  obtain ⟨p1, p2, p3, p4, p5, p6⟩ := c_next g hi hst
  rcases p6 with e | e | e | e | e | e
  · obtain ⟨q, r, e1, e2, e3, e4⟩ := p1 e
    subst e1; subst e3
    rw [cstep_close e] at hx
    cases hx
    have ec : ctl (L i) = 0 := by unfold ctl; rw [if_neg (by omega), if_neg (by omega), if_neg (by omega)]
    rw [ec]
    exact ⟨hi, h.close e2, e4⟩
  · obtain ⟨a1, a2, q, r, e1, e2, e3, e4, e5⟩ := p2 e
    subst e1; subst e3
    have ec : ctl (L i) = 1 := by unfold ctl; rw [if_neg (by omega), if_pos e]
    obtain ⟨-, y1, y2⟩ := nam96 a2
    by_cases z : bitC c q (L (i + 1) - 96)
    · rw [(cstep_may e).1 z] at hx; cases hx
    · rw [(cstep_may e).2 z] at hx
      cases hx
      rw [ec]
      refine ⟨a1, h.field e2 e4 ⟨y1, y2⟩ (by omega) z (by omega), ?_⟩
      rw [stC_field _ _ _ _ (by omega)]
      exact e5
  · obtain ⟨a1, a2, a3, q, r, e1, e2, e3, e4⟩ := p3 (Or.inl e)
    subst e1; subst e3
    have ec : ctl (L i) = 2 := by unfold ctl; rw [if_neg (by omega), if_neg (by omega), if_pos (by omega)]
    obtain ⟨-, y1⟩ := nam96 a2
    obtain ⟨-, y2⟩ := nam96 a3
    by_cases z : bitC c q (L (i + 1) - 96) ∧ bitC c q (L (i + 2) - 96)
    · rw [(cstep_dep (Or.inl e)).2 z] at hx
      cases hx
      rw [ec]
      refine ⟨a1, h.dep e2 (by omega) (Or.inl e) y1 y2, ?_⟩
      rw [stC_dep g e2]
      exact e4
    · rw [(cstep_dep (Or.inl e)).1 z] at hx; cases hx
  · obtain ⟨a1, a2, a3, q, r, e1, e2, e3, e4⟩ := p3 (Or.inr e)
    subst e1; subst e3
    have ec : ctl (L i) = 2 := by unfold ctl; rw [if_neg (by omega), if_neg (by omega), if_pos (by omega)]
    obtain ⟨-, y1⟩ := nam96 a2
    obtain ⟨-, y2⟩ := nam96 a3
    by_cases z : bitC c q (L (i + 1) - 96) ∧ bitC c q (L (i + 2) - 96)
    · rw [(cstep_dep (Or.inr e)).2 z] at hx
      cases hx
      rw [ec]
      refine ⟨a1, h.dep e2 (by omega) (Or.inr e) y1 y2, ?_⟩
      rw [stC_dep g e2]
      exact e4
    · rw [(cstep_dep (Or.inr e)).1 z] at hx; cases hx
  · obtain ⟨q, r, e1, e2, e3, e4, e5⟩ := p4 e
    subst e1; subst e3
    have hb := isN_iff.mp e
    have ec : ctl (L i) = 0 := by unfold ctl; rw [if_neg (by omega), if_neg (by omega), if_neg (by omega)]
    obtain ⟨-, y1, y2⟩ := nam96 e
    by_cases z : bitC c q (L i - 96)
    · rw [(cstep_name e).1 z] at hx; cases hx
    · rw [(cstep_name e).2 z] at hx
      cases hx
      rw [ec]
      refine ⟨hi, h.field e2 e4 ⟨y1, y2⟩ (by omega) z (by omega), ?_⟩
      rw [stC_field _ _ _ _ (by omega)]
      exact e5
  · obtain ⟨a1, a2, a3, a4, a5⟩ := p5 e
    obtain ⟨b1, b2⟩ := cbds_le a3
    by_cases z : badC c s (L i) (cbds L i).1 (cbds L i).2 rt
    · rw [(cstep_check e).1 z] at hx; cases hx
    · rw [(cstep_check e).2 z] at hx
      cases hx
      obtain ⟨y1, y2, y3⟩ := h.check a1 e b1 b2 z (i' := i + ctl (L i) + 1) (by omega)
      refine ⟨a2, y1, ?_⟩
      by_cases hl : leafS (L i)
      · rw [y2 hl]; exact a4 hl
      · rw [y3 hl]; exact a5 hl
theorem c_CR_takes (Y : List kd) (d t a n : Nat) (L : Nat → Nat) (hn : n ≤ 96) {τ : sS} (hL : ∀ j, j < n → τ a j = nI (L j) ∧ L j < 256) {i : Nat} (hi : i < n) {c : CT} {s : List Nat} {dg fr rt : Nat} (h : CG i (c, s, dg, fr, rt)) (hst : cst L (n - i) i (stC c s dg) = none) (hx : XCB τ t c 0 s dg fr rt) (k : Int32 → sS → Prop)
    (h0 : ∀ σ', cstep L i c s dg fr rt = none → cvK t τ σ' → k 0 σ')
    (h1 : ∀ x σ', cstep L i c s dg fr rt = some x → cvK t τ σ' → XCB σ' t x.1 0 x.2.1 x.2.2.1 x.2.2.2.1 x.2.2.2.2 → k 1 σ') :
    CJ Y (d + 4) y_CR_takes [sR t (.inl 0), sR a (.inr 96), sI (nI i)] τ (rI k) := by
  obtain ⟨g, g2, g3, g4⟩ := id h
  have g : GC 0 c s dg := g
  have g2 : 3 * cW c ≤ i := g2
  have g3 : fr ≤ 1 := g3
  have g4 : rt ≤ i := g4
  obtain ⟨p1, p2, p3, p4, p5, p6⟩ := c_next g hi hst
  obtain ⟨l1, l2⟩ := hL i hi
  have hM := g.1
  have hl := g.slen
  have lb : L i < 2 ^ 31 := by omega
  have rdL : ∀ j, j < n → rd τ a 96 (nI j) = nI (L j) := fun j hj => by rw [rd_nI (by omega) (by omega)]; exact (hL j hj).1
  refine s_CR_takes_0 Y (d + 3) t a _ τ (rI k) ?_
  rw [rdL i hi, nI_s1, nI_2, nI_3, iNam_nI l2, z_eq lb 35 (by omega), z_eq lb 46 (by omega), z_eq lb 60 (by omega), z_eq lb 61 (by omega), z_eq lb 64 (by omega), z_eq lb 125 (by omega)]
  -- a check
  have chk : ∀ lo hi', sgOK (L i) → cbds L i = (lo, hi') → CJ Y (d + 3) y_CR_adds [sR t (.inl 0), sI (nI (L i)), sI (nI lo), sI (nI hi')] τ (rI fun r13 σ13 => ((r13 = 0 ∨ r13 = 1) ∧ (rI k) (some (sI r13)) σ13)) := by
    intro lo hi' e eb
    obtain ⟨a1, a2, a3, -, -⟩ := p5 e
    have hb := cbds_le a3
    obtain ⟨y1, y2⟩ := (hd0 g).mp a1
    have st := cstep_check (L := L) (i := i) (c := c) (s := s) (dg := dg) (fr := fr) (rt := rt) e
    rw [eb] at hb st
    exact c_CR_adds Y d t g hx (by omega) y1 y2 e hb.1 hb.2 g3 _ (fun σ' z zk => ⟨Or.inl rfl, h0 σ' (st.1 z) zk⟩) (fun σ' z zk zx => ⟨Or.inr rfl, h1 _ σ' (st.2 z) zk zx⟩)
  -- a dependent one
  have dep : (L i = 60 ∨ L i = 61) → CJ Y (d + 3) y_CR_addsDependent [sR t (.inl 0), sI (nI (L i)), sI ((rd τ a 96 (nI (i + 1)) - 97) + 1), sI ((rd τ a 96 (nI (i + 2)) - 97) + 1)] τ (rI fun r9 σ9 => ((r9 = 0 ∨ r9 = 1) ∧ (rI k) (some (sI r9)) σ9)) := by
    intro e
    obtain ⟨a1, a2, a3, q, r, e1, e2, e3, e4⟩ := p3 e
    subst e1; subst e3
    obtain ⟨z1, y1⟩ := nam96 a2
    obtain ⟨z2, y2⟩ := nam96 a3
    rw [rdL _ (by omega), rdL _ (by omega), z1, z2]
    have st := cstep_dep (L := L) (i := i) (c := c) (q := q) (r := r) (dg := 0) (fr := fr) (rt := rt) e
    exact c_CR_addsDependent Y (d + 1) t g hx (by omega) y1 y2 _ (fun z => ⟨Or.inl rfl, h0 τ (st.1 z) (fun _ _ => rfl)⟩) (fun σ' z zk zx => ⟨Or.inr rfl, h1 _ σ' (st.2 z) zk zx⟩)
  refine ⟨fun e35 => ?_, fun n35 => ⟨fun e46 => ?_, fun n46 => ⟨fun e60 => dep (Or.inl e60), fun n60 => ⟨fun e61 => dep (Or.inr e61), fun n61 => ⟨fun e64 => ?_, fun n64 => ⟨fun e125 => ?_, fun n125 => ⟨fun zN => ?_, fun zN => ?_⟩⟩⟩⟩⟩⟩⟩
  · have e : sgOK (L i) := by unfold sgOK; omega
    obtain ⟨a1, a2, a3, -, -⟩ := p5 e
    have ec : ctl (L i) = 4 := by unfold ctl; rw [if_pos e35]
    rw [ec] at a2 a3
    refine c_CR_two Y (d + 2) a (i + 1) (by omega) (hL (i + 1) (by omega)).1 (hL (i + 2) (by omega)).1 (a3 1 (by omega) (by omega)) (a3 2 (by omega) (by omega)) _ ?_
    refine c_CR_two Y (d + 2) a (i + 3) (by omega) (hL (i + 3) (by omega)).1 (hL (i + 4) (by omega)).1 (a3 3 (by omega) (by omega)) (a3 4 (by omega) (by omega)) _ ?_
    exact chk _ _ e (by unfold cbds; rw [if_pos e35])
  · obtain ⟨a1, a2, q, r, e1, e2, e3, e4, e5⟩ := p2 e46
    subst e1; subst e3
    obtain ⟨z1, y1⟩ := nam96 a2
    rw [rdL _ (by omega), z1]
    have st := cstep_may (L := L) (i := i) (c := c) (q := q) (r := r) (dg := 0) (fr := fr) (rt := rt) e46
    exact c_CR_addsField Y (d + 1) t g hx y1 (fr := 1) _ (fun z => ⟨Or.inl rfl, h0 τ (st.1 z) (fun _ _ => rfl)⟩) (fun σ' z zk zx => ⟨Or.inr rfl, h1 _ σ' (st.2 z) zk zx⟩)
  · have e : sgOK (L i) := by unfold sgOK; omega
    obtain ⟨a1, a2, a3, -, -⟩ := p5 e
    have ec : ctl (L i) = 2 := by unfold ctl; rw [if_neg (by omega), if_neg (by omega), if_pos (by omega)]
    rw [ec] at a2 a3
    have d1 := isD_iff.mp (a3 1 (by omega) (by omega))
    have d2 := isD_iff.mp (a3 2 (by omega) (by omega))
    rw [rdL _ (by omega), rdL _ (by omega), show nI (L (i + 1)) - 48 = nI (L (i + 1) - 48) from nI_subm (a := L (i + 1)) (b := 48) (by omega), show nI (L (i + 2)) - 48 = nI (L (i + 2) - 48) from nI_subm (a := L (i + 2)) (b := 48) (by omega)]
    exact chk _ _ e (by unfold cbds; rw [if_neg n35, if_pos e64])
  · obtain ⟨q, r, e1, e2, e3, e4⟩ := p1 e125
    subst e1; subst e3
    have hq := g.2.2.2.1.mem q List.mem_cons_self
    have hq1 : q < cM c := hq.1
    have hq2 : q + cF c 3 q = cM c := hq.2.1
    obtain ⟨x1, x2, x3, x4, x5, x6, x7, x8, x9, x10, x11⟩ := id hx
    refine c_RD_topC1 Y (d + 2) t x1 x2 (by omega) _ ?_
    refine c_RD_topC1 Y (d + 2) t x1 x2 (by omega) _ ?_
    show CJ Y (d + 3) y_RD_pop [sR t (.inl 0)] (wr τ (t + 6) 24 (nI q) (τ (t + 2) 13 - nI q)) _
    rw [x7, nI_subm (by omega), wr_nI (by omega) (by omega)]
    refine c_RD_popC Y (d + 3) t (s := q :: r) (by rw [up_cell _ _ (by omega)]; exact x1) (by omega) _ (fun σ3 b1 b2 b3 => ?_)
    have b1 : σ3 t 1 = nI r.length := b1
    have v : ∀ y, y ≠ t → y ≠ t + 6 → σ3 y = τ y := fun y y1 y2 => by rw [b2 y y1, up_cell _ _ y2]
    have v0 : ∀ y, y ≠ 1 → σ3 t y = τ t y := fun y hy => by rw [b3 y hy, up_cell _ _ (by omega)]
    have X3 : XCB σ3 t c 1 r 0 fr rt := by
      refine ⟨b1, x2.2.kept (fun j _ => by rw [v _ (by omega) (by omega)]), x3.2.kept (fun j hj => by rw [v _ (by omega) (by omega)]) (fun _ _ => ⟨rfl, rfl⟩), ?_, ?_, ?_, ?_, ?_, fun f f1 f3 p hp => ?_, fun p hp hn => ?_, fun f f1 w hw => ?_⟩
      · rw [v0 8 (by omega)]; exact x4
      · rw [v0 9 (by omega)]; exact x5
      · rw [v0 10 (by omega)]; exact x6
      · rw [v _ (by omega) (by omega)]; exact x7
      · rw [v _ (by omega) (by omega)]; exact x8
      · rw [v _ (by omega) (by omega)]; exact x9 f f1 f3 p hp
      · by_cases ep : p = q
        · subst ep
          rw [b2 _ (by omega), up_self]
          congr 1
          omega
        · rw [b2 _ (by omega), up_other _ _ (Or.inr ep)]
          exact x10 p hp (fun z => by
            rcases List.mem_cons.mp z with y | y
            · exact ep y
            · exact hn y)
      · rw [v _ (by omega) (by omega)]; exact x11 f f1 w hw
    refine c_CR_settle Y (d + 1) t (g.close e2) X3 _ (fun σ' y1 y2 => ⟨Or.inr rfl, h1 _ σ' (cstep_close e125) (fun y hy => by rw [y2 y hy, v y (by omega) (by omega)]) y1⟩)
  · have nN : ¬ isN (L i) = true := fun z => by rw [if_pos z] at zN; exact absurd zN (by decide)
    have e : sgOK (L i) := by
      rcases p6 with z | z | z | z | z | z
      · exact absurd z n125
      · exact absurd z n46
      · exact absurd z n60
      · exact absurd z n61
      · exact absurd z nN
      · exact z
    exact chk 0 0 e (by unfold cbds; rw [if_neg n35, if_neg n64])
  · have hN : isN (L i) = true := by
      cases z : isN (L i) with
      | true => rfl
      | false => rw [z] at zN; exact absurd rfl zN
    obtain ⟨q, r, e1, e2, e3, e4, e5⟩ := p4 hN
    subst e1; subst e3
    obtain ⟨z1, y1⟩ := nam96 hN
    rw [z1]
    have st := cstep_name (L := L) (i := i) (c := c) (q := q) (r := r) (dg := 0) (fr := fr) (rt := rt) hN
    exact c_CR_addsField Y (d + 1) t g hx y1 (fr := 0) _ (fun z => ⟨Or.inl rfl, h0 τ (st.1 z) (fun _ _ => rfl)⟩) (fun σ' z zk zx => ⟨Or.inr rfl, h1 _ σ' (st.2 z) zk zx⟩)
theorem c_CR_tail (Y : List kd) (d : Nat) {c : Nat} (hc : c < 256) {σ : sS} (k : Int32 → sS → Prop) (hk : k (nI (ctl c)) σ) : CJ Y d y_CR_tail [sI (nI c)] σ (rI k) := by
  refine s_CR_tail_0 Y d _ σ (rI k) ?_
  rw [z_eq (by omega) 35 (by omega), z_eq (by omega) 46 (by omega), z_eq (by omega) 60 (by omega), z_eq (by omega) 61 (by omega), z_eq (by omega) 64 (by omega)]
  unfold ctl at hk
  refine ⟨fun e => ?_, fun n35 => ⟨fun e => ?_, fun n46 => ⟨fun e => ?_, fun n60 => ⟨fun e => ?_, fun n61 => ⟨fun e => ?_, fun n64 => ?_⟩⟩⟩⟩⟩
  · rw [if_pos e] at hk; exact hk
  · rw [if_neg (by omega), if_pos e] at hk; exact hk
  · rw [if_neg (by omega), if_neg (by omega), if_pos (by omega)] at hk; exact hk
  · rw [if_neg (by omega), if_neg (by omega), if_pos (by omega)] at hk; exact hk
  · rw [if_neg (by omega), if_neg (by omega), if_pos (by omega)] at hk; exact hk
  · rw [if_neg (by omega), if_neg (by omega), if_neg (by omega)] at hk; exact hk
abbrev c00 : CT := (0, 0, fun _ _ => 0, fun _ _ => 0, 0, fun _ => 0)
theorem CG.start : CG 0 (c00, [], 0, 0, 0) := ⟨GC.start, Nat.le_refl _, Nat.zero_le _, Nat.le_refl _⟩
/-- all letters are told -/
theorem cst_end {L : Nat → Nat} {n i : Nat} (hi : n ≤ i) {c : CT} {s : List Nat} {dg : Nat} (h : GC 0 c s dg) (hst : cst L (n - i) i (stC c s dg) = none) : s = [] ∧ dg = 0 ∧ WFC c := by
  rw [show n - i = 0 by omega] at hst
  unfold cst stC at hst
  rcases hd_all h with e | ⟨-, e1, e2, e3⟩ | e | e
  · rw [e] at hst; cases hst
  · subst e1; subst e2
    exact ⟨rfl, rfl, h.whole e3⟩
  · rw [e] at hst; cases hst
  · rw [e] at hst; cases hst
theorem c_CR_build (Y : List kd) (d t a n : Nat) (L : Nat → Nat) (hn : n ≤ 96) (hta : a < t ∨ t + 17 ≤ a) {σ : sS} (hL : ∀ i, i < n → σ a i = nI (L i) ∧ L i < 256) (h1 : σ t 1 = 0) (hok : cst L n 0 (0, 0, false, []) = none) (k : Int32 → sS → Prop)
    (hk0 : ∀ p σ', p < n → cbu L n n 0 c00 [] 0 0 0 = .inl p → cvK t σ σ' → k (nI p) σ')
    (hk1 : ∀ c σ', cbu L n n 0 c00 [] 0 0 0 = .inr c → WFC c → XC σ' (t + 2) c → cvK t σ σ' → k (-1) σ') :
    CJ Y (d + 5) y_CR_build [sR t (.inl 0), sR a (.inr 96), sI (nI n)] σ (rI k) := by
  obtain ⟨R, hR⟩ : ∃ R, cbu L n n 0 c00 [] 0 0 0 = R := ⟨_, rfl⟩
  rw [hR] at hk0 hk1
  have key : ∀ m i c s dg fr rt (τ : sS), n ≤ i + m → i ≤ n → CG i (c, s, dg, fr, rt) → XCB τ t c 0 s dg fr rt → cvK t σ τ → cst L (n - i) i (stC c s dg) = none → (∀ m, n ≤ i + m → cbu L n m i c s dg fr rt = R) →
      Jd Y (d + 5) y_CR_build 33 [(0, sR t (.inl 0)), (1, sR a (.inr 96)), (2, sI (nI n)), (3, sI (nI i))] [] τ (rI k) := by
    intro m
    induction m with
    | zero =>
      intro i c s dg fr rt τ hm hin hI hX hK hst hq
      have ei : i = n := by omega
      obtain ⟨e1, e2, w⟩ := cst_end (by omega) hI.1 hst
      have eR : R = .inr c := by rw [← hq 0 (by omega)]; rfl
      have e1 : s = [] := e1
      have e2 : dg = 0 := e2
      subst e1; subst e2
      obtain ⟨x1, x2, x3, x4, x5, x6, x7, x8, x9, x10, x11⟩ := hX
      refine s_CR_build_33 Y (d + 4) t a _ _ τ (rI k) ⟨fun _ => ?_, fun hlt => ?_⟩
      · refine hk1 c τ eR w ⟨x7, x8, fun f f10 q hq => ?_, x11⟩ hK
        by_cases e3 : f = 3
        · subst e3
          exact x10 q hq List.not_mem_nil
        · exact x9 f f10 e3 q hq
      · rw [i32_lt (by omega) (by omega)] at hlt
        omega
    | succ m ih =>
      intro i c s dg fr rt τ hm hin hI hX hK hst hq
      by_cases hlt : i < n
      · obtain ⟨l1, l2⟩ := hL i hlt
        have hLτ : ∀ j, j < n → τ a j = nI (L j) ∧ L j < 256 := fun j hj => by rw [hK a hta]; exact hL j hj
        refine s_CR_build_33 Y (d + 4) t a _ _ τ (rI k) ⟨fun h => ?_, fun _ => ?_⟩
        · rw [i32_lt (by omega) (by omega)] at h
          omega
        refine c_CR_takes Y d t a n L hn hLτ hlt hI hst hX _ (fun σ' hs g => ⟨fun z => absurd rfl z, fun _ => ?_⟩) (fun x σ' hs g gx => ⟨fun _ => ?_, fun z => absurd z (by decide)⟩)
        · refine hk0 i σ' hlt ?_ (hK.trans g)
          rw [← hq (m + 1) hm]
          exact cbu_bad hlt hm hs
        · rw [rd_nI (by omega) (by omega), g a hta, (hLτ i hlt).1]
          refine c_CR_tail Y (d + 4) l2 _ ?_
          obtain ⟨n1, n2, n3⟩ := CG.next hn hlt hI hst hs
          rw [nI_add, nI_s1]
          obtain ⟨xc, xs, xd, xf, xr⟩ := x
          exact ih (i + ctl (L i) + 1) xc xs xd xf xr σ' (by omega) (by omega) n2 gx (hK.trans g) n3 (cbu_go hq hlt hs)
      · obtain ⟨e1, e2, w⟩ := cst_end (by omega) hI.1 hst
        have eR : R = .inr c := by rw [← hq 0 (by omega)]; rfl
        have e1 : s = [] := e1
        have e2 : dg = 0 := e2
        subst e1; subst e2
        obtain ⟨x1, x2, x3, x4, x5, x6, x7, x8, x9, x10, x11⟩ := hX
        refine s_CR_build_33 Y (d + 4) t a _ _ τ (rI k) ⟨fun _ => ?_, fun hlt => ?_⟩
        · refine hk1 c τ eR w ⟨x7, x8, fun f f10 q hq => ?_, x11⟩ hK
          by_cases e3 : f = 3
          · subst e3
            exact x10 q hq List.not_mem_nil
          · exact x9 f f10 e3 q hq
        · rw [i32_lt (by omega) (by omega)] at hlt
          omega
  refine s_CR_build_0 Y (d + 4) t a _ σ (rI k) ?_
  refine key n 0 c00 [] 0 0 0 _ (by omega) (Nat.zero_le _) CG.start ⟨?_, True.intro, True.intro, ?_, ?_, up_self _ _ _ _, ?_, ?_, fun f f1 f3 q hq => absurd hq (Nat.not_lt_zero _), fun q hq => absurd hq (Nat.not_lt_zero _), fun f f1 w hw => absurd hw (Nat.not_lt_zero _)⟩ (fun y hy => ?_) (by rw [Nat.sub_zero]; exact hok) (fun m hm => ?_)
  · rw [up_other _ _ (Or.inr (by omega)), up_other _ _ (Or.inr (by omega)), up_other _ _ (Or.inr (by omega)), up_cell _ _ (by omega), up_cell _ _ (by omega)]; exact h1
  · rw [up_other _ _ (Or.inr (by omega)), up_other _ _ (Or.inr (by omega)), up_self]; rfl
  · rw [up_other _ _ (Or.inr (by omega)), up_self]; rfl
  · rw [up_cell _ _ (by omega), up_cell _ _ (by omega), up_cell _ _ (by omega), up_other _ _ (Or.inr (by omega)), up_self]; rfl
  · rw [up_cell _ _ (by omega), up_cell _ _ (by omega), up_cell _ _ (by omega), up_self]; rfl
  · rw [up_cell _ _ (by omega), up_cell _ _ (by omega), up_cell _ _ (by omega), up_cell _ _ (by omega), up_cell _ _ (by omega)]
  · rw [cbu_any L n m n 0 _ _ _ _ _ (by omega) (by omega)]; exact hR
noncomputable def ctold (L : Nat → Nat) (n : Nat) : Int32 × Option CT := match cst L n 0 (0, 0, false, []) with
  | some p => (-1000 - nI p, none)
  | none => match cbu L n n 0 c00 [] 0 0 0 with
    | .inl p => (-2000 - nI p, none)
    | .inr c => (nI (cM c), some c)
theorem ctold_st {L : Nat → Nat} {n p : Nat} (h : cst L n 0 (0, 0, false, []) = some p) : ctold L n = (-1000 - nI p, none) := by
  unfold ctold; rw [h]
theorem ctold_bd {L : Nat → Nat} {n p : Nat} (h : cst L n 0 (0, 0, false, []) = none) (g : cbu L n n 0 c00 [] 0 0 0 = .inl p) : ctold L n = (-2000 - nI p, none) := by
  unfold ctold; rw [h, g]
theorem ctold_ok {L : Nat → Nat} {n : Nat} {c : CT} (h : cst L n 0 (0, 0, false, []) = none) (g : cbu L n n 0 c00 [] 0 0 0 = .inr c) : ctold L n = (nI (cM c), some c) := by
  unfold ctold; rw [h, g]
theorem c_RD_readC (Y : List kd) (d t a n : Nat) (L : Nat → Nat) (hn : n ≤ 96) (hta : a < t ∨ t + 17 ≤ a) {σ : sS} (hL : ∀ i, i < n → σ a i = nI (L i) ∧ L i < 256) (k : Int32 → sS → Prop)
    (h0 : ∀ σ', (ctold L n).2 = none → ¬ (ctold L n).1 = 0 → cvK t σ σ' → k (ctold L n).1 σ')
    (h1 : ∀ c σ', ctold L n = (nI (cM c), some c) → WFC c → XC σ' (t + 2) c → cvK t σ σ' → k 0 σ') :
    CJ Y (d + 6) y_RD_read [sR t (.inl 0), sR a (.inr 96), sI (nI n)] σ (rI k) := by
  refine s_RD_readC_0 Y (d + 5) t a _ σ (rI k) ?_
  refine c_RD_stumbleC Y d t a n L hn (by omega) (by omega) hL _ (fun σ1 g1 => ?_)
  have k1 : cvK t σ σ1 := fun x hx => g1 x (by omega) (by omega)
  cases hs : cst L n 0 (0, 0, false, []) with
  | some p =>
    have hp := cst_le L n 0 _ p hs
    have e := ctold_st hs
    refine ⟨fun z => absurd z (nI_pos (by omega)), fun _ => ?_⟩
    have := h0 σ1 (by rw [e]) (by rw [e]; exact neg1000 p (by omega)) k1
    rw [e] at this
    exact this
  | none =>
    refine ⟨fun _ => ?_, fun z => absurd (by decide) z⟩
    have k2 : cvK t σ (up σ1 t 1 0) := fun x hx => by rw [up_cell _ _ (by omega)]; exact k1 x hx
    refine c_CR_build Y d t a n L hn hta (fun i hi => ?_) (up_self _ _ _ _) hs _ (fun p σ' hp hb g => ⟨fun z => absurd z (nI_pos (by omega)), fun _ => ?_⟩) (fun c σ' hb hw hx g => ⟨fun _ => ?_, fun z => absurd (by decide) z⟩)
    · rw [k2 a (by omega)]; exact hL i hi
    · have e := ctold_bd hs hb
      have := h0 σ' (by rw [e]) (by rw [e]; exact neg2000 p (by omega)) (fun x hx => by rw [g x hx, k2 x hx])
      rw [e] at this
      exact this
    · exact h1 c σ' (ctold_ok hs hb) hw hx (fun x hx => by rw [g x hx, k2 x hx])
theorem c_GF_check (Y : List kd) (d n : Nat) (L : Nat → Nat) (hn : n ≤ 96) {σ : sS} (h6 : σ 0 6 = nI n) (hL : ∀ i, i < n → σ 64 i = nI (L i) ∧ L i < 256) (k : Int32 → sS → Prop)
    (h0 : ∀ σ', (ctold L n).2 = none → σ' 0 6 = 0 → (∀ i, i ≠ 6 → σ' 0 i = σ 0 i) → (∀ x, x ≠ 0 → (x < 47 ∨ 64 ≤ x) → σ' x = σ x) → k (ctold L n).1 σ')
    (h1 : ∀ c σ', (ctold L n).2 = some c → WFC c → XC σ' 16 c → σ' 0 6 = 0 → (∀ i, i ≠ 6 → σ' 0 i = σ 0 i) → (∀ x, x ≠ 0 → (x < 16 ∨ 30 ≤ x) → (x < 47 ∨ 64 ≤ x) → σ' x = σ x) → k (ctold L n).1 σ') :
    CJ Y (d + 7) y_GF_check [sR 0 (.inl 5)] σ (rI k) := by
  refine s_GF_check_0 Y (d + 6) 0 σ (rI k) ?_
  rw [h6]
  refine c_RD_readC Y d 47 64 n L hn (Or.inr (by omega)) (fun i hi => hL i hi) _ (fun σ1 e ne g => ?_) (fun c σ1 e w hx g => ?_)
  · refine ⟨fun z => absurd z ne, fun _ => ?_⟩
    exact h0 _ e (up_self _ _ _ _) (fun i hi => by rw [up_other _ _ (Or.inr hi), g 0 (by omega)]) (fun x x0 hx => by rw [up_cell _ _ x0, g x hx])
  · refine ⟨fun _ => ?_, fun z => absurd rfl z⟩
    have hx2 : XC (up σ1 0 6 0) 49 c := hx.kept (fun x x1 x2 => up_cell _ _ (by omega))
    refine c_PL_take Y (d + 4) 16 49 (Or.inr (by omega)) w hx2 _ (fun σ2 g2 g3 => ?_)
    have e1 : (ctold L n).1 = nI (cM c) := by rw [e]
    have es : σ2 (0 + 16) 13 = nI (cM c) := g2.1
    rw [es, ← e1]
    refine h1 c σ2 (by rw [e]) w g2 ?_ (fun i hi => ?_) (fun x x0 hx hx3 => ?_)
    · rw [g3 0 (by omega), up_self]
    · rw [g3 0 (by omega), up_other _ _ (Or.inr hi), g 0 (by omega)]
    · rw [g3 x (by omega), up_cell _ _ x0, g x hx3]
