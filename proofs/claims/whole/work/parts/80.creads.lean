/-! checks told in letters: the reference reads a check -/
theorem CB.congr {σ σ' : sS} {i j P w sg lo hi : Nat} {b b' : Prop} (h : CB σ σ' i j P w sg lo hi b) (e : b' ↔ b) : CB σ σ' i j P w sg lo hi b' := by
  obtain ⟨h1, h2, h3⟩ := h
  exact ⟨fun z => h1 (e.mp z), fun z => h2 (fun y => z (e.mpr y)), h3⟩
theorem CB.mC {σ σ' : sS} {i j P w sg lo hi : Nat} {b : Prop} (h : CB σ σ' i j P w sg lo hi b) : mC σ σ' := by
  obtain ⟨h1, h2, h3, h4, h5, h6, h7, h8, h9, h10, h11⟩ := h
  exact ⟨fun x a b c => h10 x a (by omega), fun i a b => h11 i (by omega) (by omega) (by omega) (by omega)⟩
theorem CB.bounds {σ σ1 τ : sS} {i P w sg lo hi j' : Nat} {b : Prop} (hi200 : i < 200) (h : CB σ σ1 i (i + 1) P w sg 0 0 b) (h43 : τ 0 43 = nI j') (h0 : ∀ p, p ≠ 43 → p ≠ 44 → τ 0 p = σ1 0 p) (hb1 : hi < lo → τ 0 44 = if σ1 0 44 < 0 then nI (i + 1 - 1) else σ1 0 44) (hb0 : ¬ hi < lo → τ 0 44 = σ1 0 44) (h8 : τ 8 (m24 P) = nI lo) (h9 : τ 9 (m24 P) = nI hi) (hx : ∀ x, x ≠ 0 → x ≠ 8 → x ≠ 9 → τ x = σ1 x) (hy : ∀ x, x = 8 ∨ x = 9 → ∀ y, y ≠ m24 P → τ x y = σ1 x y) : CB σ τ i j' P w sg lo hi (b ∨ hi < lo) := by
  obtain ⟨g1, g2, g3, g4, g5, g6, g7, g8, g9, g10, g11⟩ := h
  rw [Nat.add_sub_cancel] at hb1
  refine ⟨fun z => ?_, fun z => ?_, ?_, h8, h9, fun x x1 x2 y hny => ?_, ?_, ?_, h43, fun x x0 hx2 => ?_, fun j j1 j2 j3 j4 => ?_⟩
  · by_cases y : b
    · by_cases u : hi < lo
      · rw [hb1 u, g1 y]
        by_cases v : σ 0 44 < 0
        · rw [if_pos v, if_neg (nI_pos (by omega))]
        · rw [if_neg v, if_neg v]
      · rw [hb0 u, g1 y]
    · rcases z with z | u
      · exact absurd z y
      · rw [hb1 u, g2 y]
  · rw [hb0 (fun u => z (Or.inr u)), g2 (fun u => z (Or.inl u))]
  · rw [hx 7 (by omega) (by omega) (by omega)]; exact g3
  · by_cases e : x = 8 ∨ x = 9
    · rw [hy x e y hny]; exact g6 x x1 x2 y hny
    · rw [hx x (by omega) (by omega) (by omega)]; exact g6 x x1 x2 y hny
  · rw [h0 20 (by omega) (by omega)]; exact g7
  · rw [h0 23 (by omega) (by omega)]; exact g8
  · rw [hx x x0 (by omega) (by omega)]; exact g10 x x0 hx2
  · rw [h0 j j3 j4]; exact g11 j j1 j2 j3 j4
theorem vv22 (L : Nat → Nat) (i : Nat) : vvD 2 L i 2 = 10 * (L i - 48) + (L (i + 1) - 48) ∧ vvD 2 L i 4 = 10 * (L (i + 2) - 48) + (L (i + 3) - 48) := by
  constructor
  · show 10 * (10 * 0 + (L (i + 0) - 48)) + (L (i + 1) - 48) = _
    rw [Nat.mul_zero, Nat.zero_add, Nat.add_zero]
  · rfl
theorem vv11 (L : Nat → Nat) (i : Nat) : vvD 1 L i 1 = L i - 48 ∧ vvD 1 L i 2 = L (i + 1) - 48 := by
  constructor
  · show 10 * 0 + (L (i + 0) - 48) = _
    rw [Nat.mul_zero, Nat.zero_add, Nat.add_zero]
  · rfl
theorem sgOK_256 {s : Nat} (h : sgOK s) : s < 127 := by unfold sgOK at h; omega
theorem c_MO_begun (Y : List kd) (d : Nat) {L : Nat → Nat} {n : Nat} {σ : sS} {i : Nat} {o : OC} {P F W w : Nat} (h : RQ L n σ i o P F W w) (hi : i < n) (hs : sgOK (L i)) {x : Int32} (k : Int32 → sS → Prop)
    (go : ∀ τ, (∀ j, 1 ≤ j → j ≤ ctl (L i) → i + j < n ∧ isD (L (i + j)) = true) → CB σ τ i (i + ctl (L i) + 1) P w (L i) (cbds L i).1 (cbds L i).2 (bdC σ P w o (L i) ∨ (cbds L i).2 < (cbds L i).1) → Jd Y (d + 3) y_MO_readsCheck 104 [(0, sR 0 (.inl 6)), (1, sI (nI (L i))), (2, sI x), (3, sI (nI (m24 P)))] [] τ (rI k))
    (bad : ∀ τ j, τ 0 43 = nI j → mC σ τ → (∀ S, cst L (n - i) i (0, 0, false, S) = some j) → k 0 τ) :
    Jd Y (d + 3) y_MO_readsCheck 66 [(0, sR 0 (.inl 6)), (1, sI (nI (L i))), (2, sI x)] [] σ (rI k) := by
  have hT := h.1
  have hn := hT.2.2.2.1
  have s127 := sgOK_256 hs
  have hm := m24_le P
  refine s_MO_readsCheck_66 Y (d + 2) 0 _ _ σ (rI k) ?_
  refine c_MO_beginsCheck Y (d + 1) h (by omega) _ (fun σ1 cb => ?_)
  have cb' := cb
  obtain ⟨g1, g2, g3, g4, g5, g6, g7, g8, g9, g10, g11⟩ := cb'
  have T1' : TP L n σ1 (i + 1) := hT.kept g9 (by omega) (g11 42 (by omega) (by omega) (by omega) (by omega)) (g10 29 (by omega) (by omega))
  have fail : ∀ {τ : sS}, rbF σ1 τ (m24 P) → mC σ τ := fun {τ} hF => cb.mC.trans ⟨fun x x0 x1 x2 => hF.1 x x0 (by omega) (by omega), fun p p1 p2 => hF.2.2 p (by omega)⟩
  rw [z_eq (by omega) 35 (by omega)]
  refine ⟨fun n35 => ?_, fun e35 => ?_⟩
  · refine s_MO_readsCheck_87 Y (d + 2) 0 _ _ _ σ1 (rI k) ?_
    rw [z_eq (by omega) 64 (by omega)]
    refine ⟨fun n64 => ?_, fun e64 => ?_⟩
    · have hc : ctl (L i) = 0 := by
        unfold ctl
        unfold sgOK at hs
        rw [if_neg n35, if_neg (by omega), if_neg (by omega)]
      have hb : cbds L i = (0, 0) := by
        unfold cbds
        rw [if_neg n35, if_neg n64]
      refine go σ1 (fun j j1 j2 => by omega) ?_
      rw [hc, hb]
      exact cb.congr ⟨fun z => by
        rcases z with z | z
        · exact z
        · exact absurd z (Nat.lt_irrefl _), Or.inl⟩
    · have hc : ctl (L i) = 2 := by
        unfold ctl
        rw [if_neg n35, if_neg (by omega), if_pos (by omega)]
      have hb : cbds L i = (vvD 1 L (i + 1) 1, vvD 1 L (i + 1) 2) := by
        rw [(vv11 L (i + 1)).1, (vv11 L (i + 1)).2]
        unfold cbds
        rw [if_neg n35, if_pos e64]
      refine c_MO_readsBounds Y d T1' (Or.inl rfl) (by omega) hm _ (fun τ a1 a2 a3 a4 a5 a6 a7 a8 a9 => ⟨fun _ => ?_, fun z => absurd z (by decide)⟩) (fun τ j a1 a2 a3 => ⟨fun z => absurd rfl z, fun _ => ⟨Or.inl rfl, ?_⟩⟩)
      · refine go τ (fun j j1 j2 => ?_) ?_
        · have := a1 (j - 1) (by omega)
          rw [show i + 1 + (j - 1) = i + j by omega] at this
          exact this
        · rw [hc, hb]
          have a2' : τ 0 43 = nI (i + 2 + 1) := by rw [a2]
          exact cb.bounds (by omega) a2' a3 a4 a5 a6 a7 a8 a9
      · refine bad τ j a1 (fail a2) (fun S => ?_)
        rw [(cst_sign hi S hs).2.1 e64]
        exact a3 true S
  · have hc : ctl (L i) = 4 := by
      unfold ctl
      rw [if_pos e35]
    have hb : cbds L i = (vvD 2 L (i + 1) 2, vvD 2 L (i + 1) 4) := by
      rw [(vv22 L (i + 1)).1, (vv22 L (i + 1)).2]
      unfold cbds
      rw [if_pos e35]
    refine c_MO_readsBounds Y d T1' (Or.inr rfl) (by omega) hm _ (fun τ a1 a2 a3 a4 a5 a6 a7 a8 a9 => ⟨fun z => absurd z (by decide), fun _ => ?_⟩) (fun τ j a1 a2 a3 => ⟨fun _ => ⟨Or.inl rfl, ?_⟩, fun z => absurd rfl z⟩)
    · refine s_MO_readsCheck_87 Y (d + 2) 0 _ _ _ τ (rI k) ?_
      rw [z_eq (by omega) 64 (by omega)]
      refine ⟨fun _ => ?_, fun e64 => by omega⟩
      refine go τ (fun j j1 j2 => ?_) ?_
      · have := a1 (j - 1) (by omega)
        rw [show i + 1 + (j - 1) = i + j by omega] at this
        exact this
      · rw [hc, hb]
        have a2' : τ 0 43 = nI (i + 4 + 1) := by rw [a2]
        exact cb.bounds (by omega) a2' a3 a4 a5 a6 a7 a8 a9
    · refine bad τ j a1 (fail a2) (fun S => ?_)
      rw [(cst_sign hi S hs).1 e35]
      exact a3 false S
theorem SBc.of {n : Nat} {R : Nat ⊕ CT} {σ σ' : sS} (hn : n ≤ 96) (h : SBc n R σ) (h44 : σ' 0 44 = σ 0 44 ∨ ∃ i, σ' 0 44 = if σ 0 44 < 0 then nI i else σ 0 44) : SBc n R σ' := by
  obtain ⟨p, p1, p2, p3⟩ := h
  refine ⟨p, p1, p2, ?_⟩
  rcases h44 with e | ⟨i, e⟩
  · rw [e]; exact p3
  · rw [e, p3, if_neg (nI_pos (by omega))]
/-- a check has begun: what is told now -/
theorem STc.begun {L : Nat → Nat} {n : Nat} {R : Nat ⊕ CT} {σ τ : sS} {i : Nat} {o : OC} {P F W w : Nat} (hn : n ≤ 96) (hi : i < n) (h : STc L n R σ i o P F W w) (hs : sgOK (L i)) (hdg : ∀ j, 1 ≤ j → j ≤ ctl (L i) → i + j < n ∧ isD (L (i + j)) = true) (cb : CB σ τ i (i + ctl (L i) + 1) P w (L i) (cbds L i).1 (cbds L i).2 (bdC σ P w o (L i) ∨ (cbds L i).2 < (cbds L i).1)) :
    SBc n R τ ∨ ∃ c s dg fr, (∀ m, n ≤ i + ctl (L i) + 1 + m → cbu L n m (i + ctl (L i) + 1) (addK c s (L i) (cbds L i).1 (cbds L i).2 dg fr w).1 (addK c s (L i) (cbds L i).1 (cbds L i).2 dg fr w).2.1 (addK c s (L i) (cbds L i).1 (cbds L i).2 dg fr w).2.2.1 (addK c s (L i) (cbds L i).1 (cbds L i).2 dg fr w).2.2.2.1 (addK c s (L i) (cbds L i).1 (cbds L i).2 dg fr w).2.2.2.2 = R) ∧ τ 0 44 = -1 ∧ GC 0 c s dg ∧ CG (i + ctl (L i) + 1) (addK c s (L i) (cbds L i).1 (cbds L i).2 dg fr w) ∧ (leafS (L i) → GC 1 (addC c s (L i) (cbds L i).1 (cbds L i).2 dg fr (clv c s)) s 0) ∧ MS τ (addC c s (L i) (cbds L i).1 (cbds L i).2 dg fr (clv c s)) 1 s ∧ P = cM c ∧ F = cN c ∧ W = cW c ∧ P < 24 ∧ (if L i = 94 then w + 1 else w) ≤ 3 ∧ o = opC c 0 s ∧ (insO σ o ↔ 1 ≤ clv c s) := by
  obtain ⟨g1, g2, g3, g4, g5, g6, g7, g8, g9, g10, g11⟩ := cb
  rcases h with hb | ⟨c, s, dg, fr, ⟨a1, a2, a3, a4, a5, a6, a7, a8, a9, a10⟩, hh⟩
  · left
    refine hb.of hn ?_
    by_cases z : bdC σ P w o (L i) ∨ (cbds L i).2 < (cbds L i).1
    · exact Or.inr ⟨i, g1 z⟩
    · exact Or.inl (g2 z)
  · have g : GC 0 c s dg := a3.1
    have hfr : fr ≤ 1 := a3.2.2.1
    have hin : insO σ o ↔ 1 ≤ clv c s := by rw [a10]; exact insO_iff g a4.2.2.2
    have hbad : badC c s (L i) (cbds L i).1 (cbds L i).2 w ↔ (bdC σ P w o (L i) ∨ (cbds L i).2 < (cbds L i).1) := by
      unfold badC bdC
      rw [hin, a6]
      constructor
      · rintro (z | ⟨z1, z2⟩ | z)
        · exact Or.inr z
        · left; right
          refine ⟨z1, ?_⟩
          by_cases y : 1 ≤ clv c s
          · exact Or.inr (by omega)
          · exact Or.inl y
        · exact Or.inl (Or.inl z)
      · rintro ((z | ⟨z1, z2 | z2⟩) | z)
        · exact Or.inr (Or.inr z)
        · exact Or.inr (Or.inl ⟨z1, fun y => z2 y.2⟩)
        · exact Or.inr (Or.inl ⟨z1, fun y => by omega⟩)
        · exact Or.inl z
    have st := cstep_check (L := L) (i := i) (c := c) (s := s) (dg := dg) (fr := fr) (rt := w) hs
    by_cases z : badC c s (L i) (cbds L i).1 (cbds L i).2 w
    · left
      refine ⟨i, hi, ?_, ?_⟩
      · rw [← a1 n (by omega)]
        exact cbu_bad hi (by omega) (st.1 z)
      · rw [g1 (hbad.mp z), a2, if_pos (by decide)]
    · right
      have hP : P < 24 := by
        rcases Nat.lt_or_ge P 24 with y | y
        · exact y
        · exact absurd (hbad.mpr (Or.inl (Or.inl y))) z
      have hcd := cbds_le (fun j j1 j2 => (hdg j j1 j2).2)
      have em : m24 P = cM c := by unfold m24; rw [if_pos hP, a6]
      rw [em] at g3 g4 g5 g6
      obtain ⟨b1, b2⟩ := (hd0 g).mp hh
      have n94 : L i = 94 → w < 3 ∧ 1 ≤ clv c s := fun e => by
        by_cases y : w < 3 ∧ 1 ≤ clv c s
        · exact y
        · exact absurd (Or.inr (Or.inl ⟨e, y⟩)) z
      refine ⟨c, s, dg, fr, cbu_go a1 hi (st.2 z), ?_, g, (a3.check hh hs hcd.1 hcd.2 z (i' := i + ctl (L i) + 1) (by omega)).1, fun hl => (g.add (by omega) b1 b2 hs hcd.1 hcd.2 hfr (fun e => (n94 e).2)).1 hl, ?_, a6, a7, a8, hP, ?_, a10, hin⟩
      · rw [g2 (fun y => z (hbad.mpr y)), a2]
      · refine a4.add g a5 b2 g3 g4 g5 (fun x x1 x2 y hy => g6 x x1 x2 y hy) (fun x x1 x2 => g10 x (by omega) (by omega)) (fun j hj => ?_)
        rw [g10 30 (by omega) (by omega), g10 32 (by omega) (by omega), g10 33 (by omega) (by omega), g10 34 (by omega) (by omega)]
        exact ⟨rfl, rfl, rfl, rfl⟩
      · split
        · have := (n94 (by assumption)).1
          omega
        · exact a9
theorem c_MO_readsCheck (Y : List kd) (d : Nat) {L : Nat → Nat} {n : Nat} {R : Nat ⊕ CT} {σ : sS} {i : Nat} {o : OC} {P F W w : Nat} (h : RQ L n σ i o P F W w) (ht : STc L n R σ i o P F W w) (hd : ∀ q, q ∈ o → q.2.2 = false) (k : Int32 → sS → Prop)
    (hk1 : ∀ σ' i' o' P' F' W' w', RQ L n σ' i' o' P' F' W' w' → SHc L n R σ' i' o' P' F' W' w' → mC σ σ' → i < i' → cst L (n - i) i (0, 0, false, mkC o) = cst L (n - i') i' (hstC o', 0, false, mkC o') → k 1 σ')
    (hk0 : ∀ σ' j, σ' 0 43 = nI j → mC σ σ' → cst L (n - i) i (0, 0, false, mkC o) = some j → k 0 σ') :
    CJ Y (d + 3) y_MO_readsCheck [sR 0 (.inl 6)] σ (rI k) := by
  have hq := h
  obtain ⟨hT, h20, hP, h21, hF, h22, hW, h23, hw, h45, hol, ho, hdt⟩ := hq
  have hn := hT.2.2.2.1
  have hin := hT.2.2.2.2
  refine s_MO_readsCheck_0 Y (d + 2) 0 σ (rI k) ?_
  have stop : (i < n → ¬ sgOK (L i)) → k 0 σ := fun hz => hk0 σ i hT.1 (mC.refl σ) (cst_stop hin (by show (0 : Nat) ≠ 1; omega) (fun hi => (show cgo (0, 0, false, mkC o) (L i) = cbeg (mkC o) (L i) from rfl).trans (cbeg_none (hz hi))))
  refine c_MO_sign Y (d + 2) hT _ (fun hi => ?_) (fun hi => ?_)
  · have l2 := (hT.2.2.1 i hi).2
    have lb : L i < 2 ^ 31 := by omega
    refine c_MO_isInside Y (d + 2) h45 (by omega) ho _ (fun x x1 hx => ?_)
    have go : sgOK (L i) → Jd Y (d + 3) y_MO_readsCheck 66 [(0, sR 0 (.inl 6)), (1, sI (nI (L i))), (2, sI (nI x))] [] σ (rI k) := by
      intro hs
      refine c_MO_begun Y d h hi hs k (fun τ hdg cb => ?_) (fun τ j a1 a2 a3 => hk0 τ j a1 a2 (a3 _))
      have hb := ht.begun hn hi hs hdg cb
      have cm := cb.mC
      obtain ⟨g1, g2, g3, g4, g5, g6, g7, g8, g9, g10, g11⟩ := cb
      have hlen : i + ctl (L i) + 1 ≤ n := by
        by_cases z : ctl (L i) = 0
        · omega
        · have := (hdg (ctl (L i)) (by omega) (Nat.le_refl _)).1
          omega
      have Tτ : TP L n τ (i + ctl (L i) + 1) := hT.kept g9 hlen (g11 42 (by omega) (by omega) (by omega) (by omega)) (g10 29 (by omega) (by omega))
      have τ45 : τ 0 45 = nI o.length := by rw [g11 45 (by omega) (by omega) (by omega) (by omega)]; exact h45
      have τo : ostC τ o := ho.kept (fun j hj => by
        rw [g10 30 (by omega) (by omega), g10 31 (by omega) (by omega), g10 32 (by omega) (by omega), g10 33 (by omega) (by omega), g10 34 (by omega) (by omega)]
        exact ⟨rfl, rfl, rfl, rfl, rfl⟩)
      have hcs := (cst_sign hi (mkC o) hs).2.2 hdg
      have hw' : (if L i = 94 then w + 1 else w) ≤ i + ctl (L i) + 1 := by split <;> omega
      -- a check without checks in it
      have leaf : leafS (L i) → Jd Y (d + 3) y_MO_readsCheck 122 [(0, sR 0 (.inl 6)), (3, sI (nI (m24 P)))] [] τ (rI k) := by
        intro hl
        refine s_MO_readsCheck_122 Y (d + 2) 0 _ τ (rI k) ?_
        refine c_MO_endsCheck Y (d + 2) τ45 (by omega) τo _ (fun σ' b1 b2 b3 b4 => ⟨Or.inr rfl, ?_⟩)
        have hol2 := oset_len o
        refine hk1 σ' (i + ctl (L i) + 1) (oset o) (P + 1) F W (if L i = 94 then w + 1 else w) ⟨Tτ.kept (by rw [b3.2 43 (by omega)]; exact g9) hlen (b3.2 42 (by omega)) (b3.1 29 (by omega) (by omega) (by omega) (by omega) (by omega)), by rw [b3.2 20 (by omega)]; exact g7, by omega, by rw [b3.2 21 (by omega), g11 21 (by omega) (by omega) (by omega) (by omega)]; exact h21, by omega, by rw [b3.2 22 (by omega), g11 22 (by omega) (by omega) (by omega) (by omega)]; exact h22, by omega, by rw [b3.2 23 (by omega)]; exact g8, hw', b1, by omega, b2, fun q hq => oset_dep hd q (List.mem_of_mem_tail hq)⟩ ?_ (cm.trans b3.mC) (by omega) ?_
        · rcases hb with hb | ⟨c, s, dg, fr, e1, e2, e3, e4, e5, e6, e7, e8, e9, e10, e11, e12, e13⟩
          · exact Or.inl (hb.of hn (Or.inl (b3.2 44 (by omega))))
          · rw [addK_leaf hl] at e1 e4
            refine Or.inr ⟨_, _, 0, ⟨e1, by rw [b3.2 44 (by omega)]; exact e2, e4, ?_, fun z => absurd rfl z, by rw [e7]; rfl, e8, e9, e11, ?_⟩, Nat.le_add_left 1 _⟩
            · have em : m24 P = cM c := by unfold m24; rw [if_pos e10, e7]
              refine b4 _ s (by rw [opC_add e3]; exact e12) (e5 hl) e6 (fun q r es => ?_)
              subst es
              have hq : q < cM c := (e3.2.2.2.1.mem q List.mem_cons_self).1
              have e10' : cF (addC c (q :: r) (L i) (cbds L i).1 (cbds L i).2 dg fr (clv c (q :: r))) 10 q = cF c 10 q + 1 := by
                show (if q = cM c then 0 else if (q :: r).head? = some q then cF c 10 q + 1 else cF c 10 q) = _
                rw [if_neg (by omega), if_pos (show (q :: r).head? = some q from rfl)]
              rw [e10', Nat.add_sub_cancel, add_cch e3 _ _ _ _ _ hq (Or.inr ⟨rfl, rfl⟩), add_new e3, em]
            · rw [← oset_cset (e5 hl), opC_add e3, e12]
        · rw [hcs.1 hl, cend_oset hd]
      -- one with checks in it
      have opn : ¬ leafS (L i) → CJ Y (d + 2) y_MO_opens [sR 0 (.inl 6), sI (nI (m24 P)), sI (nI (L i)), sI (nI x)] τ (rN fun σ1 => ((1 : Int32) = 0 ∨ (1 : Int32) = 1) ∧ (rI k) (some (sI 1)) σ1) := by
        intro hl
        refine c_MO_opens Y (d + 2) (o := o.map (fun q => (q.1, q.2.1))) (by rw [List.length_map]; exact τ45) (by rw [List.length_map]; omega) (m24 P) (L i) x x1 _ (fun σ' b1 b2 b3 b4 b5 b6 b7 b8 b9 => ⟨Or.inr rfl, ?_⟩)
        rw [List.length_map] at b1 b2 b3 b4 b5 b6 b7
        have hOS : openS (L i) := by
          unfold sgOK at hs
          unfold leafS at hl
          unfold openS
          omega
        have low : ∀ j, j < o.length → σ' 30 j = τ 30 j ∧ σ' 31 j = τ 31 j ∧ σ' 32 j = τ 32 j ∧ σ' 33 j = τ 33 j ∧ σ' 34 j = τ 34 j := fun j hj => ⟨b7 30 (by omega) (by omega) j (by omega), b7 31 (by omega) (by omega) j (by omega), b7 32 (by omega) (by omega) j (by omega), b7 33 (by omega) (by omega) j (by omega), b7 34 (by omega) (by omega) j (by omega)⟩
        have hmC : mC τ σ' := ⟨fun y y0 y1 y2 => b8 y y0 (by omega), fun j j1 j2 => b9 j (by omega)⟩
        refine hk1 σ' (i + ctl (L i) + 1) ((L i, 0, false) :: o) (P + 1) F W (if L i = 94 then w + 1 else w) ⟨Tτ.kept (by rw [b9 43 (by omega)]; exact g9) hlen (b9 42 (by omega)) (b8 29 (by omega) (by omega)), by rw [b9 20 (by omega)]; exact g7, by omega, by rw [b9 21 (by omega), g11 21 (by omega) (by omega) (by omega) (by omega)]; exact h21, by omega, by rw [b9 22 (by omega), g11 22 (by omega) (by omega) (by omega) (by omega)]; exact h22, by omega, by rw [b9 23 (by omega)]; exact g8, hw', b1, by rw [List.length_cons]; omega, ⟨⟨b3, hOS, fun _ => ⟨b5, Nat.zero_le _, fun z => absurd z (by show ¬ (0 : Nat) = 1; omega), rfl⟩, fun _ => ⟨0, Nat.zero_le _, b5⟩, ⟨m24 P, m24_le P, b2⟩, ⟨0, by omega, b4, ⟨fun z => absurd z (by show ¬ (0 : Nat) % 2 = 1; decide), fun z => absurd z (by show ¬ false = true; decide)⟩⟩, ⟨x, x1, b6⟩⟩, τo.kept low⟩, hd⟩ ?_ (cm.trans hmC) (by omega) ?_
        · rcases hb with hb | ⟨c, s, dg, fr, e1, e2, e3, e4, e5, e6, e7, e8, e9, e10, e11, e12, e13⟩
          · exact Or.inl (hb.of hn (Or.inl (b9 44 (by omega))))
          · rw [addK_open hl] at e1 e4
            have em : m24 P = cM c := by unfold m24; rw [if_pos e10, e7]
            have es : o.length = s.length := by rw [e12, opC_len]
            have a0 : cF (addC c s (L i) (cbds L i).1 (cbds L i).2 dg fr (clv c s)) 0 (cM c) = L i := if_pos rfl
            have a9 : cF (addC c s (L i) (cbds L i).1 (cbds L i).2 dg fr (clv c s)) 9 (cM c) = 0 := if_pos rfl
            have a10 : cF (addC c s (L i) (cbds L i).1 (cbds L i).2 dg fr (clv c s)) 10 (cM c) = 0 := if_pos rfl
            refine Or.inr ⟨_, _, 0, ⟨e1, by rw [b9 44 (by omega)]; exact e2, e4, ?_, fun z => absurd rfl z, by rw [e7]; rfl, e8, e9, e11, ?_⟩, Nat.le_add_left 1 _⟩
            · have ecl : clv (addC c s (L i) (cbds L i).1 (cbds L i).2 dg fr (clv c s)) s = clv c s := by
                cases s with
                | nil => rfl
                | cons p r =>
                  have hp : p < cM c := (e3.2.2.2.1.mem p List.mem_cons_self).1
                  show cF (addC c (p :: r) (L i) (cbds L i).1 (cbds L i).2 dg fr (clv c (p :: r))) 11 p + (if cF (addC c (p :: r) (L i) (cbds L i).1 (cbds L i).2 dg fr (clv c (p :: r))) 0 p = 123 ∨ cF (addC c (p :: r) (L i) (cbds L i).1 (cbds L i).2 dg fr (clv c (p :: r))) 0 p = 64 then 1 else 0) = _
                  rw [aC_old (by omega) 0 (by omega) (by omega), show cF (addC c (p :: r) (L i) (cbds L i).1 (cbds L i).2 dg fr (clv c (p :: r))) 11 p = cF c 11 p from if_neg (by omega)]
                  rfl
              refine e6.push a10 (if_pos rfl) (if_pos rfl) a9 (by rw [← es, b2, em]) (by rw [← es]; exact b4) ?_ (fun y y1 y2 => b8 y (by omega) (by omega)) (fun j hj => ?_)
              · rw [← es, b6, ecl]
                by_cases z : 1 ≤ clv c s
                · rw [if_pos z]
                  have : x = 1 := hx.mpr (e13.mpr z)
                  rw [this]
                · rw [if_neg z]
                  have : x ≠ 1 := fun y => z (e13.mp (hx.mp y))
                  have : x = 0 := by omega
                  rw [this]
              · obtain ⟨l0, l1, l2, l3, l4⟩ := low j (by omega)
                exact ⟨l0, l2, l3, l4⟩
            · show _ = (cF (addC c s (L i) (cbds L i).1 (cbds L i).2 dg fr (clv c s)) 0 (cM c), (if cF (addC c s (L i) (cbds L i).1 (cbds L i).2 dg fr (clv c s)) 0 (cM c) = 123 then 0 else cF (addC c s (L i) (cbds L i).1 (cbds L i).2 dg fr (clv c s)) 10 (cM c) - 0), decide (cF (addC c s (L i) (cbds L i).1 (cbds L i).2 dg fr (clv c s)) 0 (cM c) = 123 ∧ cF (addC c s (L i) (cbds L i).1 (cbds L i).2 dg fr (clv c s)) 9 (cM c) ≠ 0)) :: opC (addC c s (L i) (cbds L i).1 (cbds L i).2 dg fr (clv c s)) 1 s
              rw [opC_add e3, a0, a9, a10, e12, decide_eq_false (fun z => z.2 rfl)]
              congr 2
              split <;> rfl
        · rw [hcs.2 hl]
          congr 1
          unfold opnC
          by_cases z : L i = 123
          · rw [if_pos z]
            show _ = ((if L i = 123 then (if false = true then 5 else 3) else 0), 0, false, (if L i = 123 then 123 :: mkC o else if L i = 47 ∧ 0 = 0 then 47 :: mkC o else mkC o))
            rw [if_pos z, if_pos z]
            rfl
          · rw [if_neg z]
            show _ = ((if L i = 123 then (if false = true then 5 else 3) else 0), 0, false, (if L i = 123 then 123 :: mkC o else if L i = 47 ∧ 0 = 0 then 47 :: mkC o else mkC o))
            rw [if_neg z, if_neg z]
            by_cases y : L i = 47
            · rw [if_pos y, if_pos ⟨y, rfl⟩]
            · rw [if_neg y, if_neg (fun u => y u.1)]
      refine s_MO_readsCheck_104 Y (d + 2) 0 _ _ _ τ (rI k) ?_
      rw [z_eq lb 42 (by omega), z_eq lb 35 (by omega), z_eq lb 94 (by omega)]
      refine ⟨fun e => leaf (Or.inl e), fun n42 => ⟨fun e => leaf (Or.inr (Or.inl e)), fun n35 => ⟨fun n94 => opn ?_, fun e => leaf (Or.inr (Or.inr e))⟩⟩⟩
      rintro (z | z | z)
      · exact n42 z
      · exact n35 z
      · exact n94 z
    rw [z_eq lb 42 (by omega), z_eq lb 35 (by omega), z_eq lb 33 (by omega), z_eq lb 126 (by omega), z_eq lb 123 (by omega), z_eq lb 64 (by omega), z_eq lb 38 (by omega), z_eq lb 47 (by omega), z_eq lb 94 (by omega)]
    refine ⟨fun e => go (by unfold sgOK; omega), fun n1 => ⟨fun e => go (by unfold sgOK; omega), fun n2 => ⟨fun e => go (by unfold sgOK; omega), fun n3 => ⟨fun e => go (by unfold sgOK; omega), fun n4 => ⟨fun e => go (by unfold sgOK; omega), fun n5 => ⟨fun e => go (by unfold sgOK; omega), fun n6 => ⟨fun e => go (by unfold sgOK; omega), fun n7 => ⟨fun e => go (by unfold sgOK; omega), fun n8 => ⟨fun e => go (by unfold sgOK; omega), fun n9 => ⟨Or.inl rfl, stop (fun _ z => ?_)⟩⟩⟩⟩⟩⟩⟩⟩⟩⟩
    unfold sgOK at z
    omega
  · refine c_MO_isInside Y (d + 2) h45 (by omega) ho _ (fun x x1 hx => ?_)
    exact ⟨fun e => absurd e (by decide), fun _ => ⟨fun e => absurd e (by decide), fun _ => ⟨fun e => absurd e (by decide), fun _ => ⟨fun e => absurd e (by decide), fun _ => ⟨fun e => absurd e (by decide), fun _ => ⟨fun e => absurd e (by decide), fun _ => ⟨fun e => absurd e (by decide), fun _ => ⟨fun e => absurd e (by decide), fun _ => ⟨fun e => absurd e (by decide), fun _ => ⟨Or.inl rfl, stop (fun z => by omega)⟩⟩⟩⟩⟩⟩⟩⟩⟩⟩
