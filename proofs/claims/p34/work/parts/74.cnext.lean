/-! checks told in letters: what comes next, where all letters go on -/
theorem cst_good {L : Nat → Nat} {n i : Nat} {a : CA} (hi : i < n) (h : cst L (n - i) i a = none) : ∃ b, cgo a (L i) = some b ∧ cst L (n - (i + 1)) (i + 1) b = none := by
  cases z : cgo a (L i) with
  | none =>
    rw [show n - i = (n - (i + 1)) + 1 by omega] at h
    unfold cst at h
    rw [z] at h
    cases h
  | some b =>
    rw [cst_step hi z] at h
    exact ⟨b, rfl, h⟩
theorem clast_good {s : List Nat} {c : Nat} {b : CA} (h : clast s c = some b) : ((c = 60 ∨ c = 61) ∧ b = (6, 2, false, s)) ∨ (c = 125 ∧ b = cend s.tail) := by
  unfold clast at h
  split at h
  · cases h; exact Or.inl ⟨by assumption, rfl⟩
  · split at h
    · cases h; exact Or.inr ⟨by assumption, rfl⟩
    · cases h
theorem cbeg_good {s : List Nat} {c : Nat} {b : CA} (h : cbeg s c = some b) : sgOK c ∧ (c = 42 ∨ c = 94 → b = cend s) ∧ (c = 35 → b = (2, 4, false, s)) ∧ (c = 64 → b = (2, 2, true, s)) ∧ (c = 33 ∨ c = 126 ∨ c = 38 → b = (0, 0, false, s)) ∧ (c = 47 → b = (0, 0, false, 47 :: s)) ∧ (c = 123 → b = (3, 0, false, 123 :: s)) := by
  unfold sgOK
  unfold cbeg at h
  split at h
  · cases h
    refine ⟨by omega, fun _ => rfl, fun _ => by omega, fun _ => by omega, fun _ => by omega, fun _ => by omega, fun _ => by omega⟩
  · split at h
    · cases h
      refine ⟨by omega, fun _ => by omega, fun _ => rfl, fun _ => by omega, fun _ => by omega, fun _ => by omega, fun _ => by omega⟩
    · split at h
      · cases h
        refine ⟨by omega, fun _ => by omega, fun _ => by omega, fun _ => rfl, fun _ => by omega, fun _ => by omega, fun _ => by omega⟩
      · split at h
        · cases h
          refine ⟨by omega, fun _ => by omega, fun _ => by omega, fun _ => by omega, fun _ => rfl, fun _ => by omega, fun _ => by omega⟩
        · split at h
          · cases h
            refine ⟨by omega, fun _ => by omega, fun _ => by omega, fun _ => by omega, fun _ => by omega, fun _ => rfl, fun _ => by omega⟩
          · split at h
            · cases h
              refine ⟨by omega, fun _ => by omega, fun _ => by omega, fun _ => by omega, fun _ => by omega, fun _ => by omega, fun _ => rfl⟩
            · cases h
/-- behind a check's sign and its digits -/
def opnC (sg : Nat) (S : List Nat) : CA := if sg = 123 then (3, 0, false, 123 :: S) else if sg = 47 then (0, 0, false, 47 :: S) else (0, 0, false, S)
theorem c_next {L : Nat → Nat} {n i : Nat} {c : CT} {s : List Nat} {dg : Nat} (h : GC 0 c s dg) (hi : i < n) (hst : cst L (n - i) i (stC c s dg) = none) :
    (L i = 125 → ∃ q r, s = q :: r ∧ cF c 0 q = 123 ∧ dg = 0 ∧ cst L (n - (i + 1)) (i + 1) (stC c (cset c r) 0) = none) ∧
    (L i = 46 → i + 1 < n ∧ isN (L (i + 1)) = true ∧ ∃ q r, s = q :: r ∧ cF c 0 q = 123 ∧ dg = 0 ∧ cF c 9 q = 0 ∧ cst L (n - (i + 2)) (i + 2) (0, 0, false, mkC (opC c 0 s)) = none) ∧
    (L i = 60 ∨ L i = 61 → i + 2 < n ∧ isN (L (i + 1)) = true ∧ isN (L (i + 2)) = true ∧ ∃ q r, s = q :: r ∧ cF c 0 q = 123 ∧ dg = 0 ∧ cst L (n - (i + 3)) (i + 3) (5, 0, false, mkC (opC c 0 s)) = none) ∧
    (isN (L i) = true → ∃ q r, s = q :: r ∧ cF c 0 q = 123 ∧ dg = 0 ∧ cF c 9 q = 0 ∧ cst L (n - (i + 1)) (i + 1) (0, 0, false, mkC (opC c 0 s)) = none) ∧
    (sgOK (L i) → hdC c s dg = 0 ∧ i + ctl (L i) < n ∧ (∀ j, 1 ≤ j → j ≤ ctl (L i) → isD (L (i + j)) = true) ∧ (leafS (L i) → cst L (n - (i + ctl (L i) + 1)) (i + ctl (L i) + 1) (cend (mkC (opC c 0 s))) = none) ∧ (¬ leafS (L i) → cst L (n - (i + ctl (L i) + 1)) (i + ctl (L i) + 1) (opnC (L i) (mkC (opC c 0 s))) = none)) ∧
    (L i = 125 ∨ L i = 46 ∨ L i = 60 ∨ L i = 61 ∨ isN (L i) = true ∨ sgOK (L i)) := by
  have last : ∀ {b : CA}, clast (mkC (opC c 0 s)) (L i) = some b → cst L (n - (i + 1)) (i + 1) b = none → hdC c s dg = 3 ∨ hdC c s dg = 5 → (L i = 125 ∧ ∃ q r, s = q :: r ∧ cF c 0 q = 123 ∧ dg = 0 ∧ cst L (n - (i + 1)) (i + 1) (stC c (cset c r) 0) = none) ∨ ((L i = 60 ∨ L i = 61) ∧ i + 2 < n ∧ isN (L (i + 1)) = true ∧ isN (L (i + 2)) = true ∧ ∃ q r, s = q :: r ∧ cF c 0 q = 123 ∧ dg = 0 ∧ cst L (n - (i + 3)) (i + 3) (5, 0, false, mkC (opC c 0 s)) = none) := by
    intro b h1 h2 h3
    exact (by
      obtain ⟨q, r, e1, e2, e3, -⟩ := hd35 h h3
      rcases clast_good h1 with ⟨g1, g2⟩ | ⟨g1, g2⟩
      · rw [g2] at h2
        obtain ⟨a1, a2, a3, a4⟩ := nam_good (by omega) h2
        exact Or.inr ⟨g1, by omega, a2, a3, q, r, e1, e2, e3, a4⟩
      · refine Or.inl ⟨g1, q, r, e1, e2, e3, ?_⟩
        subst e1
        subst e3
        rw [stC_close h e2, ← g2]
        exact h2)
  unfold stC at hst
  obtain ⟨b, g1, g2⟩ := cst_good hi hst
  have nN : ∀ {x : Nat}, x = L i → isN x = true → 97 ≤ L i ∧ L i ≤ 101 := fun e z => by rw [e] at z; exact isN_iff.mp z
  rcases hd_all h with e | ⟨e, -⟩ | e | e
  · rw [e] at g1
    have g1 : cbeg (mkC (opC c 0 s)) (L i) = some b := g1
    obtain ⟨k0, k1, k2, k3, k4, k5, k6⟩ := cbeg_good g1
    have k0' := k0
    unfold sgOK at k0
    refine ⟨fun z => by omega, fun z => by omega, fun z => by omega, fun z => by have := nN rfl z; omega, fun _ => ⟨e, ?_⟩, by right; right; right; right; right; exact k0'⟩
    unfold leafS ctl opnC
    by_cases z35 : L i = 35
    · rw [k2 z35] at g2
      obtain ⟨d1, d2⟩ := num_good false _ 3 (i + 1) (by omega) g2
      rw [if_pos z35]
      refine ⟨by have := (d1 3 (by omega)).1; omega, fun j j1 j4 => ?_, fun _ => ?_, fun y => by omega⟩
      · have := (d1 (j - 1) (by omega)).2
        rw [show i + 1 + (j - 1) = i + j by omega] at this
        exact this
      · rw [show i + 1 + 3 + 1 = i + 4 + 1 by omega] at d2
        exact d2
    · rw [if_neg z35, if_neg (by omega)]
      by_cases z64 : L i = 64
      · rw [k3 z64] at g2
        obtain ⟨d1, d2⟩ := num_good true _ 1 (i + 1) (by omega) g2
        rw [if_pos (by omega)]
        refine ⟨by have := (d1 1 (by omega)).1; omega, fun j j1 j4 => ?_, fun y => by omega, fun _ => ?_⟩
        · have := (d1 (j - 1) (by omega)).2
          rw [show i + 1 + (j - 1) = i + j by omega] at this
          exact this
        · rw [show i + 1 + 1 + 1 = i + 2 + 1 by omega] at d2
          rw [if_neg (by omega), if_neg (by omega)]
          exact d2
      · rw [if_neg (by omega)]
        refine ⟨hi, fun j j1 j4 => by omega, fun y => ?_, fun y => ?_⟩
        · rw [k1 (by omega)] at g2
          exact g2
        · by_cases z123 : L i = 123
          · rw [if_pos z123, ← k6 z123]
            exact g2
          · rw [if_neg z123]
            by_cases z47 : L i = 47
            · rw [if_pos z47, ← k5 z47]
              exact g2
            · rw [if_neg z47, ← k4 (by omega)]
              exact g2
  · rw [e] at g1
    cases g1
  · rw [e] at g1
    have g1 : (if L i = 46 then some (4, 0, false, mkC (opC c 0 s)) else if isN (L i) then some (0, 0, false, mkC (opC c 0 s)) else clast (mkC (opC c 0 s)) (L i)) = some b := g1
    obtain ⟨q, r, e1, e2, e3, e4⟩ := hd35 h (Or.inl e)
    have e4 := e4 e
    by_cases z46 : L i = 46
    · rw [if_pos z46] at g1
      cases g1
      rw [cst_nam4 (by omega)] at g2
      by_cases y : i + 1 < n ∧ isN (L (i + 1)) = true
      · rw [if_pos y] at g2
        refine ⟨fun z => by omega, fun _ => ⟨y.1, y.2, q, r, e1, e2, e3, e4, g2⟩, fun z => by omega, fun z => by have := nN rfl z; omega, fun z => by unfold sgOK at z; omega, Or.inr (Or.inl z46)⟩
      · rw [if_neg y] at g2
        cases g2
    · rw [if_neg z46] at g1
      by_cases zN : isN (L i) = true
      · rw [if_pos zN] at g1
        cases g1
        have := isN_iff.mp zN
        refine ⟨fun z => by omega, fun z => by omega, fun z => by omega, fun _ => ⟨q, r, e1, e2, e3, e4, g2⟩, fun z => by unfold sgOK at z; omega, by right; right; right; right; left; exact zN⟩
      · rw [if_neg zN] at g1
        rcases last g1 g2 (Or.inl e) with ⟨x1, x2⟩ | ⟨x1, x2⟩
        · exact ⟨fun _ => x2, fun z => by omega, fun z => by omega, fun z => absurd z zN, fun z => by unfold sgOK at z; omega, Or.inl x1⟩
        · exact ⟨fun z => by omega, fun z => by omega, fun _ => x2, fun z => absurd z zN, fun z => by unfold sgOK at z; omega, by omega⟩
  · rw [e] at g1
    have g1 : clast (mkC (opC c 0 s)) (L i) = some b := g1
    rcases last g1 g2 (Or.inr e) with ⟨x1, x2⟩ | ⟨x1, x2⟩
    · exact ⟨fun _ => x2, fun z => by omega, fun z => by omega, fun z => by have := nN rfl z; omega, fun z => by unfold sgOK at z; omega, Or.inl x1⟩
    · exact ⟨fun z => by omega, fun z => by omega, fun _ => x2, fun z => by have := nN rfl z; omega, fun z => by unfold sgOK at z; omega, by omega⟩
theorem addK_leaf {c : CT} {s : List Nat} {sg lo hi dg fr rt : Nat} (hl : leafS sg) : addK c s sg lo hi dg fr rt = (addC c s sg lo hi dg fr (clv c s), cset (addC c s sg lo hi dg fr (clv c s)) s, 0, 0, if sg = 94 then rt + 1 else rt) := by
  unfold addK
  rw [if_pos (pB_t hl)]
theorem addK_open {c : CT} {s : List Nat} {sg lo hi dg fr rt : Nat} (hl : ¬ leafS sg) : addK c s sg lo hi dg fr rt = (addC c s sg lo hi dg fr (clv c s), cM c :: s, 0, 0, if sg = 94 then rt + 1 else rt) := by
  unfold addK
  rw [if_neg (by rw [pB_f hl]; decide)]
/-- what is told so far is well told -/
def CG (i : Nat) (x : CS) : Prop := GC 0 x.1 x.2.1 x.2.2.1 ∧ 3 * cW x.1 ≤ i ∧ x.2.2.2.1 ≤ 1 ∧ x.2.2.2.2 ≤ i
theorem CG.check {i : Nat} {c : CT} {s : List Nat} {dg fr rt sg lo hi : Nat} (h : CG i (c, s, dg, fr, rt)) (hh : hdC c s dg = 0) (hsg : sgOK sg) (hlo : lo ≤ 99) (hhi : hi ≤ 99) (hb : ¬ badC c s sg lo hi rt) {i' : Nat} (hi' : i < i') : CG i' (addK c s sg lo hi dg fr rt) ∧ (leafS sg → stC (addK c s sg lo hi dg fr rt).1 (addK c s sg lo hi dg fr rt).2.1 (addK c s sg lo hi dg fr rt).2.2.1 = cend (mkC (opC c 0 s))) ∧ (¬ leafS sg → stC (addK c s sg lo hi dg fr rt).1 (addK c s sg lo hi dg fr rt).2.1 (addK c s sg lo hi dg fr rt).2.2.1 = opnC sg (mkC (opC c 0 s))) := by
  obtain ⟨g1, g2, g3, g4⟩ := h
  have g1 : GC 0 c s dg := g1
  have g2 : 3 * cW c ≤ i := g2
  have g3 : fr ≤ 1 := g3
  have g4 : rt ≤ i := g4
  obtain ⟨b1, b2⟩ := (hd0 g1).mp hh
  have nb1 : cM c < 24 := by
    rcases Nat.lt_or_ge (cM c) 24 with y | y
    · exact y
    · exact absurd (Or.inr (Or.inr y)) hb
  have nb2 : sg = 94 → 1 ≤ clv c s := fun e => by
    rcases Nat.lt_or_ge (clv c s) 1 with y | y
    · exact absurd (Or.inr (Or.inl ⟨e, fun z => by omega⟩)) hb
    · exact y
  obtain ⟨a1, a2⟩ := g1.add nb1 b1 b2 hsg hlo hhi g3 nb2
  have hrt : (if sg = 94 then rt + 1 else rt) ≤ i' := by split <;> omega
  have hw : 3 * cW c ≤ i' := by omega
  by_cases hl : leafS sg
  · rw [addK_leaf hl]
    exact ⟨⟨(a1 hl).settle, hw, Nat.zero_le _, hrt⟩, fun _ => stC_leaf g1 (a1 hl), fun y => absurd hl y⟩
  · rw [addK_open hl]
    exact ⟨⟨a2 hl, hw, Nat.zero_le _, hrt⟩, fun y => absurd y hl, fun _ => stC_open g1 sg lo hi fr (clv c s)⟩
theorem CG.field {i : Nat} {c : CT} {q : Nat} {r : List Nat} {fr rt : Nat} (h : CG i (c, q :: r, 0, fr, rt)) (z : cF c 0 q = 123) (h9 : cF c 9 q = 0) {d fr' : Nat} (hd : 1 ≤ d ∧ d ≤ 5) (hf : fr' ≤ 1) (hn : ¬ bitC c q d) {i' : Nat} (hi' : i < i') : CG i' (fldC c q d, q :: r, d, fr', rt) := by
  obtain ⟨g1, g2, g3, g4⟩ := h
  have g2 : 3 * cW c ≤ i := g2
  have g4 : rt ≤ i := g4
  exact ⟨GC.field g1 z h9 hd hn, (show 3 * cW c ≤ i' by omega), hf, (show rt ≤ i' by omega)⟩
theorem CG.dep {i : Nat} {c : CT} {q : Nat} {r : List Nat} {fr rt : Nat} (h : CG i (c, q :: r, 0, fr, rt)) (z : cF c 0 q = 123) (hi : i < 94) {sg one other : Nat} (hsg : sg = 60 ∨ sg = 61) (h1 : 1 ≤ one ∧ one ≤ 5) (h2 : 1 ≤ other ∧ other ≤ 5) : CG (i + 3) (depC c q sg one other, q :: r, 0, fr, rt) := by
  obtain ⟨g1, g2, g3, g4⟩ := h
  have g2 : 3 * cW c ≤ i := g2
  have g4 : rt ≤ i := g4
  exact ⟨GC.dep g1 z hsg h1 h2 (by omega), (show 3 * (cW c + 1) ≤ i + 3 by omega), g3, (show rt ≤ i + 3 by omega)⟩
theorem CG.close {i : Nat} {c : CT} {q : Nat} {r : List Nat} {fr rt : Nat} (h : CG i (c, q :: r, 0, fr, rt)) (z : cF c 0 q = 123) : CG (i + 1) (c, cset c r, 0, fr, rt) := by
  obtain ⟨g1, g2, g3, g4⟩ := h
  have g2 : 3 * cW c ≤ i := g2
  have g4 : rt ≤ i := g4
  exact ⟨(GC.close g1 z).settle, (show 3 * cW c ≤ i + 1 by omega), g3, (show rt ≤ i + 1 by omega)⟩
