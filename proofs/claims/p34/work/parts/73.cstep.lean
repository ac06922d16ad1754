/-! checks told in letters: what they tell -/
abbrev CS : Type := CT × List Nat × Nat × Nat × Nat
def cbds (L : Nat → Nat) (i : Nat) : Nat × Nat := if L i = 35 then (10 * (L (i + 1) - 48) + (L (i + 2) - 48), 10 * (L (i + 3) - 48) + (L (i + 4) - 48)) else if L i = 64 then (L (i + 1) - 48, L (i + 2) - 48) else (0, 0)
def ctl (sg : Nat) : Nat := if sg = 35 then 4 else if sg = 46 then 1 else if sg = 60 ∨ sg = 61 ∨ sg = 64 then 2 else 0
def tp : List Nat → Nat
  | [] => 0
  | q :: _ => q
def bitC (c : CT) (q d : Nat) : Prop := cF c 7 q / 2 ^ d % 2 = 1
def badC (c : CT) (s : List Nat) (sg lo hi rt : Nat) : Prop := hi < lo ∨ (sg = 94 ∧ ¬ (rt < 3 ∧ 1 ≤ clv c s)) ∨ 24 ≤ cM c
noncomputable def addK (c : CT) (s : List Nat) (sg lo hi dg fr rt : Nat) : CS := (addC c s sg lo hi dg fr (clv c s), (if pB (leafS sg) = true then cset (addC c s sg lo hi dg fr (clv c s)) s else cM c :: s), 0, 0, if sg = 94 then rt + 1 else rt)
noncomputable def cstep (L : Nat → Nat) (i : Nat) (c : CT) (s : List Nat) (dg fr rt : Nat) : Option CS :=
  if L i = 125 then some (c, cset c s.tail, dg, fr, rt)
  else if L i = 46 then (if pB (bitC c (tp s) (L (i + 1) - 96)) = true then none else some (fldC c (tp s) (L (i + 1) - 96), s, L (i + 1) - 96, 1, rt))
  else if L i = 60 ∨ L i = 61 then (if pB (bitC c (tp s) (L (i + 1) - 96) ∧ bitC c (tp s) (L (i + 2) - 96)) = true then some (depC c (tp s) (L i) (L (i + 1) - 96) (L (i + 2) - 96), s, dg, fr, rt) else none)
  else if isN (L i) = true then (if pB (bitC c (tp s) (L i - 96)) = true then none else some (fldC c (tp s) (L i - 96), s, L i - 96, 0, rt))
  else if pB (badC c s (L i) (cbds L i).1 (cbds L i).2 rt) = true then none else some (addK c s (L i) (cbds L i).1 (cbds L i).2 dg fr rt)
/-- the place of the first thing that is not as it must be, or the check -/
noncomputable def cbu (L : Nat → Nat) (n : Nat) : Nat → Nat → CT → List Nat → Nat → Nat → Nat → Nat ⊕ CT
  | 0, _, c, _, _, _, _ => .inr c
  | m + 1, i, c, s, dg, fr, rt => if n ≤ i then .inr c else match cstep L i c s dg fr rt with
    | none => .inl i
    | some x => cbu L n m (i + ctl (L i) + 1) x.1 x.2.1 x.2.2.1 x.2.2.2.1 x.2.2.2.2
theorem cbu_any (L : Nat → Nat) (n : Nat) : ∀ m m' i c s dg fr rt, n ≤ i + m → n ≤ i + m' → cbu L n m i c s dg fr rt = cbu L n m' i c s dg fr rt
  | 0, 0, i, c, s, dg, fr, rt, _, _ => rfl
  | 0, m' + 1, i, c, s, dg, fr, rt, h, _ => by
    unfold cbu
    rw [if_pos (by omega)]
  | m + 1, 0, i, c, s, dg, fr, rt, _, h => by
    unfold cbu
    rw [if_pos (by omega)]
  | m + 1, m' + 1, i, c, s, dg, fr, rt, h1, h2 => by
    unfold cbu
    cases cstep L i c s dg fr rt with
    | none => rfl
    | some x =>
      show (if n ≤ i then _ else cbu L n m (i + ctl (L i) + 1) _ _ _ _ _) = (if n ≤ i then _ else cbu L n m' (i + ctl (L i) + 1) _ _ _ _ _)
      rw [cbu_any L n m m' _ _ _ _ _ _ (by omega) (by omega)]
theorem cbu_bad {L : Nat → Nat} {n m i : Nat} {c : CT} {s : List Nat} {dg fr rt : Nat} (h : i < n) (hm : n ≤ i + m) (e : cstep L i c s dg fr rt = none) : cbu L n m i c s dg fr rt = .inl i := by
  obtain ⟨m', rfl⟩ : ∃ m', m = m' + 1 := ⟨m - 1, by omega⟩
  unfold cbu
  rw [if_neg (by omega), e]
theorem cbu_go {L : Nat → Nat} {n i : Nat} {c : CT} {s : List Nat} {dg fr rt : Nat} {R : Nat ⊕ CT} (hR : ∀ m, n ≤ i + m → cbu L n m i c s dg fr rt = R) (h : i < n) {c' : CT} {s' : List Nat} {dg' fr' rt' : Nat} (e : cstep L i c s dg fr rt = some (c', s', dg', fr', rt')) : ∀ m, n ≤ i + ctl (L i) + 1 + m → cbu L n m (i + ctl (L i) + 1) c' s' dg' fr' rt' = R := by
  intro m hm
  have := hR (ctl (L i) + 1 + m) (by omega)
  have e2 : ctl (L i) + 1 + m = ctl (L i) + m + 1 := by omega
  rw [e2] at this
  unfold cbu at this
  rw [if_neg (by omega), e] at this
  rw [← this]
  exact cbu_any L n _ _ _ _ _ _ _ _ hm (by omega)
/-! letters that must come -/
theorem cst_num {L : Nat → Nat} {n i : Nat} (hi : i ≤ n) (k : Nat) (ld : Bool) (S : List Nat) : cst L (n - i) i (2, k, ld, S) = if i < n ∧ isD (L i) = true then cst L (n - (i + 1)) (i + 1) (if k - 1 = 0 then (if ld then (0, 0, false, S) else cend S) else (2, k - 1, ld, S)) else some i := by
  have e : cgo (2, k, ld, S) (L i) = if isD (L i) = true then some (if k - 1 = 0 then (if ld then (0, 0, false, S) else cend S) else (2, k - 1, ld, S)) else none := rfl
  by_cases z : i < n ∧ isD (L i) = true
  · rw [if_pos z]
    rw [if_pos z.2] at e
    exact cst_step z.1 e
  · rw [if_neg z]
    refine cst_stop hi (by show (2 : Nat) ≠ 1; omega) (fun h => ?_)
    rw [e, if_neg (fun y => z ⟨h, y⟩)]
theorem cst_nam6 {L : Nat → Nat} {n i : Nat} (hi : i ≤ n) (k : Nat) (ld : Bool) (S : List Nat) : cst L (n - i) i (6, k, ld, S) = if i < n ∧ isN (L i) = true then cst L (n - (i + 1)) (i + 1) (if k - 1 = 0 then (5, 0, false, S) else (6, k - 1, false, S)) else some i := by
  have e : cgo (6, k, ld, S) (L i) = if isN (L i) = true then some (if k - 1 = 0 then (5, 0, false, S) else (6, k - 1, false, S)) else none := rfl
  by_cases z : i < n ∧ isN (L i) = true
  · rw [if_pos z]
    rw [if_pos z.2] at e
    exact cst_step z.1 e
  · rw [if_neg z]
    refine cst_stop hi (by show (6 : Nat) ≠ 1; omega) (fun h => ?_)
    rw [e, if_neg (fun y => z ⟨h, y⟩)]
theorem cst_nam4 {L : Nat → Nat} {n i : Nat} (hi : i ≤ n) (k : Nat) (ld : Bool) (S : List Nat) : cst L (n - i) i (4, k, ld, S) = if i < n ∧ isN (L i) = true then cst L (n - (i + 1)) (i + 1) (0, 0, false, S) else some i := by
  have e : cgo (4, k, ld, S) (L i) = if isN (L i) = true then some (0, 0, false, S) else none := rfl
  by_cases z : i < n ∧ isN (L i) = true
  · rw [if_pos z]
    rw [if_pos z.2] at e
    exact cst_step z.1 e
  · rw [if_neg z]
    refine cst_stop hi (by show (4 : Nat) ≠ 1; omega) (fun h => ?_)
    rw [e, if_neg (fun y => z ⟨h, y⟩)]
theorem num_good {L : Nat → Nat} {n : Nat} (ld : Bool) (S : List Nat) : ∀ k i, i ≤ n → cst L (n - i) i (2, k + 1, ld, S) = none → (∀ j, j < k + 1 → i + j < n ∧ isD (L (i + j)) = true) ∧ cst L (n - (i + k + 1)) (i + k + 1) (if ld then (0, 0, false, S) else cend S) = none
  | 0, i, hi, h => by
    rw [cst_num hi] at h
    by_cases z : i < n ∧ isD (L i) = true
    · rw [if_pos z, if_pos rfl] at h
      refine ⟨fun j hj => ?_, h⟩
      have : j = 0 := by omega
      subst this
      exact z
    · rw [if_neg z] at h
      cases h
  | k + 1, i, hi, h => by
    rw [cst_num hi] at h
    by_cases z : i < n ∧ isD (L i) = true
    · rw [if_pos z, if_neg (by omega), Nat.add_sub_cancel] at h
      obtain ⟨h1, h2⟩ := num_good ld S k (i + 1) (by omega) h
      refine ⟨fun j hj => ?_, ?_⟩
      · by_cases e : j = 0
        · subst e; exact z
        · have := h1 (j - 1) (by omega)
          have e2 : i + 1 + (j - 1) = i + j := by omega
          rw [e2] at this
          exact this
      · have e2 : i + 1 + k + 1 = i + (k + 1) + 1 := by omega
        rw [e2] at h2
        exact h2
    · rw [if_neg z] at h
      cases h
theorem nam_good {L : Nat → Nat} {n i : Nat} {S : List Nat} (hi : i ≤ n) (h : cst L (n - i) i (6, 2, false, S) = none) : i + 1 < n ∧ isN (L i) = true ∧ isN (L (i + 1)) = true ∧ cst L (n - (i + 2)) (i + 2) (5, 0, false, S) = none := by
  rw [cst_nam6 hi] at h
  by_cases z : i < n ∧ isN (L i) = true
  · rw [if_pos z, if_neg (by omega), cst_nam6 (by omega)] at h
    by_cases y : i + 1 < n ∧ isN (L (i + 1)) = true
    · rw [if_pos y, if_pos (by omega)] at h
      exact ⟨y.1, z.2, y.2, h⟩
    · rw [if_neg y] at h
      cases h
  · rw [if_neg z] at h
    cases h
/-! how the letters see the check that is being told -/
def hdC (c : CT) (s : List Nat) (dg : Nat) : Nat := if dg ≠ 0 ∨ cM c = 0 then 0 else hstC (opC c 0 s)
def stC (c : CT) (s : List Nat) (dg : Nat) : CA := (hdC c s dg, 0, false, mkC (opC c 0 s))
theorem hd_123 {c : CT} {q : Nat} {r : List Nat} (h : cF c 0 q = 123) : hstC (opC c 0 (q :: r)) = (if cF c 9 q = 0 then 3 else 5) ∧ mkC (opC c 0 (q :: r)) = 123 :: mkC (opC c 1 r) := by
  constructor
  · show (if cF c 0 q = 123 then (if decide (cF c 0 q = 123 ∧ cF c 9 q ≠ 0) = true then 5 else 3) else 0) = _
    rw [if_pos h]
    by_cases z : cF c 9 q = 0
    · rw [if_pos z, decide_eq_false (fun y => y.2 z)]; rfl
    · rw [if_neg z, decide_eq_true ⟨h, z⟩]; rfl
  · show (if cF c 0 q = 123 then _ else _) = _
    rw [if_pos h]
theorem hd_not {c : CT} {q : Nat} {r : List Nat} (h : ¬ cF c 0 q = 123) : hstC (opC c 0 (q :: r)) = 0 := by
  show (if cF c 0 q = 123 then _ else 0) = 0
  rw [if_neg h]
/-- a check is to come -/
theorem hd0 {b : Nat} {c : CT} {s : List Nat} {dg : Nat} (h : GC b c s dg) : hdC c s dg = 0 ↔ (cM c = 0 ∨ s ≠ []) ∧ ∀ q r, s = q :: r → cF c 0 q = 123 → dg ≠ 0 := by
  have hs := h.2.2.2.1
  unfold hdC
  by_cases z : dg ≠ 0 ∨ cM c = 0
  · rw [if_pos z]
    refine ⟨fun _ => ?_, fun _ => rfl⟩
    rcases z with z | z
    · obtain ⟨q, r, e, -⟩ := h.2.2.2.2.2.2.1 z
      exact ⟨Or.inr (by rw [e]; simp), fun _ _ _ _ => z⟩
    · refine ⟨Or.inl z, fun q r e => ?_⟩
      subst e
      have : q < cM c := (hs.mem q List.mem_cons_self).1
      omega
  · rw [if_neg z]
    have z1 : dg = 0 := by omega
    have z2 : cM c ≠ 0 := by omega
    cases s with
    | nil =>
      refine ⟨fun y => ?_, fun ⟨y, _⟩ => ?_⟩
      · exact absurd y (by show ¬ (1 : Nat) = 0; omega)
      · rcases y with y | y
        · exact absurd y z2
        · exact absurd rfl y
    | cons q r =>
      by_cases x : cF c 0 q = 123
      · rw [(hd_123 x).1]
        refine ⟨fun y => ?_, fun ⟨_, y⟩ => absurd z1 (y q r rfl x)⟩
        split at y <;> omega
      · rw [hd_not x]
        exact ⟨fun _ => ⟨Or.inr (by simp), fun q' r' e y => by cases e; exact absurd y x⟩, fun _ => rfl⟩
theorem opC_add {c : CT} {s : List Nat} {dg : Nat} (h : GC 0 c s dg) (sg lo hi fr lv : Nat) : opC (addC c s sg lo hi dg fr lv) 1 s = opC c 0 s := by
  have hs := h.2.2.2.1
  cases s with
  | nil => rfl
  | cons q r =>
    have hq : q < cM c := (hs.mem q List.mem_cons_self).1
    have a0 : ∀ y, y < cM c → cF (addC c (q :: r) sg lo hi dg fr lv) 0 y = cF c 0 y := fun y hy => by
      show (if y = cM c then sg else cF c 0 y) = _
      rw [if_neg (by omega)]
    have a9 : ∀ y, y < cM c → cF (addC c (q :: r) sg lo hi dg fr lv) 9 y = cF c 9 y := fun y hy => by
      show (if y = cM c then 0 else cF c 9 y) = _
      rw [if_neg (by omega)]
    have a10 : ∀ y, y < cM c → cF (addC c (q :: r) sg lo hi dg fr lv) 10 y = if (q :: r).head? = some y then cF c 10 y + 1 else cF c 10 y := fun y hy => by
      show (if y = cM c then 0 else if (q :: r).head? = some y then cF c 10 y + 1 else cF c 10 y) = _
      rw [if_neg (by omega)]
    have key : ∀ {t : List Nat}, (∀ x, x ∈ t → x < cM c ∧ (q :: r).head? ≠ some x) → opC (addC c (q :: r) sg lo hi dg fr lv) 1 t = opC c 1 t := by
      intro t
      induction t with
      | nil => intro _; rfl
      | cons x t ih =>
        intro hx
        obtain ⟨x1, x2⟩ := hx x List.mem_cons_self
        show (cF (addC c (q :: r) sg lo hi dg fr lv) 0 x, _, _) :: opC (addC c (q :: r) sg lo hi dg fr lv) 1 t = (cF c 0 x, _, _) :: opC c 1 t
        rw [ih (fun y hy => hx y (List.mem_cons_of_mem _ hy)), a0 x x1, a9 x x1, a10 x x1, if_neg x2]
    show (cF (addC c (q :: r) sg lo hi dg fr lv) 0 q, _, _) :: opC (addC c (q :: r) sg lo hi dg fr lv) 1 r = (cF c 0 q, _, _) :: opC c 1 r
    rw [key (fun x hx => ⟨(hs.mem x (List.mem_cons_of_mem _ hx)).1, nohead hs hx⟩), a0 q hq, a9 q hq, a10 q hq, if_pos (show (q :: r).head? = some q from rfl), Nat.add_sub_cancel, Nat.sub_zero]
/-- behind a check that is whole -/
theorem stC_set {c : CT} {s : List Nat} (h : GC 1 c s 0) (h1 : 1 ≤ cM c) : stC c (cset c s) 0 = cend (mkC (opC c 1 s)) := by
  have e := cend_oset (o := opC c 1 s) (opC_tail h.2.2.2.2.2.2.2.2.1)
  rw [oset_cset h] at e
  rw [e]
  unfold stC hdC
  rw [if_neg (by omega)]
theorem stC_leaf {c : CT} {s : List Nat} {dg : Nat} (h : GC 0 c s dg) {sg lo hi fr lv : Nat} (g : GC 1 (addC c s sg lo hi dg fr lv) s 0) : stC (addC c s sg lo hi dg fr lv) (cset (addC c s sg lo hi dg fr lv) s) 0 = cend (mkC (opC c 0 s)) := by
  rw [stC_set g (Nat.le_add_left 1 _), opC_add h]
theorem stC_open {c : CT} {s : List Nat} {dg : Nat} (h : GC 0 c s dg) (sg lo hi fr lv : Nat) : stC (addC c s sg lo hi dg fr lv) (cM c :: s) 0 = (if sg = 123 then (3, 0, false, 123 :: mkC (opC c 0 s)) else if sg = 47 then (0, 0, false, 47 :: mkC (opC c 0 s)) else (0, 0, false, mkC (opC c 0 s))) := by
  have a0 : cF (addC c s sg lo hi dg fr lv) 0 (cM c) = sg := by
    show (if cM c = cM c then sg else _) = sg
    rw [if_pos rfl]
  have a9 : cF (addC c s sg lo hi dg fr lv) 9 (cM c) = 0 := by
    show (if cM c = cM c then 0 else _) = 0
    rw [if_pos rfl]
  have a10 : cF (addC c s sg lo hi dg fr lv) 10 (cM c) = 0 := by
    show (if cM c = cM c then 0 else _) = 0
    rw [if_pos rfl]
  unfold stC hdC
  rw [if_neg (show ¬ ((0 : Nat) ≠ 0 ∨ cM (addC c s sg lo hi dg fr lv) = 0) from fun z => by
    rcases z with z | z
    · exact z rfl
    · have : cM c + 1 = 0 := z
      omega)]
  by_cases z : sg = 123
  · rw [if_pos z]
    have := hd_123 (c := addC c s sg lo hi dg fr lv) (q := cM c) (r := s) (by rw [a0]; exact z)
    rw [this.1, this.2, a9, if_pos rfl, opC_add h]
  · rw [if_neg z, hd_not (by rw [a0]; exact z)]
    have e : mkC (opC (addC c s sg lo hi dg fr lv) 0 (cM c :: s)) = if sg = 47 then 47 :: mkC (opC c 0 s) else mkC (opC c 0 s) := by
      show (if cF (addC c s sg lo hi dg fr lv) 0 (cM c) = 123 then _ else if cF (addC c s sg lo hi dg fr lv) 0 (cM c) = 47 ∧ (if cF (addC c s sg lo hi dg fr lv) 0 (cM c) = 123 then 0 else cF (addC c s sg lo hi dg fr lv) 10 (cM c) - 0) = 0 then 47 :: mkC (opC (addC c s sg lo hi dg fr lv) 1 s) else mkC (opC (addC c s sg lo hi dg fr lv) 1 s)) = _
      rw [a0, a10, if_neg z, if_neg z, opC_add h]
      by_cases y : sg = 47
      · rw [if_pos ⟨y, rfl⟩, if_pos y]
      · rw [if_neg (fun x => y x.1), if_neg y]
    rw [e]
    by_cases y : sg = 47
    · rw [if_pos y, if_pos y]
    · rw [if_neg y, if_neg y]
theorem stC_close {c : CT} {q : Nat} {r : List Nat} (h : GC 0 c (q :: r) 0) (z : cF c 0 q = 123) : stC c (cset c r) 0 = cend (mkC (opC c 0 (q :: r))).tail := by
  have hq : q < cM c := (h.2.2.2.1.mem q List.mem_cons_self).1
  rw [stC_set (h.close z) (by omega), (hd_123 z).2]
  rfl
theorem opC_same {c c' : CT} (e0 : cF c' 0 = cF c 0) (e9 : cF c' 9 = cF c 9) (e10 : cF c' 10 = cF c 10) : ∀ (b : Nat) (s : List Nat), opC c' b s = opC c b s
  | _, [] => rfl
  | b, q :: r => by
    show (cF c' 0 q, (if cF c' 0 q = 123 then 0 else cF c' 10 q - b), decide (cF c' 0 q = 123 ∧ cF c' 9 q ≠ 0)) :: opC c' 1 r = _ :: opC c 1 r
    rw [opC_same e0 e9 e10 1 r, e0, e9, e10]
theorem stC_field (c : CT) (q d : Nat) (s : List Nat) (hd : d ≠ 0) : stC (fldC c q d) s d = (0, 0, false, mkC (opC c 0 s)) := by
  unfold stC hdC
  rw [if_pos (Or.inl hd), opC_same (c := c) (c' := fldC c q d) rfl rfl rfl]
theorem stC_dep {c : CT} {q : Nat} {r : List Nat} (h : GC 0 c (q :: r) 0) (z : cF c 0 q = 123) (sg one other : Nat) : stC (depC c q sg one other) (q :: r) 0 = (5, 0, false, mkC (opC c 0 (q :: r))) := by
  have hq : q < cM c := (h.2.2.2.1.mem q List.mem_cons_self).1
  have a9 : ∀ y, cF (depC c q sg one other) 9 y = if y = q then cF c 9 y + 1 else cF c 9 y := fun y => rfl
  have z' : cF (depC c q sg one other) 0 q = 123 := z
  have key : ∀ {t : List Nat}, (∀ x, x ∈ t → x ≠ q) → opC (depC c q sg one other) 1 t = opC c 1 t := by
    intro t
    induction t with
    | nil => intro _; rfl
    | cons x t ih =>
      intro hx
      have := hx x List.mem_cons_self
      show (cF c 0 x, (if cF c 0 x = 123 then 0 else cF c 10 x - 1), decide (cF c 0 x = 123 ∧ cF (depC c q sg one other) 9 x ≠ 0)) :: opC (depC c q sg one other) 1 t = _ :: opC c 1 t
      rw [ih (fun y hy => hx y (List.mem_cons_of_mem _ hy)), a9, if_neg this]
  unfold stC hdC
  rw [if_neg (show ¬ ((0 : Nat) ≠ 0 ∨ cM (depC c q sg one other) = 0) from fun y => by
    rcases y with y | y
    · exact y rfl
    · have : cM c = 0 := y
      omega), (hd_123 z').1, (hd_123 z').2, (hd_123 z).2, a9, if_pos rfl, if_neg (Nat.succ_ne_zero _), key (fun x hx => by
    have := h.2.2.2.1.low x hx
    omega)]
/-- what is told now: a field, a dependent one, an end -/
theorem hd35 {b : Nat} {c : CT} {s : List Nat} {dg : Nat} (h : GC b c s dg) (hh : hdC c s dg = 3 ∨ hdC c s dg = 5) : ∃ q r, s = q :: r ∧ cF c 0 q = 123 ∧ dg = 0 ∧ (hdC c s dg = 3 → cF c 9 q = 0) := by
  unfold hdC at hh ⊢
  by_cases z : dg ≠ 0 ∨ cM c = 0
  · rw [if_pos z] at hh
    omega
  · rw [if_neg z] at hh ⊢
    cases s with
    | nil =>
      have e : hstC (opC c 0 []) = 1 := rfl
      rw [e] at hh
      omega
    | cons q r =>
      by_cases x : cF c 0 q = 123
      · refine ⟨q, r, rfl, x, by omega, fun y => ?_⟩
        rw [(hd_123 x).1] at y
        by_cases u : cF c 9 q = 0
        · exact u
        · rw [if_neg u] at y; omega
      · rw [hd_not x] at hh
        omega
theorem hd_all {b : Nat} {c : CT} {s : List Nat} {dg : Nat} (_h : GC b c s dg) : hdC c s dg = 0 ∨ (hdC c s dg = 1 ∧ s = [] ∧ dg = 0 ∧ 1 ≤ cM c) ∨ hdC c s dg = 3 ∨ hdC c s dg = 5 := by
  unfold hdC
  by_cases z : dg ≠ 0 ∨ cM c = 0
  · rw [if_pos z]; exact Or.inl rfl
  · rw [if_neg z]
    cases s with
    | nil => exact Or.inr (Or.inl ⟨rfl, rfl, by omega, by omega⟩)
    | cons q r =>
      by_cases x : cF c 0 q = 123
      · rw [(hd_123 x).1]
        split
        · exact Or.inr (Or.inr (Or.inl rfl))
        · exact Or.inr (Or.inr (Or.inr rfl))
      · rw [hd_not x]
        exact Or.inl rfl
