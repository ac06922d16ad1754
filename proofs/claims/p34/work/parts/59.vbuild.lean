/-! values told in letters: what they tell -/
def numP (L : Nat → Nat) (n i : Nat) : Nat × Nat := if i + 1 < n ∧ isD (L (i + 1)) = true then (10 * (L i - 48) + (L (i + 1) - 48), i + 2) else (L i - 48, i + 1)
def badQ (v : VT) (s : List Nat) : Prop := 20 ≤ v.1 ∨ 5 ≤ s.length ∨ ∃ q r, s = q :: r ∧ v.2 0 q = 3 ∧ 4 ≤ v.2 2 q
def vdg (v : VT) (s : List Nat) (dg : Nat) : Nat := match s with
  | [] => dg
  | q :: _ => if v.2 0 q = 3 then 6 + v.2 2 q else dg
def dupQ (v : VT) (s : List Nat) (d : Nat) : Prop := ∃ q r, s = q :: r ∧ ∃ k, k < v.2 2 q ∧ v.2 3 (kch v q k) = d
/-- the place of the first thing that is not as it must be, or the value -/
noncomputable def vbu (L : Nat → Nat) (n : Nat) : Nat → Nat → VT → List Nat → Nat → Nat ⊕ VT
  | 0, _, v, _, _ => .inr v
  | m + 1, i, v, s, dg =>
    if n ≤ i then .inr v
    else if isD (L i) = true then (if pB (badQ v s) = true then .inl i else vbu L n m (numP L n i).2 (addV v s 0 (numP L n i).1 (vdg v s dg)) s (vdg v s dg))
    else if L i = 63 then (if pB (badQ v s) = true then .inl i else vbu L n m (i + 1) (addV v s 1 0 (vdg v s dg)) s (vdg v s dg))
    else if L i = 40 then (if pB (badQ v s) = true then .inl i else vbu L n m (i + 1) (addV v s 2 0 (vdg v s dg)) (v.1 :: s) (vdg v s dg))
    else if L i = 91 then (if pB (badQ v s) = true then .inl i else vbu L n m (i + 1) (addV v s 3 0 (vdg v s dg)) (v.1 :: s) (vdg v s dg))
    else if L i = 41 ∨ L i = 93 then vbu L n m (i + 1) v s.tail dg
    else if L i = 44 then vbu L n m (i + 1) v s dg
    else if pB (dupQ v s (L i - 96)) = true then .inl i else vbu L n m (i + 1) v s (L i - 96)
theorem numP_gt (L : Nat → Nat) (n i : Nat) : i < (numP L n i).2 := by
  unfold numP
  split
  · show i < i + 2; omega
  · show i < i + 1; omega
theorem vbu_any (L : Nat → Nat) (n : Nat) : ∀ m m' i v s dg, n ≤ i + m → n ≤ i + m' → vbu L n m i v s dg = vbu L n m' i v s dg
  | 0, 0, i, v, s, dg, _, _ => rfl
  | 0, m' + 1, i, v, s, dg, h, _ => by
    unfold vbu
    rw [if_pos (by omega)]
  | m + 1, 0, i, v, s, dg, _, h => by
    unfold vbu
    rw [if_pos (by omega)]
  | m + 1, m' + 1, i, v, s, dg, h1, h2 => by
    have hg := numP_gt L n i
    unfold vbu
    rw [vbu_any L n m m' (numP L n i).2 _ _ _ (by omega) (by omega), vbu_any L n m m' (i + 1) (addV v s 1 0 (vdg v s dg)) _ _ (by omega) (by omega), vbu_any L n m m' (i + 1) (addV v s 2 0 (vdg v s dg)) _ _ (by omega) (by omega), vbu_any L n m m' (i + 1) (addV v s 3 0 (vdg v s dg)) _ _ (by omega) (by omega), vbu_any L n m m' (i + 1) v s.tail _ (by omega) (by omega), vbu_any L n m m' (i + 1) v s dg (by omega) (by omega), vbu_any L n m m' (i + 1) v s (L i - 96) (by omega) (by omega)]
/-! the letters that went on, and what they told -/
def vmark (v : VT) (q : Nat) : Nat := if v.2 0 q = 2 then 40 else 91
def VI (v : VT) (s : List Nat) (dg : Nat) (a : VA) : Prop := WFQ v s ∧ a.2.2 = s.map (vmark v) ∧ a.1 < 5 ∧ dg ≤ 9 ∧ (v.1 = 0 → dg = 0 ∧ s = [] ∧ a.1 = 0) ∧
  (a.1 = 0 → (v.1 = 0 ∨ s ≠ []) ∧ ∀ q r, s = q :: r → v.2 0 q = 2 → 1 ≤ dg ∧ dg ≤ 5 ∧ ∀ j, j < v.2 2 q → v.2 3 (kch v q j) ≠ dg) ∧
  (a.1 = 2 → ∃ q r, s = q :: r ∧ v.2 0 q = 2) ∧ (a.1 = 3 → ∃ q r, s = q :: r ∧ v.2 0 q = 3) ∧ (a.1 = 4 → ∃ q r, s = q :: r ∧ v.2 0 q = 3) ∧ (a.1 = 1 → s = [])
theorem VI.start : VI (0, fun _ _ => 0) [] 0 (0, false, []) := by
  refine ⟨⟨Nat.zero_le _, fun p hp => absurd hp (Nat.not_lt_zero _), True.intro, fun h => absurd h (by decide), fun p hp => absurd hp (Nat.not_lt_zero _)⟩, rfl, by show 0 < 5; omega, Nat.zero_le _, fun _ => ⟨rfl, rfl, rfl⟩, fun _ => ⟨Or.inl rfl, fun q r h => by cases h⟩, fun h => ?_, fun h => ?_, fun h => ?_, fun _ => rfl⟩
  · exact absurd h (by decide)
  · exact absurd h (by decide)
  · exact absurd h (by decide)
theorem kd23 {v : VT} {s : List Nat} (h : WFQ v s) {q : Nat} (hq : q ∈ s) : v.2 0 q = 2 ∨ v.2 0 q = 3 := by
  have h1 := h.2.2.1.mem q hq
  have h2 := (h.2.2.2.2 q h1.1).1
  omega
/-- behind a part -/
theorem VI.after {v : VT} {s : List Nat} {dg : Nat} (w : WFQ v s) (hd : dg ≤ 9) (h1 : 1 ≤ v.1) (lo : Bool) : VI v s dg (vend (s.map (vmark v)), lo, s.map (vmark v)) := by
  refine ⟨w, rfl, vend_lt _, hd, fun z => by omega, fun z => ?_, fun z => ?_, fun z => ?_, fun z => ?_, fun z => ?_⟩
  all_goals
    have z : vend (s.map (vmark v)) = _ := z
    cases s with
    | nil =>
      have z : (1 : Nat) = _ := z
      first | rfl | omega
    | cons q r =>
      have hk := kd23 w (q := q) List.mem_cons_self
      have e : vend ((q :: r).map (vmark v)) = if vmark v q = 40 then 2 else 4 := rfl
      rw [e] at z
      unfold vmark at z
      rcases hk with hk | hk
      · rw [if_pos hk, if_pos rfl] at z
        first | exact ⟨q, r, rfl, hk⟩ | omega
      · rw [if_neg (show ¬ v.2 0 q = 2 by omega), if_neg (show ¬ (91 : Nat) = 40 by omega)] at z
        first | exact ⟨q, r, rfl, hk⟩ | omega
theorem vmark_add {v : VT} {s : List Nat} (w : WFQ v s) (k x dg : Nat) : s.map (vmark (addV v s k x dg)) = s.map (vmark v) := by
  refine List.map_congr_left (fun q hq => ?_)
  have := (w.2.2.1.mem q hq).1
  unfold vmark
  rw [aV0, if_neg (show ¬ q = v.1 by omega)]
theorem VI.canAdd {v : VT} {s : List Nat} {dg : Nat} {a : VA} (h : VI v s dg a) (ha : a.1 = 0 ∨ a.1 = 3) (hb : ¬ badQ v s) : v.1 < 20 ∧ s.length ≤ 4 ∧ (v.1 = 0 ∨ s ≠ []) ∧ (s = [] → vdg v s dg = 0) ∧ vdg v s dg ≤ 9 ∧ ∀ q r, s = q :: r → (v.2 0 q = 3 → v.2 2 q < 4) ∧ (v.2 0 q = 2 → 1 ≤ vdg v s dg ∧ vdg v s dg ≤ 5 ∧ ∀ j, j < v.2 2 q → v.2 3 (kch v q j) ≠ vdg v s dg) := by
  obtain ⟨h1, h2, h3, hd9, h4, h5, h6, h7, h8, h9⟩ := h
  have b1 : v.1 < 20 := by
    rcases Nat.lt_or_ge v.1 20 with z | z
    · exact z
    · exact absurd (Or.inl z) hb
  have b2 : s.length ≤ 4 := by
    rcases Nat.lt_or_ge s.length 5 with z | z
    · omega
    · exact absurd (Or.inr (Or.inl z)) hb
  have b3 : ∀ q r, s = q :: r → v.2 0 q = 3 → v.2 2 q < 4 := fun q r e e2 => by
    rcases Nat.lt_or_ge (v.2 2 q) 4 with z | z
    · exact z
    · exact absurd (Or.inr (Or.inr ⟨q, r, e, e2, z⟩)) hb
  have b4 : v.1 = 0 ∨ s ≠ [] := by
    rcases ha with z | z
    · exact (h5 z).1
    · obtain ⟨q, r, e, -⟩ := h7 z
      exact Or.inr (by rw [e]; simp)
  refine ⟨b1, b2, b4, fun e => ?_, ?_, fun q r e => ⟨b3 q r e, fun e2 => ?_⟩⟩
  · subst e
    rcases b4 with z | z
    · exact (h4 z).1
    · exact absurd rfl z
  · cases s with
    | nil => exact hd9
    | cons q r =>
      show (if v.2 0 q = 3 then 6 + v.2 2 q else dg) ≤ 9
      split
      · rename_i z
        have := b3 q r rfl z
        omega
      · exact hd9
  · subst e
    have ev : vdg v (q :: r) dg = dg := by
      show (if v.2 0 q = 3 then _ else dg) = dg
      rw [if_neg (by omega)]
    rw [ev]
    rcases ha with z | z
    · exact (h5 z).2 q r rfl e2
    · obtain ⟨q', r', e3, e4⟩ := h7 z
      cases e3
      omega
theorem VI.leaf {v : VT} {s : List Nat} {dg : Nat} {a : VA} (h : VI v s dg a) (ha : a.1 = 0 ∨ a.1 = 3) (hb : ¬ badQ v s) {k x : Nat} (hk : k ≤ 1) (h0 : k = 0 → x ≤ 99) (h1 : k ≠ 0 → x = 0) (lo : Bool) : VI (addV v s k x (vdg v s dg)) s (vdg v s dg) (vend a.2.2, lo, a.2.2) := by
  obtain ⟨c1, c2, c3, c4, c5, c6⟩ := h.canAdd ha hb
  have w := (h.1.add c1 c2 c3 (show k ≤ 3 by omega) h0 h1 c4 c6).1
  have := VI.after w c5 (by rw [aVn]; omega) lo
  rw [vmark_add h.1, ← h.2.1] at this
  exact this
theorem VI.open_ {v : VT} {s : List Nat} {dg : Nat} {a : VA} (h : VI v s dg a) (ha : a.1 = 0 ∨ a.1 = 3) (hb : ¬ badQ v s) {k : Nat} (hk : k = 2 ∨ k = 3) : VI (addV v s k 0 (vdg v s dg)) (v.1 :: s) (vdg v s dg) (k, false, (if k = 2 then 40 else 91) :: a.2.2) := by
  obtain ⟨c1, c2, c3, c4, c5, c6⟩ := h.canAdd ha hb
  have w := (h.1.add c1 c2 c3 (show k ≤ 3 by omega) (x := 0) (fun _ => Nat.zero_le _) (fun _ => rfl) c4 c6).2 (by omega)
  have e0 : (addV v s k 0 (vdg v s dg)).2 0 v.1 = k := by rw [aV0, if_pos rfl]
  refine ⟨w, ?_, by show k < 5; omega, c5, fun z => by rw [aVn] at z; omega, fun z => ?_, fun z => ⟨v.1, s, rfl, by rw [e0]; exact z⟩, fun z => ⟨v.1, s, rfl, by rw [e0]; exact z⟩, fun z => ?_, fun z => ?_⟩
  · rw [List.map_cons, vmark_add h.1, ← h.2.1]
    show _ = vmark _ v.1 :: a.2.2
    unfold vmark
    rw [e0]
  · have z : k = 0 := z
    omega
  · have z : k = 4 := z
    omega
  · have z : k = 1 := z
    omega
theorem VI.close {v : VT} {s : List Nat} {dg : Nat} {a : VA} (h : VI v s dg a) (ha : a.1 = 2 ∨ a.1 = 3 ∨ a.1 = 4) : VI v s.tail dg (vend a.2.2.tail, false, a.2.2.tail) := by
  obtain ⟨h1, h2, h3, hd9, h4, h5, h6, h7, h8, h9⟩ := h
  have : ∃ q r, s = q :: r := by
    rcases ha with z | z | z
    · obtain ⟨q, r, e, -⟩ := h6 z; exact ⟨q, r, e⟩
    · obtain ⟨q, r, e, -⟩ := h7 z; exact ⟨q, r, e⟩
    · obtain ⟨q, r, e, -⟩ := h8 z; exact ⟨q, r, e⟩
  obtain ⟨q, r, e⟩ := this
  subst e
  have hm := (h1.2.2.1.mem q List.mem_cons_self).1
  have := VI.after h1.pop hd9 (by omega) false
  rw [h2]
  exact this
theorem VI.comma {v : VT} {s : List Nat} {dg : Nat} {a : VA} (h : VI v s dg a) (ha : a.1 = 4) : VI v s dg (0, false, a.2.2) := by
  obtain ⟨h1, h2, h3, hd9, h4, h5, h6, h7, h8, h9⟩ := h
  obtain ⟨q, r, e, e3⟩ := h8 ha
  refine ⟨h1, h2, by show 0 < 5; omega, hd9, fun z => ?_, fun _ => ⟨Or.inr (by rw [e]; simp), fun q' r' e' k2 => ?_⟩, fun z => ?_, fun z => ?_, fun z => ?_, fun z => ?_⟩
  · exact ⟨(h4 z).1, (h4 z).2.1, rfl⟩
  · rw [e] at e'
    cases e'
    omega
  all_goals
    have z : (0 : Nat) = _ := z
    omega
theorem VI.name {v : VT} {s : List Nat} {dg : Nat} {a : VA} (h : VI v s dg a) (ha : a.1 = 2) {d : Nat} (hd : 1 ≤ d ∧ d ≤ 5) (hn : ¬ dupQ v s d) : VI v s d (0, false, a.2.2) := by
  obtain ⟨h1, h2, h3, hd9, h4, h5, h6, h7, h8, h9⟩ := h
  obtain ⟨q, r, e, e3⟩ := h6 ha
  refine ⟨h1, h2, by show 0 < 5; omega, by omega, fun z => ?_, fun _ => ⟨Or.inr (by rw [e]; simp), fun q' r' e' k2 => ⟨hd.1, hd.2, fun j hj he => hn ⟨q', r', e', j, hj, he⟩⟩⟩, fun z => ?_, fun z => ?_, fun z => ?_, fun z => ?_⟩
  · have := h4 z
    rw [this.2.1] at e
    cases e
  all_goals
    have z : (0 : Nat) = _ := z
    omega
/-- which letters go on -/
theorem vgo_begin {a b : VA} {c : Nat} (h : vgo a c = some b) (hlo : (a.2.1 && isD c) = false) (hc : isD c = true ∨ c = 63 ∨ c = 40 ∨ c = 91) : (a.1 = 0 ∨ a.1 = 3) ∧ vbeg a.2.2 c = some b := by
  have hcc : (48 ≤ c ∧ c ≤ 57) ∨ c = 63 ∨ c = 40 ∨ c = 91 := by
    rcases hc with z | z
    · exact Or.inl (isD_iff.mp z)
    · exact Or.inr z
  have hN : ¬ isN c = true := fun z => by
    have := isN_iff.mp z
    omega
  unfold vgo at h
  rw [if_neg (by rw [hlo]; decide)] at h
  by_cases h0 : a.1 = 0
  · rw [if_pos h0] at h
    exact ⟨Or.inl h0, h⟩
  · rw [if_neg h0] at h
    by_cases h2 : a.1 = 2
    · rw [if_pos h2, if_neg (show ¬ c = 41 by omega), if_neg hN] at h
      cases h
    · rw [if_neg h2] at h
      by_cases h3 : a.1 = 3
      · rw [if_pos h3, if_neg (show ¬ c = 93 by omega)] at h
        exact ⟨Or.inr h3, h⟩
      · rw [if_neg h3] at h
        by_cases h4 : a.1 = 4
        · rw [if_pos h4, if_neg (show ¬ c = 93 by omega), if_neg (show ¬ c = 44 by omega)] at h
          cases h
        · rw [if_neg h4] at h
          cases h
theorem vgo_other {a b : VA} {c : Nat} (h : vgo a c = some b) (hc : ¬ (isD c = true ∨ c = 63 ∨ c = 40 ∨ c = 91)) : ((c = 41 ∧ a.1 = 2 ∨ c = 93 ∧ (a.1 = 3 ∨ a.1 = 4)) ∧ b = (vend a.2.2.tail, false, a.2.2.tail)) ∨ (c = 44 ∧ a.1 = 4 ∧ b = (0, false, a.2.2)) ∨ (isN c = true ∧ a.1 = 2 ∧ b = (0, false, a.2.2)) := by
  have hlo : ¬ (a.2.1 && isD c) = true := fun z => by
    rw [Bool.and_eq_true] at z
    exact hc (Or.inl z.2)
  have hbg : ∀ s, vbeg s c = none := fun s => by
    unfold vbeg
    rw [if_neg (fun z => hc (Or.inr (Or.inr (Or.inl z)))), if_neg (fun z => hc (Or.inr (Or.inr (Or.inr z)))), if_neg (fun z => hc (Or.inl z)), if_neg (fun z => hc (Or.inr (Or.inl z)))]
  unfold vgo at h
  rw [if_neg hlo] at h
  by_cases h0 : a.1 = 0
  · rw [if_pos h0, hbg] at h
    cases h
  · rw [if_neg h0] at h
    by_cases h2 : a.1 = 2
    · rw [if_pos h2] at h
      by_cases h41 : c = 41
      · rw [if_pos h41] at h
        cases h
        exact Or.inl ⟨Or.inl ⟨h41, h2⟩, rfl⟩
      · rw [if_neg h41] at h
        by_cases hn : isN c = true
        · rw [if_pos hn] at h
          cases h
          exact Or.inr (Or.inr ⟨hn, h2, rfl⟩)
        · rw [if_neg hn] at h
          cases h
    · rw [if_neg h2] at h
      by_cases h3 : a.1 = 3
      · rw [if_pos h3] at h
        by_cases h93 : c = 93
        · rw [if_pos h93] at h
          cases h
          exact Or.inl ⟨Or.inr ⟨h93, Or.inl h3⟩, rfl⟩
        · rw [if_neg h93, hbg] at h
          cases h
      · rw [if_neg h3] at h
        by_cases h4 : a.1 = 4
        · rw [if_pos h4] at h
          by_cases h93 : c = 93
          · rw [if_pos h93] at h
            cases h
            exact Or.inl ⟨Or.inr ⟨h93, Or.inr h4⟩, rfl⟩
          · rw [if_neg h93] at h
            by_cases h44 : c = 44
            · rw [if_pos h44] at h
              cases h
              exact Or.inr (Or.inl ⟨h44, h4, rfl⟩)
            · rw [if_neg h44] at h
              cases h
        · rw [if_neg h4] at h
          cases h
