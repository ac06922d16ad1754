/-! the letters of a record's check tell its fields -/
def RQ (c : CT) (q : Nat) (fs : List XD) : Prop := cF c 0 q = 123 ∧ cF c 10 q = fs.length ∧ cF c 3 q = 1 + sumf xfz fs ∧ q + (1 + sumf xfz fs) ≤ cM c ∧ ∀ (j : Nat) (x : XD), fs[j]? = some x → q + 1 + sumf xfz (fs.take j) + xfz x ≤ q + (1 + sumf xfz fs) ∧ XKN c (q + 1 + sumf xfz (fs.take j)) (xdN x) (xdR x) (xdQ x) (xdL x) (xdH x)
theorem xkz_pos (k : Nat) : 1 ≤ xkz k := by unfold xkz; split <;> omega
theorem xkz_two : xkz 1 = 2 := rfl
theorem XKN.co {c c' : CT} {p dg fr k lo hi z : Nat} {s : List Nat} (h : XKN c p dg fr k lo hi) (g : XCO c' c s z) (hp : p + xkz k ≤ cM c) (hs : p ∉ s) : XKN c' p dg fr k lo hi := by
  have hz := xkz_pos k
  obtain ⟨h0, h1, h3, h4, h5, h6⟩ := h
  obtain ⟨g0, g1, g2, g4, g5, g7, g8, g9, g3, g10⟩ := g.2.2.2 p (by omega)
  refine ⟨g0.trans h0, fun e => ⟨g1.trans (h1 e).1, g2.trans (h1 e).2⟩, by rw [g3, if_neg hs]; exact h3, g4.trans h4, g5.trans h5, fun e => ?_⟩
  rw [e, xkz_two] at hp
  obtain ⟨f0, f1, f2, -⟩ := g.2.2.2 (p + 1) (by omega)
  obtain ⟨e0, e1, e2⟩ := h6 e
  exact ⟨f0.trans e0, f1.trans e1, f2.trans e2⟩
theorem RQ.co {c c' : CT} {q z : Nat} {fs : List XD} {s : List Nat} (h : RQ c q fs) (g : XCO c' c s z) (hs : ∀ y ∈ s, y < q) : RQ c' q fs := by
  obtain ⟨h0, h1, h2, h3, h4⟩ := h
  obtain ⟨g0, g1, g2, g4, g5, g7, g8, g9, g3, g10⟩ := g.2.2.2 q (by omega)
  have nq : q ∉ s := fun z => by have := hs q z; omega
  refine ⟨g0.trans h0, ?_, by rw [g3, if_neg nq]; exact h2, by rw [g.1]; omega, fun j x hj => ?_⟩
  · rw [g10, if_neg, h1]
    intro e
    cases s with
    | nil => cases e
    | cons a r => have := Option.some.inj e; subst this; exact nq List.mem_cons_self
  · obtain ⟨a1, a2⟩ := h4 j x hj
    have a1' : q + 1 + sumf xfz (fs.take j) + xkz (xdQ x) ≤ q + (1 + sumf xfz fs) := a1
    exact ⟨a1, a2.co g (by omega) (fun z => by have := hs _ z; omega)⟩
theorem RQ.more {c c' : CT} {q : Nat} {pre : List XD} {x : XD} {s : List Nat} (h : RQ c q pre) (g : XCO c' c (q :: s) (xfz x)) (hs : ∀ y ∈ s, y < q) (hM : cM c = q + (1 + sumf xfz pre)) (hk : XKN c' (cM c) (xdN x) (xdR x) (xdQ x) (xdL x) (xdH x)) : RQ c' q (pre ++ [x]) := by
  obtain ⟨h0, h1, h2, h3, h4⟩ := h
  obtain ⟨g0, g1, g2, g4, g5, g7, g8, g9, g3, g10⟩ := g.2.2.2 q (by omega)
  have eS : sumf xfz (pre ++ [x]) = sumf xfz pre + xfz x := by rw [sumf_app]; simp [sumf]
  refine ⟨g0.trans h0, by rw [g10, if_pos (show (q :: s).head? = some q from rfl), h1]; simp, by rw [g3, if_pos List.mem_cons_self, h2, eS]; omega, by rw [g.1, eS]; omega, fun j y hj => ?_⟩
  by_cases z : j < pre.length
  · rw [List.getElem?_append_left z] at hj
    obtain ⟨a1, a2⟩ := h4 j y hj
    have a1' : q + 1 + sumf xfz (pre.take j) + xkz (xdQ y) ≤ q + (1 + sumf xfz pre) := a1
    rw [List.take_append_of_le_length (by omega), eS]
    refine ⟨by omega, a2.co g (by omega) (fun z => ?_)⟩
    rcases List.mem_cons.mp z with z | z
    · omega
    · have := hs _ z; omega
  · have hlt := (List.getElem?_eq_some_iff.mp hj).1
    rw [List.length_append, List.length_singleton] at hlt
    have e : j = pre.length := by omega
    subst e
    have : x = y := by simpa using hj
    subst this
    rw [List.take_append_of_le_length (Nat.le_refl _), List.take_length, show q + 1 + sumf xfz pre = cM c by omega, eS]
    exact ⟨by omega, hk⟩
/-- where the j-th field's check stands -/
theorem RQ.kch {c : CT} {q : Nat} {fs : List XD} (h : RQ c q fs) : ∀ j, j ≤ fs.length → cch c q j = q + 1 + sumf xfz (fs.take j)
  | 0, _ => by simp [sumf]; rfl
  | j + 1, hj => by
    have ih := RQ.kch h j (by omega)
    obtain ⟨x, hx⟩ : ∃ x, fs[j]? = some x := ⟨_, List.getElem?_eq_getElem (by omega)⟩
    obtain ⟨-, -, -, b3, -⟩ := h.2.2.2.2 j x hx
    show ch (cF c 3) q j + cF c 3 (ch (cF c 3) q j) = _
    have ih : ch (cF c 3) q j = q + 1 + sumf xfz (fs.take j) := ih
    rw [ih, b3, List.take_succ, hx, sumf_app]
    simp [sumf, xfz]
    omega
def CI (c c0 : CT) (s0 : List Nat) (fs : List XD) : Prop := cM c = cM c0 + (1 + sumf xfz fs) ∧ RQ c (cM c0) fs ∧ ∀ y, y < cM c0 → cF c 0 y = cF c0 0 y ∧ cF c 3 y = (if y ∈ s0 then cF c0 3 y + (1 + sumf xfz fs) else cF c0 3 y) ∧ cF c 10 y = (if s0.head? = some y then cF c0 10 y + 1 else cF c0 10 y)
def CBt (c : CT) (q : Nat) (fs : List XD) : Prop := cF c 9 q = 0 ∧ cF c 7 q < 64 ∧ cF c 7 q % 2 = 0 ∧ ∀ d, 1 ≤ d → d ≤ 5 → (bitC c q d ↔ ∃ x ∈ fs, xdN x = d)
def xok (x : XD) : Prop := 1 ≤ xdN x ∧ xdN x ≤ 5 ∧ xdR x ≤ 1 ∧ xdL x ≤ xdH x ∧ xdH x ≤ 99
theorem cu_fld {L : Nat → Nat} {n i : Nat} {c c0 : CT} {s0 : List Nat} {pre : List XD} {x : XD} {rt dg fr : Nat} (hI : CI c c0 s0 pre) (hB : CBt c (cM c0) pre) (hx : xok x) (hnew : ∀ y ∈ pre, xdN y ≠ xdN x) (hL : At L i (xlt x)) (hn : i + (xlt x).length ≤ n) (hM : cM c0 + (1 + sumf xfz pre) + xfz x ≤ 24) (hl : pre.length < 20) (hs : ∀ y ∈ s0, y < cM c0) :
    ∃ c', CI c' c0 s0 (pre ++ [x]) ∧ CBt c' (cM c0) (pre ++ [x]) ∧ cu L n i c (cM c0 :: s0) dg fr rt = cu L n (i + (xlt x).length) c' (cM c0 :: s0) 0 0 rt := by
  obtain ⟨x1, x5, xr, xlh, xh⟩ := hx
  obtain ⟨i1, i2, i3⟩ := hI
  obtain ⟨b9, b7, b70, bb⟩ := hB
  have nb : ¬ bitC c (cM c0) (xdN x) := fun z => by
    obtain ⟨y, y1, y2⟩ := (bb _ x1 x5).mp z
    exact hnew y y1 y2
  obtain ⟨c1, e1⟩ : ∃ c1, c1 = fldC c (cM c0) (xdN x) := ⟨_, rfl⟩
  have m1 : cM c1 = cM c := by rw [e1]; rfl
  have r1 : RQ c1 (cM c0) pre := by rw [e1]; exact i2
  have f0 : ∀ y, cF c1 0 y = cF c 0 y := fun y => by rw [e1]; rfl
  have f3 : ∀ y, cF c1 3 y = cF c 3 y := fun y => by rw [e1]; rfl
  have f9 : ∀ y, cF c1 9 y = cF c 9 y := fun y => by rw [e1]; rfl
  have f10 : ∀ y, cF c1 10 y = cF c 10 y := fun y => by rw [e1]; rfl
  have f7 : cF c1 7 (cM c0) = cF c 7 (cM c0) + 2 ^ xdN x := by rw [e1]; exact if_pos rfl
  have hin : ∀ y ∈ cM c0 :: s0, y < cM c1 := fun y hy => by
    rcases List.mem_cons.mp hy with rfl | hy
    · omega
    · have := hs y hy; omega
  -- behind the name
  have go : ∀ i', At L i' (xkl (xdQ x) (xdL x) (xdH x)) → i' + (xkl (xdQ x) (xdL x) (xdH x)).length ≤ n → ∃ c', CI c' c0 s0 (pre ++ [x]) ∧ CBt c' (cM c0) (pre ++ [x]) ∧ cu L n i' c1 (cM c0 :: s0) (xdN x) (xdR x) rt = cu L n (i' + (xkl (xdQ x) (xdL x) (xdH x)).length) c' (cM c0 :: s0) 0 0 rt := by
    intro i' hL' hn'
    have hz : xkz (xdQ x) = xfz x := rfl
    obtain ⟨c', o, k, e⟩ := cu_body (dg := xdN x) (fr := xdR x) (rt := rt) xlh xh hL' hn' (by rw [hz]; omega) hin
    rw [hz] at o
    have eS : sumf xfz (pre ++ [x]) = sumf xfz pre + xfz x := by rw [sumf_app]; simp [sumf]
    obtain ⟨q0, q1, q2, q4, q5, q7, q8, q9, q3, q10⟩ := o.2.2.2 (cM c0) (by omega)
    rw [if_pos (show (cM c0 :: s0).head? = some (cM c0) from rfl), f10, i2.2.1] at q10
    rw [f0, i2.1] at q0
    refine ⟨c', ⟨by rw [o.1, m1, eS]; omega, r1.more o hs (by omega) k, fun y hy => ?_⟩, ⟨by rw [q9, f9]; exact b9, ?_⟩, ?_⟩
    · obtain ⟨p0, p1, p2, p4, p5, p7, p8, p9, p3, p10⟩ := o.2.2.2 y (by omega)
      obtain ⟨t0, t3, t10⟩ := i3 y hy
      refine ⟨by rw [p0, f0]; exact t0, ?_, ?_⟩
      · rw [p3, f3, t3, eS]
        by_cases w : y ∈ s0
        · rw [if_pos (List.mem_cons_of_mem _ w), if_pos w, if_pos w]; omega
        · rw [if_neg (by intro u; rcases List.mem_cons.mp u with u | u; · omega
                         · exact w u), if_neg w, if_neg w]
      · rw [p10, if_neg (by rw [List.head?_cons]; intro u; have := Option.some.inj u; omega), f10]; exact t10
    · rw [q7, f7]
      obtain ⟨n1, n2, n3⟩ := bit_new b7 b70 x1 x5 nb
      refine ⟨n1, n2, fun d d1 d5 => ?_⟩
      show cF c' 7 (cM c0) / 2 ^ d % 2 = 1 ↔ _
      rw [q7, f7, n3 d d1 d5]
      have hb : cF c 7 (cM c0) / 2 ^ d % 2 = 1 ↔ ∃ x ∈ pre, xdN x = d := bb d d1 d5
      rw [hb]
      constructor
      · rintro (⟨y, y1, y2⟩ | rfl)
        · exact ⟨y, List.mem_append_left _ y1, y2⟩
        · exact ⟨x, List.mem_append_right _ (List.mem_singleton.mpr rfl), rfl⟩
      · rintro ⟨y, y1, y2⟩
        rcases List.mem_append.mp y1 with y1 | y1
        · exact Or.inl ⟨y, y1, y2⟩
        · rw [List.mem_singleton] at y1
          subst y1
          exact Or.inr y2.symm
    · rw [e, cset_stay (by rw [q10, q0]; show pre.length + 1 < 24; omega)]
  have elt : xlt x = (if xdR x = 1 then [46] else []) ++ [96 + xdN x] ++ xkl (xdQ x) (xdL x) (xdH x) := rfl
  by_cases z : xdR x = 1
  · rw [if_pos z] at elt
    have elt : xlt x = 46 :: (96 + xdN x) :: xkl (xdQ x) (xdL x) (xdH x) := elt
    have hlen : (xlt x).length = (xkl (xdQ x) (xdL x) (xdH x)).length + 2 := by rw [elt]; rfl
    rw [elt] at hL
    have h0 := hL.head
    have h1 := hL.tail.head
    have es := (cstep_may (L := L) (i := i) (c := c) (q := cM c0) (r := s0) (dg := dg) (fr := fr) (rt := rt) h0).2 (by rw [h1, Nat.add_sub_cancel_left]; exact nb)
    rw [h1, Nat.add_sub_cancel_left, ← e1] at es
    obtain ⟨c', g1, g2, g3⟩ := go (i + 1 + 1) hL.tail.tail (by omega)
    refine ⟨c', g1, g2, ?_⟩
    rw [z] at g3
    rw [cu_go (by omega) es, h0, show ctl 46 = 1 from rfl, g3]
    congr 1
    omega
  · rw [if_neg z] at elt
    have elt : xlt x = (96 + xdN x) :: xkl (xdQ x) (xdL x) (xdH x) := elt
    have hlen : (xlt x).length = (xkl (xdQ x) (xdL x) (xdH x)).length + 1 := by rw [elt]; rfl
    rw [elt] at hL
    have h0 := hL.head
    have es := (cstep_name (L := L) (i := i) (c := c) (q := cM c0) (r := s0) (dg := dg) (fr := fr) (rt := rt) (by rw [h0]; exact isN_iff.mpr (by omega))).2 (by rw [h0, Nat.add_sub_cancel_left]; exact nb)
    rw [h0, Nat.add_sub_cancel_left, ← e1] at es
    obtain ⟨c', g1, g2, g3⟩ := go (i + 1) hL.tail (by omega)
    refine ⟨c', g1, g2, ?_⟩
    have e0 : ctl (96 + xdN x) = 0 := by unfold ctl; rw [if_neg (by omega), if_neg (by omega), if_neg (by omega)]
    have ez : xdR x = 0 := by omega
    rw [ez] at g3
    rw [cu_go (by omega) es, h0, e0, g3]
    congr 1
    omega
theorem cu_xls {L : Nat → Nat} {n : Nat} {c0 : CT} {s0 : List Nat} {rt : Nat} (hs : ∀ y ∈ s0, y < cM c0) : ∀ (r : List XD) (pre : List XD) (i : Nat) (c : CT), CI c c0 s0 pre → CBt c (cM c0) pre → (∀ x ∈ r, xok x) → (∀ (i j : Nat) (p q : XD), (pre ++ r)[i]? = some p → (pre ++ r)[j]? = some q → xdN p = xdN q → i = j) → At L i (xls r) → i + (xls r).length ≤ n → cM c0 + (1 + sumf xfz (pre ++ r)) ≤ 24 → (pre ++ r).length ≤ 20 →
    ∃ c', CI c' c0 s0 (pre ++ r) ∧ CBt c' (cM c0) (pre ++ r) ∧ cu L n i c (cM c0 :: s0) 0 0 rt = cu L n (i + (xls r).length) c' (cM c0 :: s0) 0 0 rt
  | [], pre, i, c, hI, hB, _, _, _, _, _, _ => ⟨c, by rw [List.append_nil]; exact hI, by rw [List.append_nil]; exact hB, rfl⟩
  | x :: r, pre, i, c, hI, hB, hx, hd, hL, hn, hM, hl => by
    have hL : At L i (xlt x ++ xls r) := hL
    have hn : i + (xlt x ++ xls r).length ≤ n := hn
    rw [List.length_append] at hn
    have eS : sumf xfz (pre ++ x :: r) = sumf xfz pre + xfz x + sumf xfz r := by rw [sumf_app]; simp [sumf]; omega
    have hl' : pre.length + (r.length + 1) ≤ 20 := by simpa using hl
    obtain ⟨c1, a1, a2, a3⟩ := cu_fld (n := n) (dg := 0) (fr := 0) (rt := rt) hI hB (hx x List.mem_cons_self) (fun y hy e => by
      obtain ⟨jj, hj⟩ := List.getElem?_of_mem hy
      have hlt := (List.getElem?_eq_some_iff.mp hj).1
      have := hd jj pre.length y x (by rw [List.getElem?_append_left hlt]; exact hj) (by rw [List.getElem?_append_right (Nat.le_refl _), Nat.sub_self]; rfl) e
      omega) hL.left (by omega) (by omega) (by omega) hs
    obtain ⟨c2, b1, b2, b3⟩ := cu_xls (n := n) hs r (pre ++ [x]) (i + (xlt x).length) c1 a1 a2 (fun y hy => hx y (List.mem_cons_of_mem _ hy)) (by rw [List.append_assoc]; exact hd) hL.right (by omega) (by rw [List.append_assoc]; exact hM) (by rw [List.append_assoc]; exact hl)
    rw [List.append_assoc] at b1 b2
    refine ⟨c2, b1, b2, ?_⟩
    rw [a3, b3]
    congr 1
    show _ = i + (xlt x ++ xls r).length
    rw [List.length_append]; omega
def CE (c : CT) (q : Nat) (w : List Nat) : Prop := (w = [] → cF c 9 q = 0) ∧ ∀ a b, w = [10 * a + b] → a ≤ 5 → b ≤ 5 → cF c 9 q = 1 ∧ cD c 0 (cF c 8 q) = 61 ∧ cD c 1 (cF c 8 q) = a ∧ cD c 2 (cF c 8 q) = b
def dIn (fs : List XD) (w : List Nat) : Prop := w = [] ∨ ∃ x ∈ fs, ∃ y ∈ fs, w = [10 * xdN x + xdN y]
theorem dIn.ok {fs : List XD} {w : List Nat} (h : dIn fs w) (hx : ∀ x ∈ fs, xok x) : dOK w := by
  rcases h with h | ⟨x, x1, y, y1, e⟩
  · exact Or.inl h
  · have := hx x x1
    have := hx y y1
    exact Or.inr ⟨_, _, e, (hx x x1).1, (hx x x1).2.1, (hx y y1).1, (hx y y1).2.1⟩
theorem CE.co {c c' : CT} {q z : Nat} {w : List Nat} {s : List Nat} (h : CE c q w) (g : XCO c' c s z) (hq : q < cM c) : CE c' q w := by
  obtain ⟨g0, g1, g2, g4, g5, g7, g8, g9, g3, g10⟩ := g.2.2.2 q hq
  refine ⟨fun e => g9.trans (h.1 e), fun a b e ha hb => ?_⟩
  obtain ⟨h1, h2, h3, h4⟩ := h.2 a b e ha hb
  rw [g9, g8, g.2.2.1]
  exact ⟨h1, h2, h3, h4⟩
theorem cu_rec {L : Nat → Nat} {n i : Nat} {c0 : CT} {s0 : List Nat} {fs : List XD} {w : List Nat} {dg fr rt : Nat} (hs : ∀ y ∈ s0, y < cM c0) (hx : ∀ x ∈ fs, xok x) (hd : ∀ (i j : Nat) (p q : XD), fs[i]? = some p → fs[j]? = some q → xdN p = xdN q → i = j) (hw : dIn fs w) (hL : At L i (xrl fs w)) (hn : i + (xrl fs w).length ≤ n) (hM : cM c0 + (1 + sumf xfz fs) ≤ 24) (hl : fs.length ≤ 20) :
    ∃ c', CI c' c0 s0 fs ∧ CE c' (cM c0) w ∧ cu L n i c0 s0 dg fr rt = cu L n (i + (xrl fs w).length) c' (cset c' s0) 0 0 rt := by
  have hlen : (xrl fs w).length = 1 + (xls fs).length + ((depL w).length + 1) := by simp [xrl]; omega
  have h1 := hL.head
  have h2 : At L (i + 1) (xls fs) := hL.tail.left
  have h3 : At L (i + 1 + (xls fs).length) (depL w ++ [125]) := hL.tail.right
  obtain ⟨c1, e1⟩ : ∃ c1, addC c0 s0 123 0 0 dg fr (clv c0 s0) = c1 := ⟨_, rfl⟩
  have o1 : XCO c1 c0 s0 1 := by rw [← e1]; exact XCO_add _ _ _ _ _ _ _ _
  obtain ⟨a0, a1, a2, a3, a4, a5, a10, a7, a9⟩ := aC0 c0 s0 123 0 0 dg fr (clv c0 s0)
  rw [e1] at a0 a1 a2 a3 a4 a5 a10 a7 a9
  have I1 : CI c1 c0 s0 [] := by
    refine ⟨o1.1, ⟨a0, a10, a3, by rw [o1.1]; exact Nat.le_refl _, fun j x h => by simp at h⟩, fun y hy => ?_⟩
    obtain ⟨p0, p1, p2, p4, p5, p7, p8, p9, p3, p10⟩ := o1.2.2.2 y hy
    exact ⟨p0, p3, p10⟩
  have B1 : CBt c1 (cM c0) [] := by
    refine ⟨a9, by rw [a7]; omega, by rw [a7], fun d d1 d5 => ⟨fun z => ?_, fun z => ?_⟩⟩
    · have z : cF c1 7 (cM c0) / 2 ^ d % 2 = 1 := z
      rw [a7, Nat.zero_div] at z
      cases z
    · obtain ⟨y, y1, -⟩ := z
      cases y1
  obtain ⟨c2, I2, B2, e2⟩ := cu_xls (L := L) (n := n) (rt := rt) hs fs [] (i + 1) c1 I1 B1 hx (by rw [List.nil_append]; exact hd) h2 (by omega) (by rw [List.nil_append]; exact hM) (by rw [List.nil_append]; exact hl)
  rw [List.nil_append] at I2 B2
  have start : cu L n i c0 s0 dg fr rt = cu L n (i + 1 + (xls fs).length) c2 (cM c0 :: s0) 0 0 rt := by
    rw [cu_open (sg := 123) h1 (Or.inr (Or.inr rfl)) (by omega) (by omega), e1, e2]
  have shut : ∀ i' c, L i' = 125 → i' < n → cu L n i' c (cM c0 :: s0) 0 0 rt = cu L n (i' + 1) c (cset c s0) 0 0 rt := fun i' c h hi => by
    rw [cu_go hi (cstep_close h), h]
    rfl
  rcases hw with rfl | ⟨x, x1, y, y1, rfl⟩
  · have h3 : At L (i + 1 + (xls fs).length) [125] := h3
    have hlen : (xrl fs []).length = 1 + (xls fs).length + 1 := hlen
    refine ⟨c2, I2, ⟨fun _ => B2.1, fun a b e => by cases e⟩, ?_⟩
    rw [start, shut _ _ h3.head (by omega)]
    congr 1
    omega
  · have hxx := hx x x1
    have hyy := hx y y1
    rw [depL_one hxx.2.1 hyy.2.1] at h3 hlen
    have h3 : At L (i + 1 + (xls fs).length) [61, 96 + xdN x, 96 + xdN y, 125] := h3
    have hlen : (xrl fs [10 * xdN x + xdN y]).length = 1 + (xls fs).length + 4 := hlen
    obtain ⟨i', ei⟩ : ∃ i', i' = i + 1 + (xls fs).length := ⟨_, rfl⟩
    rw [← ei] at h3 start
    have k0 := h3.head
    have k1 := h3.tail.head
    have k2 := h3.tail.tail.head
    have k3 := h3.tail.tail.tail.head
    have es := (cstep_dep (L := L) (i := i') (c := c2) (q := cM c0) (r := s0) (dg := 0) (fr := 0) (rt := rt) (Or.inr k0)).2 (by
      rw [k1, show i' + 2 = i' + 1 + 1 from rfl, k2, Nat.add_sub_cancel_left, Nat.add_sub_cancel_left]
      exact ⟨(B2.2.2.2 _ hxx.1 hxx.2.1).mpr ⟨x, x1, rfl⟩, (B2.2.2.2 _ hyy.1 hyy.2.1).mpr ⟨y, y1, rfl⟩⟩)
    rw [k1, show i' + 2 = i' + 1 + 1 from rfl, k2, Nat.add_sub_cancel_left, Nat.add_sub_cancel_left, k0] at es
    obtain ⟨c3, e3⟩ : ∃ c3, c3 = depC c2 (cM c0) 61 (xdN x) (xdN y) := ⟨_, rfl⟩
    rw [← e3] at es
    have f8 : cF c3 8 (cM c0) = cW c2 := by
      rw [e3]
      show (if cM c0 = cM c0 then (if cF c2 9 (cM c0) = 0 then cW c2 else cF c2 8 (cM c0)) else _) = _
      rw [if_pos rfl, if_pos B2.1]
    have f9 : cF c3 9 (cM c0) = 1 := by
      rw [e3]
      show (if cM c0 = cM c0 then cF c2 9 (cM c0) + 1 else _) = _
      rw [if_pos rfl, B2.1]
    have I3 : CI c3 c0 s0 fs := by rw [e3]; exact I2
    refine ⟨c3, I3, ⟨fun e => by simp at e, fun a b e ha hb => ?_⟩, ?_⟩
    · have e : 10 * xdN x + xdN y = 10 * a + b := by simpa using e
      have := hxx.2.1
      have := hyy.2.1
      have ea : a = xdN x := by omega
      have eb : b = xdN y := by omega
      rw [f8, ea, eb, e3]
      refine ⟨by rw [← e3]; exact f9, ?_, ?_, ?_⟩
      · exact if_pos rfl
      · exact if_pos rfl
      · exact if_pos rfl
    · rw [start, cu_go (by omega) es, k0, show ctl 61 = 2 from rfl, shut _ _ (by rw [show i' + 2 + 1 = i' + 1 + 1 + 1 from rfl]; exact k3) (by omega)]
      congr 1
      omega
