/-! checks told in letters: fields, dependent ones, ends, the whole -/
theorem bit_new {N d : Nat} (hN : N < 64) (h2 : N % 2 = 0) (h1 : 1 ≤ d) (hd : d ≤ 5) (hn : ¬ N / 2 ^ d % 2 = 1) : N + 2 ^ d < 64 ∧ (N + 2 ^ d) % 2 = 0 ∧ ∀ x, 1 ≤ x → x ≤ 5 → ((N + 2 ^ d) / 2 ^ x % 2 = 1 ↔ N / 2 ^ x % 2 = 1 ∨ x = d) := by
  have := bitsB N hN d (by omega)
  rw [if_neg hn] at this
  refine ⟨this.1, ?_, fun x _ x5 => this.2 x (by omega)⟩
  have h0 := this.2 0 (by omega)
  rw [Nat.pow_zero, Nat.div_one, Nat.div_one] at h0
  omega
theorem GC.field {c : CT} {q : Nat} {r : List Nat} (h : GC 0 c (q :: r) 0) (z : cF c 0 q = 123) (h9 : cF c 9 q = 0) {d : Nat} (hd : 1 ≤ d ∧ d ≤ 5) (hn : ¬ cF c 7 q / 2 ^ d % 2 = 1) : GC 0 (fldC c q d) (q :: r) d := by
  obtain ⟨w1, w2, w3, w4, w5, w6, w7, w8, w9, w10, w11⟩ := h
  have hq : q < cM c := (w4.mem q List.mem_cons_self).1
  obtain ⟨qA, -, -, qD⟩ := w8 q hq
  obtain ⟨qd1, qd2, qd3, qd4⟩ := qD z
  have h64 := qA.2.2.2.2.2.1
  have h20 := qA.2.2.2.2.2.2.1
  obtain ⟨b1, b2, b3⟩ := bit_new h64 h20 hd.1 hd.2 hn
  have hd0 : d ≠ 0 := by omega
  have key : ∀ c', c' = fldC c q d → GC 0 c' (q :: r) d := by
    intro c' e
    have eM : cM c' = cM c := by rw [e]; rfl
    have eW : cW c' = cW c := by rw [e]; rfl
    have eD : cD c' = cD c := by rw [e]; rfl
    have eN : cN c' = cN c + 1 := by rw [e]; rfl
    have eO : ∀ f, cO c' f = if f = cN c then q else cO c f := fun f => by rw [e]; rfl
    have eS : shp c' = shp c := by rw [e]; exact Prod.ext rfl (funext fun f => funext fun y => match f with | 0 => rfl | 1 => rfl | 2 => rfl | 3 => rfl | 4 => rfl | 5 => rfl | 6 => rfl | _ + 7 => rfl)
    have a0 : cF c' 0 = cF c 0 := by rw [e]; rfl
    have a1 : cF c' 1 = cF c 1 := by rw [e]; rfl
    have a2 : cF c' 2 = cF c 2 := by rw [e]; rfl
    have a3 : cF c' 3 = cF c 3 := by rw [e]; rfl
    have a4 : cF c' 4 = cF c 4 := by rw [e]; rfl
    have a5 : cF c' 5 = cF c 5 := by rw [e]; rfl
    have a6 : ∀ y, cF c' 6 y = if y = q then cF c 6 y + 1 else cF c 6 y := fun y => by rw [e]; rfl
    have a7 : ∀ y, cF c' 7 y = if y = q then cF c 7 y + 2 ^ d else cF c 7 y := fun y => by rw [e]; rfl
    have a8 : cF c' 8 = cF c 8 := by rw [e]; rfl
    have a9 : cF c' 9 = cF c 9 := by rw [e]; rfl
    have a10 : cF c' 10 = cF c 10 := by rw [e]; rfl
    have a11 : cF c' 11 = cF c 11 := by rw [e]; rfl
    clear e
    have ech : ∀ p k, cch c' p k = cch c p k := fun p k => by
      show ch (cF c' 3) p k = ch (cF c 3) p k
      rw [a3]
    refine ⟨by rw [eM]; exact w1, by rw [eW]; exact w2, by rw [eM, a10, a3]; exact w3, by rw [eS]; exact w4, fun hm => ?_, fun hm => by omega, fun _ => ⟨q, r, rfl, by rw [a0]; exact z, hd.2, by rw [a9]; exact h9, fun k hk => ?_, by omega, ?_⟩, fun p hp => ⟨?_, ?_, ?_, ?_⟩, opn_congr eW (fun x _ => ?_) w9, ?_, fun f hf => ?_⟩
    · rw [a3, a11, eM, eN, if_neg hd0]
      obtain ⟨r1, r2, r3⟩ := w5 (by omega)
      rw [if_pos rfl] at r3
      exact ⟨r1, r2, by omega⟩
    · rw [a10] at hk
      rw [ech, a4]
      intro y
      exact hn ((qd1 d hd.1 hd.2).mpr (Or.inl ⟨k, hk, y⟩))
    · rw [eO, eN, Nat.add_sub_cancel, if_pos rfl]
    · obtain ⟨p1, p2, p3, p4, p5, p6, p7, p8, p9⟩ := (w8 p (by omega)).1
      unfold gA
      rw [a0, a1, a2, a4, a5, a7, a8, a9, a11, eW]
      refine ⟨p1, p2, p3, p4, p5, ?_, ?_, p8, p9⟩
      · by_cases y : p = q
        · subst y
          rw [if_pos rfl]; exact b1
        · rw [if_neg y]; exact p6
      · by_cases y : p = q
        · subst y
          rw [if_pos rfl]; exact b2
        · rw [if_neg y]; exact p7
    · unfold gB
      rw [a0, a10]
      exact (w8 p (by omega)).2.1
    · unfold gC
      simp only [ech]
      rw [a0, a10, a11, a4]
      exact (w8 p (by omega)).2.2.1
    · intro zp
      rw [a0] at zp
      obtain ⟨p1, p2, p3, p4⟩ := (w8 p (by omega)).2.2.2 zp
      rw [a7, a8, a9, a10, a6, eW, eD, eN, a4]
      simp only [ech]
      have ec : cnt (fun g => decide (cO c' g = p)) (cN c) = cnt (fun g => decide (cO c g = p)) (cN c) := cnt_congr2 (fun g hg => by rw [eO, if_neg (show ¬ g = cN c by omega)])
      have ec1 : cnt (fun g => decide (cO c' g = p)) (cN c + 1) = cnt (fun g => decide (cO c g = p)) (cN c) + (if q = p then 1 else 0) := by
        show cnt (fun g => decide (cO c' g = p)) (cN c) + (if decide (cO c' (cN c) = p) = true then 1 else 0) = _
        rw [ec, eO, if_pos rfl]
        by_cases y : q = p
        · rw [if_pos y, if_pos (decide_eq_true y)]
        · rw [if_neg y, decide_eq_false y]; rfl
      rw [ec1]
      rw [if_neg (show ¬ ((0 : Nat) ≠ 0 ∧ (q :: r).head? = some p) from fun y => y.1 rfl), Nat.add_zero] at p4
      by_cases y : p = q
      · subst y
        rw [if_pos rfl, if_pos rfl, if_pos rfl, if_pos ⟨hd0, rfl⟩]
        refine ⟨fun x x1 x5 => ?_, p2, by omega, by omega⟩
        rw [b3 x x1 x5, p1 x x1 x5]
        constructor
        · rintro ((y | ⟨-, y⟩) | y)
          · exact Or.inl y
          · omega
          · exact Or.inr ⟨rfl, y⟩
        · rintro (y | ⟨-, y⟩)
          · exact Or.inl (Or.inl y)
          · exact Or.inr y
      · have hnh : ¬ (q :: r).head? = some p := fun x => y (head_eq.mp x).symm
        rw [if_neg y, if_neg y, if_neg (fun x => y x.symm), if_neg (fun x => hnh x.2)]
        refine ⟨fun x x1 x5 => ?_, p2, by omega, by omega⟩
        rw [p1 x x1 x5]
        constructor
        · rintro (y | ⟨y, -⟩)
          · exact Or.inl y
          · exact absurd y hnh
        · rintro (y | ⟨y, -⟩)
          · exact Or.inl y
          · exact absurd y hnh
    · rw [a0, a10, a9, a8]
      exact ⟨rfl, rfl, rfl, rfl⟩
    · unfold gW
      rw [eW, eD, eM]
      exact w10
    · rw [eN] at hf
      rw [eO, eM, a0]
      by_cases y : f = cN c
      · rw [if_pos y]
        exact ⟨hq, z⟩
      · rw [if_neg y]
        exact w11 f (by omega)
  exact key _ rfl
theorem GC.dep {c : CT} {q : Nat} {r : List Nat} (h : GC 0 c (q :: r) 0) (z : cF c 0 q = 123) {sg one other : Nat} (hsg : sg = 60 ∨ sg = 61) (h1 : 1 ≤ one ∧ one ≤ 5) (h2 : 1 ≤ other ∧ other ≤ 5) (hW : cW c < 32) : GC 0 (depC c q sg one other) (q :: r) 0 := by
  obtain ⟨w1, w2, w3, w4, w5, w6, w7, w8, w9, w10, w11⟩ := h
  have hq : q < cM c := (w4.mem q List.mem_cons_self).1
  obtain ⟨qA, -, -, qD⟩ := w8 q hq
  obtain ⟨qd1, qd2, qd3, qd4⟩ := qD z
  have qsum := (w9.1.2.2.2 z).2
  have key : ∀ c', c' = depC c q sg one other → GC 0 c' (q :: r) 0 := by
    intro c' e
    have eM : cM c' = cM c := by rw [e]; rfl
    have eW : cW c' = cW c + 1 := by rw [e]; rfl
    have eD0 : ∀ w, cD c' 0 w = if w = cW c then sg else cD c 0 w := fun w => by rw [e]; rfl
    have eD1 : ∀ w, cD c' 1 w = if w = cW c then one else cD c 1 w := fun w => by rw [e]; rfl
    have eD2 : ∀ w, cD c' 2 w = if w = cW c then other else cD c 2 w := fun w => by rw [e]; rfl
    have eD3 : ∀ w, cD c' 3 w = if w = cW c then q else cD c 3 w := fun w => by rw [e]; rfl
    have eN : cN c' = cN c := by rw [e]; rfl
    have eO : cO c' = cO c := by rw [e]; rfl
    have eS : shp c' = shp c := by rw [e]; exact Prod.ext rfl (funext fun f => funext fun y => match f with | 0 => rfl | 1 => rfl | 2 => rfl | 3 => rfl | 4 => rfl | 5 => rfl | 6 => rfl | _ + 7 => rfl)
    have a0 : cF c' 0 = cF c 0 := by rw [e]; rfl
    have a1 : cF c' 1 = cF c 1 := by rw [e]; rfl
    have a2 : cF c' 2 = cF c 2 := by rw [e]; rfl
    have a3 : cF c' 3 = cF c 3 := by rw [e]; rfl
    have a4 : cF c' 4 = cF c 4 := by rw [e]; rfl
    have a5 : cF c' 5 = cF c 5 := by rw [e]; rfl
    have a6 : cF c' 6 = cF c 6 := by rw [e]; rfl
    have a7 : cF c' 7 = cF c 7 := by rw [e]; rfl
    have a8 : ∀ y, cF c' 8 y = if y = q then (if cF c 9 q = 0 then cW c else cF c 8 q) else cF c 8 y := fun y => by rw [e]; rfl
    have a9 : ∀ y, cF c' 9 y = if y = q then cF c 9 y + 1 else cF c 9 y := fun y => by rw [e]; rfl
    have a10 : cF c' 10 = cF c 10 := by rw [e]; rfl
    have a11 : cF c' 11 = cF c 11 := by rw [e]; rfl
    clear e
    have ech : ∀ p k, cch c' p k = cch c p k := fun p k => by
      show ch (cF c' 3) p k = ch (cF c 3) p k
      rw [a3]
    have q8 : cF c' 8 q + cF c' 9 q = cW c + 1 := by
      rw [a8, a9, if_pos rfl, if_pos rfl]
      by_cases y : cF c 9 q = 0
      · rw [if_pos y]; omega
      · rw [if_neg y]
        have := qsum y
        omega
    refine ⟨by rw [eM]; exact w1, by rw [eW]; omega, by rw [eM, a10, a3]; exact w3, by rw [eS]; exact w4, fun hm => ?_, fun hm => by omega, fun y => absurd rfl y, fun p hp => ⟨?_, ?_, ?_, ?_⟩, ⟨⟨?_, ?_, ?_, fun _ => ⟨fun y => absurd y (by decide), fun _ => by rw [q8, eW]⟩⟩, ?_⟩, fun w hw => ?_, ?_⟩
    · rw [a3, a11, eM, eN]
      exact w5 (by omega)
    · obtain ⟨p1, p2, p3, p4, p5, p6, p7, p8, p9⟩ := (w8 p (by omega)).1
      unfold gA
      rw [a0, a1, a2, a4, a5, a7, a11, eW]
      refine ⟨p1, p2, p3, p4, p5, p6, p7, ?_, p9⟩
      by_cases y : p = q
      · subst y
        omega
      · rw [a8, a9, if_neg y, if_neg y]; omega
    · unfold gB
      rw [a0, a10]
      exact (w8 p (by omega)).2.1
    · unfold gC
      simp only [ech]
      rw [a0, a10, a11, a4]
      exact (w8 p (by omega)).2.2.1
    · intro zp
      rw [a0] at zp
      obtain ⟨p1, p2, p3, p4⟩ := (w8 p (by omega)).2.2.2 zp
      have p8 := (w8 p (by omega)).1.2.2.2.2.2.2.2.1
      rw [a7, a10, a6, eW, eN, eO, a4]
      simp only [ech]
      refine ⟨p1, fun w hw => ?_, p3, p4⟩
      rw [eD3]
      by_cases y : p = q
      · subst y
        rw [a8, a9, if_pos rfl, if_pos rfl]
        by_cases x : w = cW c
        · rw [if_pos x]
          by_cases u : cF c 9 p = 0
          · rw [if_pos u]
            exact ⟨fun _ => by omega, fun _ => rfl⟩
          · rw [if_neg u]
            have := qsum u
            exact ⟨fun _ => by omega, fun _ => rfl⟩
        · rw [if_neg x, p2 w (by omega)]
          by_cases u : cF c 9 p = 0
          · rw [if_pos u]; omega
          · rw [if_neg u]
            have := qsum u
            omega
      · rw [a8, a9, if_neg y, if_neg y]
        by_cases x : w = cW c
        · rw [if_pos x]
          exact ⟨fun u => absurd u.symm y, fun u => by omega⟩
        · rw [if_neg x]
          exact p2 w (by omega)
    · rw [a0]; exact w9.1.1
    · exact Nat.zero_le _
    · rw [a0, a10]; exact w9.1.2.2.1
    · have w92 := w9.2
      have key2 : ∀ {s : List Nat}, (∀ x, x ∈ s → x ≠ q) → opn c 1 s → opn c' 1 s := by
        intro s
        induction s with
        | nil => intro _ _; exact True.intro
        | cons x t ih =>
          intro hx ho
          have hne := hx x List.mem_cons_self
          refine ⟨?_, ih (fun y hy => hx y (List.mem_cons_of_mem _ hy)) ho.2⟩
          rw [a0, a10, a9, if_neg hne]
          refine ⟨ho.1.1, ho.1.2.1, ho.1.2.2.1, fun u => ⟨(ho.1.2.2.2 u).1, fun v => absurd ((ho.1.2.2.2 u).1 rfl) v⟩⟩
      refine key2 (fun x hx => ?_) w92
      have := w4.low x hx
      omega
    · rw [eW] at hw
      rw [eD0, eD1, eD2, eD3, eM]
      by_cases x : w = cW c
      · rw [if_pos x, if_pos x, if_pos x, if_pos x]
        exact ⟨hsg, h1.1, h1.2, h2.1, h2.2, hq⟩
      · rw [if_neg x, if_neg x, if_neg x, if_neg x]
        exact w10 w (by omega)
    · unfold gF
      rw [eN, eO, eM, a0]
      exact w11
  exact key _ rfl
theorem gD_tail {c : CT} {s s' : List Nat} {q : Nat} (h : gD c s 0 q) : gD c s' 0 q := by
  intro z
  obtain ⟨d1, d2, d3, d4⟩ := h z
  rw [if_neg (fun y => y.1 rfl)] at d4
  rw [if_neg (fun y => y.1 rfl)]
  refine ⟨fun d x1 x5 => ?_, d2, d3, d4⟩
  rw [d1 d x1 x5]
  constructor
  · rintro (y | ⟨-, y⟩)
    · exact Or.inl y
    · omega
  · rintro (y | ⟨-, y⟩)
    · exact Or.inl y
    · omega
/-- what was opened last is whole -/
theorem GC.pop {b : Nat} {c : CT} {q : Nat} {r : List Nat} (h : GC b c (q :: r) 0) (hq : cF c 0 q ≠ 123 → cF c 10 q = inMany (cF c 0 q) 0) : GC 1 c r 0 := by
  obtain ⟨w1, w2, w3, w4, w5, w6, w7, w8, w9, w10, w11⟩ := h
  refine ⟨w1, w2, w3, w4.tail, w5, w6, fun y => absurd rfl y, fun p hp => ⟨(w8 p hp).1, fun hn z => ?_, (w8 p hp).2.2.1, gD_tail (w8 p hp).2.2.2⟩, w9.2, w10, w11⟩
  by_cases e : p = q
  · subst e; exact hq z
  · exact (w8 p hp).2.1 (fun y => by
      rcases List.mem_cons.mp y with x | x
      · exact e x
      · exact hn x) z
theorem GC.close {c : CT} {q : Nat} {r : List Nat} (h : GC 0 c (q :: r) 0) (z : cF c 0 q = 123) : GC 1 c r 0 := h.pop (fun y => absurd z y)
theorem GC.settle {c : CT} : ∀ {s : List Nat}, GC 1 c s 0 → GC 0 c (cset c s) 0
  | [], h => by
    obtain ⟨w1, w2, w3, w4, w5, w6, w7, w8, w9, w10, w11⟩ := h
    exact ⟨w1, w2, w3, w4, w5, w6, w7, w8, True.intro, w10, w11⟩
  | q :: r, h => by
    by_cases z : cF c 10 q < wnt (cF c 0 q)
    · have e : cset c (q :: r) = q :: r := by unfold cset; exact if_pos z
      rw [e]
      obtain ⟨w1, w2, w3, w4, w5, w6, w7, w8, w9, w10, w11⟩ := h
      exact ⟨w1, w2, w3, w4, w5, w6, w7, w8, ⟨⟨w9.1.1, Nat.zero_le _, z, fun y => ⟨fun x => absurd x (by decide), (w9.1.2.2.2 y).2⟩⟩, w9.2⟩, w10, w11⟩
    · have e : cset c (q :: r) = cset c r := by
        show (if cF c 10 q < wnt (cF c 0 q) then q :: r else cset c r) = cset c r
        exact if_neg z
      rw [e]
      refine GC.settle (h.pop (fun y => ?_))
      obtain ⟨p1, p2, p3, -⟩ := h.2.2.2.2.2.2.2.2.1.1
      unfold wnt at z p3
      unfold inMany
      unfold openS at p1
      rw [if_neg y] at z p3 ⊢
      by_cases x : cF c 0 q = 47
      · rw [if_pos x] at z p3 ⊢; omega
      · rw [if_neg x] at z p3 ⊢
        rw [if_pos (by omega)]
        omega
theorem GC.whole {c : CT} (h : GC 0 c [] 0) (h1 : 1 ≤ cM c) : WFC c := by
  obtain ⟨w1, w2, w3, w4, w5, w6, w7, w8, w9, w10, w11⟩ := h
  obtain ⟨r1, r2, r3⟩ := w5 h1
  rw [if_pos rfl] at r3
  refine ⟨h1, w1, w2, by omega, w3, r1, r2, fun q hq => ?_, fun q hq z => ?_, w10, w11⟩
  · obtain ⟨⟨p1, p2, p3, p4, p5, p6, p7, p8, p9⟩, pB, pC, pD⟩ := w8 q hq
    refine ⟨p1, p2, p3, p4, p5, by omega, ?_, p8, p9, pC⟩
    by_cases y : cF c 0 q = 123
    · have := (pD y).2.2.2
      rw [if_neg (fun y => y.1 rfl)] at this
      unfold inMany
      rw [if_pos y]
      omega
    · rw [pB List.not_mem_nil y]
      unfold inMany
      rw [if_neg y, if_neg y]
  · obtain ⟨d1, d2, d3, d4⟩ := (w8 q hq).2.2.2 z
    rw [if_neg (fun y => y.1 rfl)] at d4
    refine ⟨fun d x1 x5 => ?_, d2, by omega⟩
    rw [d1 d x1 x5]
    constructor
    · rintro (y | ⟨-, y⟩)
      · exact y
      · omega
    · intro y; exact Or.inl y
/-! the open ones as the letters see them -/
abbrev OC : Type := List (Nat × Nat × Bool)
def opC (c : CT) : Nat → List Nat → OC
  | _, [] => []
  | b, q :: r => (cF c 0 q, (if cF c 0 q = 123 then 0 else cF c 10 q - b), decide (cF c 0 q = 123 ∧ cF c 9 q ≠ 0)) :: opC c 1 r
def hstC : OC → Nat
  | [] => 1
  | q :: _ => if q.1 = 123 then (if q.2.2 then 5 else 3) else 0
def mkC : OC → List Nat
  | [] => []
  | q :: r => if q.1 = 123 then 123 :: mkC r else if q.1 = 47 ∧ q.2.1 = 0 then 47 :: mkC r else mkC r
def oset : OC → OC
  | [] => []
  | q :: r => if q.1 = 123 then q :: r else if q.1 = 47 ∧ q.2.1 = 0 then (47, 1, q.2.2) :: r else oset r
theorem cend_oset : ∀ {o : OC}, (∀ q, q ∈ o → q.2.2 = false) → cend (mkC o) = (hstC (oset o), 0, false, mkC (oset o))
  | [], _ => rfl
  | q :: r, h => by
    by_cases z : q.1 = 123
    · have e1 : mkC (q :: r) = 123 :: mkC r := by
        show (if q.1 = 123 then _ else _) = _
        rw [if_pos z]
      have e2 : oset (q :: r) = q :: r := by
        show (if q.1 = 123 then _ else _) = _
        rw [if_pos z]
      have e3 : hstC (q :: r) = 3 := by
        show (if q.1 = 123 then (if q.2.2 = true then 5 else 3) else 0) = 3
        rw [if_pos z, h q List.mem_cons_self]
        rfl
      rw [e2, e3, e1]
      rfl
    · by_cases y : q.1 = 47 ∧ q.2.1 = 0
      · have e1 : mkC (q :: r) = 47 :: mkC r := by
          show (if q.1 = 123 then _ else if q.1 = 47 ∧ q.2.1 = 0 then _ else _) = _
          rw [if_neg z, if_pos y]
        have e2 : oset (q :: r) = (47, 1, q.2.2) :: r := by
          show (if q.1 = 123 then _ else if q.1 = 47 ∧ q.2.1 = 0 then _ else _) = _
          rw [if_neg z, if_pos y]
        rw [e1, e2]
        rfl
      · have e1 : mkC (q :: r) = mkC r := by
          show (if q.1 = 123 then _ else if q.1 = 47 ∧ q.2.1 = 0 then _ else _) = _
          rw [if_neg z, if_neg y]
        have e2 : oset (q :: r) = oset r := by
          show (if q.1 = 123 then _ else if q.1 = 47 ∧ q.2.1 = 0 then _ else _) = _
          rw [if_neg z, if_neg y]
        rw [e1, e2]
        exact cend_oset (fun x hx => h x (List.mem_cons_of_mem _ hx))
/-- of the open ones, what settles is the same -/
theorem oset_cset {c : CT} : ∀ {s : List Nat}, GC 1 c s 0 → oset (opC c 1 s) = opC c 0 (cset c s)
  | [], _ => rfl
  | q :: r, h => by
    obtain ⟨p1, p2, p3, p4⟩ := h.2.2.2.2.2.2.2.2.1.1
    have hkb := h.kb (h.2.2.2.1.mem q List.mem_cons_self).1
    by_cases z : cF c 0 q = 123
    · have e : cset c (q :: r) = q :: r := by
        show (if cF c 10 q < wnt (cF c 0 q) then q :: r else cset c r) = q :: r
        rw [if_pos]
        rw [z]
        exact hkb
      rw [e]
      show (if cF c 0 q = 123 then _ else _) = _
      rw [if_pos z]
      show (cF c 0 q, (if cF c 0 q = 123 then 0 else cF c 10 q - 1), _) :: opC c 1 r = (cF c 0 q, (if cF c 0 q = 123 then 0 else cF c 10 q - 0), _) :: opC c 1 r
      rw [if_pos z, if_pos z]
    · have red : oset (opC c 1 (q :: r)) = if cF c 0 q = 47 ∧ cF c 10 q - 1 = 0 then (47, 1, decide (cF c 0 q = 123 ∧ cF c 9 q ≠ 0)) :: opC c 1 r else oset (opC c 1 r) := by
        show (if cF c 0 q = 123 then _ else if cF c 0 q = 47 ∧ (if cF c 0 q = 123 then 0 else cF c 10 q - 1) = 0 then _ else _) = _
        rw [if_neg z, if_neg z]
      rw [red]
      by_cases y : cF c 0 q = 47 ∧ cF c 10 q - 1 = 0
      · have e : cset c (q :: r) = q :: r := by
          show (if cF c 10 q < wnt (cF c 0 q) then q :: r else cset c r) = q :: r
          rw [if_pos]
          rw [y.1]
          show cF c 10 q < 2
          omega
        rw [if_pos y, e]
        show _ = (cF c 0 q, (if cF c 0 q = 123 then 0 else cF c 10 q - 0), _) :: opC c 1 r
        rw [if_neg z, y.1]
        have : cF c 10 q - 0 = 1 := by omega
        rw [this]
      · have e : cset c (q :: r) = cset c r := by
          show (if cF c 10 q < wnt (cF c 0 q) then q :: r else cset c r) = cset c r
          rw [if_neg]
          unfold wnt
          by_cases x : cF c 0 q = 47
          · rw [if_pos x]
            have : ¬ cF c 10 q - 1 = 0 := fun u => y ⟨x, u⟩
            omega
          · rw [if_neg x, if_neg z]
            omega
        rw [if_neg y, e]
        refine oset_cset (h.pop (fun _ => ?_))
        unfold wnt at p3
        unfold openS at p1
        unfold inMany
        rw [if_neg z]
        by_cases x : cF c 0 q = 47
        · rw [if_pos x] at p3 ⊢
          have : ¬ cF c 10 q - 1 = 0 := fun u => y ⟨x, u⟩
          omega
        · rw [if_neg x, if_neg z] at p3
          rw [if_neg x, if_pos (by omega)]
          omega
/-- of those below the last one, none has a dependent one -/
theorem opC_tail {c : CT} : ∀ {s : List Nat}, opn c 1 s → ∀ q, q ∈ opC c 1 s → q.2.2 = false
  | [], _, q, hq => absurd hq List.not_mem_nil
  | a :: r, h, q, hq => by
    have hq : q ∈ _ :: opC c 1 r := hq
    rcases List.mem_cons.mp hq with e | hq
    · rw [e]
      refine decide_eq_false (fun y => y.2 ?_)
      exact (h.1.2.2.2 y.1).1 rfl
    · exact opC_tail h.2 q hq
