/-! checks told in letters: a check more, a field more, a dependent one more -/
def shp (c : CT) : VT := (cM c, fun f y => match f with
  | 0 => 2
  | 2 => cF c 10 y
  | 4 => cF c 3 y
  | 6 => cF c 12 y
  | _ => 0)
def addC (c : CT) (s : List Nat) (sg lo hi dg fr lv : Nat) : CT := (cM c + 1, cW c, (fun f y => match f with
  | 0 => if y = cM c then sg else cF c 0 y
  | 1 => if y = cM c then lo else cF c 1 y
  | 2 => if y = cM c then hi else cF c 2 y
  | 3 => if y = cM c then 1 else if y ∈ s then cF c 3 y + 1 else cF c 3 y
  | 4 => if y = cM c then dg else cF c 4 y
  | 5 => if y = cM c then fr else cF c 5 y
  | 10 => if y = cM c then 0 else if s.head? = some y then cF c 10 y + 1 else cF c 10 y
  | 11 => if y = cM c then lv else cF c 11 y
  | 12 => if y = cM c then s.length else cF c 12 y
  | f => if y = cM c then 0 else cF c f y), cD c, cN c, cO c)
theorem shp_add (c : CT) (s : List Nat) (sg lo hi dg fr lv : Nat) : shp (addC c s sg lo hi dg fr lv) = addV (shp c) s 2 0 0 := by
  refine Prod.ext rfl (funext fun f => funext fun y => ?_)
  match f with
  | 0 =>
    show 2 = if y = cM c then 2 else 2
    split <;> rfl
  | 1 =>
    show 0 = if y = cM c then 0 else 0
    split <;> rfl
  | 2 => rfl
  | 3 =>
    show 0 = if y = cM c then 0 else 0
    split <;> rfl
  | 4 => rfl
  | 5 => rfl
  | 6 => rfl
  | _ + 7 => rfl
def fldC (c : CT) (q d : Nat) : CT := (cM c, cW c, (fun f y => match f with
  | 6 => if y = q then cF c 6 y + 1 else cF c 6 y
  | 7 => if y = q then cF c 7 y + 2 ^ d else cF c 7 y
  | f => cF c f y), cD c, cN c + 1, fun f => if f = cN c then q else cO c f)
def depC (c : CT) (q sg one other : Nat) : CT := (cM c, cW c + 1, (fun f y => match f with
  | 8 => if y = q then (if cF c 9 q = 0 then cW c else cF c 8 q) else cF c 8 y
  | 9 => if y = q then cF c 9 y + 1 else cF c 9 y
  | f => cF c f y), (fun f w => if w = cW c then (match f with | 0 => sg | 1 => one | 2 => other | _ => q) else cD c f w), cN c, cO c)
def wnt (sg : Nat) : Nat := if sg = 47 then 2 else if sg = 123 then 24 else 1
def leafS (sg : Nat) : Prop := sg = 42 ∨ sg = 35 ∨ sg = 94
def openS (sg : Nat) : Prop := sg = 123 ∨ sg = 47 ∨ sg = 33 ∨ sg = 126 ∨ sg = 64 ∨ sg = 38
def clv (c : CT) : List Nat → Nat
  | [] => 0
  | q :: _ => cF c 11 q + if cF c 0 q = 123 ∨ cF c 0 q = 64 then 1 else 0
def cset (c : CT) : List Nat → List Nat
  | [] => []
  | q :: r => if cF c 10 q < wnt (cF c 0 q) then q :: r else cset c r
def opn (c : CT) : Nat → List Nat → Prop
  | _, [] => True
  | b, q :: r => (openS (cF c 0 q) ∧ b ≤ cF c 10 q ∧ cF c 10 q - b < wnt (cF c 0 q) ∧ (cF c 0 q = 123 → (b = 1 → cF c 9 q = 0) ∧ (cF c 9 q ≠ 0 → cF c 8 q + cF c 9 q = cW c))) ∧ opn c 1 r
theorem opn_congr {c c' : CT} (hW : cW c' = cW c) : ∀ {s : List Nat} {b : Nat}, (∀ q, q ∈ s → cF c' 0 q = cF c 0 q ∧ cF c' 10 q = cF c 10 q ∧ cF c' 9 q = cF c 9 q ∧ cF c' 8 q = cF c 8 q) → opn c b s → opn c' b s
  | [], _, _, _ => True.intro
  | q :: r, b, g, h => by
    obtain ⟨g0, g1, g2, g3⟩ := g q List.mem_cons_self
    refine ⟨?_, opn_congr hW (fun x hx => g x (List.mem_cons_of_mem _ hx)) h.2⟩
    rw [g0, g1, g2, g3, hW]
    exact h.1
theorem opn_mem {c : CT} : ∀ {s : List Nat} {b : Nat}, opn c b s → ∀ q, q ∈ s → openS (cF c 0 q)
  | [], _, _, q, hq => absurd hq List.not_mem_nil
  | a :: r, b, h, q, hq => by
    rcases List.mem_cons.mp hq with rfl | hq
    · exact h.1.1
    · exact opn_mem h.2 q hq
def gA (c : CT) (q : Nat) : Prop := sgOK (cF c 0 q) ∧ cF c 1 q ≤ 99 ∧ cF c 2 q ≤ 99 ∧ cF c 4 q ≤ 5 ∧ cF c 5 q ≤ 1 ∧ cF c 7 q < 64 ∧ cF c 7 q % 2 = 0 ∧ cF c 8 q + cF c 9 q ≤ cW c ∧ (cF c 0 q = 94 → 1 ≤ cF c 11 q)
def gB (c : CT) (s : List Nat) (q : Nat) : Prop := q ∉ s → cF c 0 q ≠ 123 → cF c 10 q = inMany (cF c 0 q) 0
def gC (c : CT) (q : Nat) : Prop := ∀ k, k < cF c 10 q → cF c 11 (cch c q k) = cF c 11 q + (if cF c 0 q = 123 ∨ cF c 0 q = 64 then 1 else 0) ∧ (cF c 0 q = 123 → 1 ≤ cF c 4 (cch c q k) ∧ ∀ j, j < cF c 10 q → cF c 4 (cch c q j) = cF c 4 (cch c q k) → j = k)
def gD (c : CT) (s : List Nat) (dg q : Nat) : Prop := cF c 0 q = 123 → (∀ d, 1 ≤ d → d ≤ 5 → (cF c 7 q / 2 ^ d % 2 = 1 ↔ (∃ k, k < cF c 10 q ∧ cF c 4 (cch c q k) = d) ∨ (s.head? = some q ∧ d = dg))) ∧ (∀ w, w < cW c → (cD c 3 w = q ↔ cF c 8 q ≤ w ∧ w < cF c 8 q + cF c 9 q)) ∧ cnt (fun g => decide (cO c g = q)) (cN c) = cF c 6 q ∧ cF c 6 q = cF c 10 q + (if dg ≠ 0 ∧ s.head? = some q then 1 else 0)
def gP (c : CT) (s : List Nat) (dg : Nat) : Prop := dg ≠ 0 → ∃ q r, s = q :: r ∧ cF c 0 q = 123 ∧ dg ≤ 5 ∧ cF c 9 q = 0 ∧ (∀ k, k < cF c 10 q → cF c 4 (cch c q k) ≠ dg) ∧ 1 ≤ cN c ∧ cO c (cN c - 1) = q
def gW (c : CT) : Prop := ∀ w, w < cW c → (cD c 0 w = 60 ∨ cD c 0 w = 61) ∧ 1 ≤ cD c 1 w ∧ cD c 1 w ≤ 5 ∧ 1 ≤ cD c 2 w ∧ cD c 2 w ≤ 5 ∧ cD c 3 w < cM c
def gF (c : CT) : Prop := ∀ f, f < cN c → cO c f < cM c ∧ cF c 0 (cO c f) = 123
/-- a check that is being told: b is 1 where the one opened last has one more that is whole than is counted; dg is a field's that has no check yet -/
def GC (b : Nat) (c : CT) (s : List Nat) (dg : Nat) : Prop := cM c ≤ 24 ∧ cW c ≤ 32 ∧ T1 (cM c) (cF c 10) (cF c 3) ∧ StkOK (shp c) s ∧ (1 ≤ cM c → cF c 3 0 = cM c ∧ cF c 11 0 = 0 ∧ cN c + 1 ≤ cM c + (if dg = 0 then 0 else 1)) ∧ (cM c = 0 → cN c = 0 ∧ cW c = 0) ∧ gP c s dg ∧ (∀ q, q < cM c → gA c q ∧ gB c s q ∧ gC c q ∧ gD c s dg q) ∧ opn c b s ∧ gW c ∧ gF c
theorem cnt_none {p : Nat → Bool} : ∀ {n : Nat}, (∀ g, g < n → p g = false) → cnt p n = 0
  | 0, _ => rfl
  | n + 1, h => by
    show cnt p n + (if p n then 1 else 0) = 0
    rw [cnt_none (fun g hg => h g (by omega)), h n (by omega)]
    rfl
theorem cnt_congr2 {p p' : Nat → Bool} : ∀ {n : Nat}, (∀ g, g < n → p g = p' g) → cnt p n = cnt p' n
  | 0, _ => rfl
  | n + 1, h => by
    show cnt p n + (if p n then 1 else 0) = cnt p' n + (if p' n then 1 else 0)
    rw [cnt_congr2 (fun g hg => h g (by omega)), h n (by omega)]
theorem stk_zero {v : VT} : ∀ {s : List Nat}, s ≠ [] → StkOK v s → (0 : Nat) ∈ s
  | [], h, _ => absurd rfl h
  | [a], _, h => by rw [h.1]; exact List.mem_cons_self
  | a :: b :: r, _, h => List.mem_cons_of_mem _ (stk_zero (by simp) h.tail)
theorem GC.start : GC 0 (0, 0, fun _ _ => 0, fun _ _ => 0, 0, fun _ => 0) [] 0 :=
  ⟨Nat.zero_le _, Nat.zero_le _, fun p hp => absurd hp (Nat.not_lt_zero _), True.intro, fun h => absurd h (by decide), fun _ => ⟨rfl, rfl⟩, fun h => absurd rfl h, fun q hq => absurd hq (Nat.not_lt_zero _), True.intro, fun w hw => absurd hw (Nat.not_lt_zero _), fun f hf => absurd hf (Nat.not_lt_zero _)⟩
theorem GC.kch {b : Nat} {c : CT} {s : List Nat} {dg : Nat} (h : GC b c s dg) {q k : Nat} (hq : q < cM c) (hk : k < cF c 10 q) : cch c q k < cM c := ch_part h.2.2.1 hq hk
/-- how many levels down what is next stands -/
theorem GC.lev {b : Nat} {c : CT} {s : List Nat} {dg : Nat} (h : GC b c s dg) {q : Nat} {r : List Nat} (e : s = q :: r) : cF c 11 q = clv c r := by
  subst e
  have hs := h.2.2.2.1
  cases r with
  | nil =>
    have h0 : q = 0 := hs.1
    have hm : 0 < cM c := hs.2.1
    rw [h0]
    exact (h.2.2.2.2.1 hm).2.1
  | cons p r =>
    have hp : p < cM c := (hs.mem p (by simp)).1
    have h1 : 1 ≤ cF c 10 p := hs.2.2.2.1
    have e1 : cch c p (cF c 10 p - 1) = q := hs.2.2.2.2.1
    have := ((h.2.2.2.2.2.2.2.1 p hp).2.2.1 (cF c 10 p - 1) (by omega)).1
    rw [e1] at this
    exact this
theorem GC.kb {b : Nat} {c : CT} {s : List Nat} {dg : Nat} (h : GC b c s dg) {q : Nat} (hq : q < cM c) : cF c 10 q < 24 := by
  have h1 := h.2.2.1 q hq
  have h2 := ch_big h.2.2.1 hq (cF c 10 q) (Nat.le_refl _)
  have := h.1
  rw [h1.2.1] at h2
  omega
theorem GC.add {c : CT} {s : List Nat} {dg : Nat} (h : GC 0 c s dg) {sg lo hi fr : Nat} (hM : cM c < 24) (hne : cM c = 0 ∨ s ≠ []) (hpd : ∀ q r, s = q :: r → cF c 0 q = 123 → dg ≠ 0) (hsg : sgOK sg) (hlo : lo ≤ 99) (hhi : hi ≤ 99) (hfr : fr ≤ 1) (h94 : sg = 94 → 1 ≤ clv c s) :
    (leafS sg → GC 1 (addC c s sg lo hi dg fr (clv c s)) s 0) ∧ (¬ leafS sg → GC 0 (addC c s sg lo hi dg fr (clv c s)) (cM c :: s) 0) := by
  obtain ⟨w1, w2, w3, w4, w5, w6, w7, w8, w9, w10, w11⟩ := id h
  have hT := add_T1 (v := shp c) w3 w4 2 0 0
  have hS := add_stk (v := shp c) w3 2 0 0 w4 (m := []) rfl w4
  have hch := fun {p : Nat} (hp : p < cM c) => add_ch (v := shp c) w3 w4 2 0 0 (p := p) hp
  have hch : ∀ p j, p < cM c → (j < cF c 10 p ∨ (j = cF c 10 p ∧ s.head? = some p)) → cch (addC c s sg lo hi dg fr (clv c s)) p j = cch c p j := fun p j hp hj => hch hp j (by
    rcases hj with z | ⟨z1, z2⟩
    · exact Or.inl z
    · exact Or.inr ⟨z1, fun y => y.2 z2⟩)
  rw [← shp_add c s sg lo hi dg fr (clv c s)] at hS
  have hT : T1 (cM (addC c s sg lo hi dg fr (clv c s))) (cF (addC c s sg lo hi dg fr (clv c s)) 10) (cF (addC c s sg lo hi dg fr (clv c s)) 3) := hT
  have key : ∀ c', c' = addC c s sg lo hi dg fr (clv c s) → (leafS sg → GC 1 c' s 0) ∧ (¬ leafS sg → GC 0 c' (cM c :: s) 0) := by
    intro c' e
    rw [← e] at hS hT hch
    have eM : cM c' = cM c + 1 := by rw [e]; rfl
    have eW : cW c' = cW c := by rw [e]; rfl
    have eD : cD c' = cD c := by rw [e]; rfl
    have eN : cN c' = cN c := by rw [e]; rfl
    have eO : cO c' = cO c := by rw [e]; rfl
    have a0 : ∀ y, cF c' 0 y = if y = cM c then sg else cF c 0 y := fun y => by rw [e]; rfl
    have a1 : ∀ y, cF c' 1 y = if y = cM c then lo else cF c 1 y := fun y => by rw [e]; rfl
    have a2 : ∀ y, cF c' 2 y = if y = cM c then hi else cF c 2 y := fun y => by rw [e]; rfl
    have a3 : ∀ y, cF c' 3 y = if y = cM c then 1 else if y ∈ s then cF c 3 y + 1 else cF c 3 y := fun y => by rw [e]; rfl
    have a4 : ∀ y, cF c' 4 y = if y = cM c then dg else cF c 4 y := fun y => by rw [e]; rfl
    have a5 : ∀ y, cF c' 5 y = if y = cM c then fr else cF c 5 y := fun y => by rw [e]; rfl
    have a6 : ∀ y, cF c' 6 y = if y = cM c then 0 else cF c 6 y := fun y => by rw [e]; rfl
    have a7 : ∀ y, cF c' 7 y = if y = cM c then 0 else cF c 7 y := fun y => by rw [e]; rfl
    have a8 : ∀ y, cF c' 8 y = if y = cM c then 0 else cF c 8 y := fun y => by rw [e]; rfl
    have a9 : ∀ y, cF c' 9 y = if y = cM c then 0 else cF c 9 y := fun y => by rw [e]; rfl
    have a10 : ∀ y, cF c' 10 y = if y = cM c then 0 else if s.head? = some y then cF c 10 y + 1 else cF c 10 y := fun y => by rw [e]; rfl
    have a11 : ∀ y, cF c' 11 y = if y = cM c then clv c s else cF c 11 y := fun y => by rw [e]; rfl
    have a12 : ∀ y, cF c' 12 y = if y = cM c then s.length else cF c 12 y := fun y => by rw [e]; rfl
    clear e
    have old : ∀ q, q < cM c → cF c' 0 q = cF c 0 q ∧ cF c' 4 q = cF c 4 q ∧ cF c' 6 q = cF c 6 q ∧ cF c' 7 q = cF c 7 q ∧ cF c' 8 q = cF c 8 q ∧ cF c' 9 q = cF c 9 q ∧ cF c' 11 q = cF c 11 q := fun q hq => by
      have n : ¬ q = cM c := by omega
      rw [a0, a4, a6, a7, a8, a9, a11, if_neg n, if_neg n, if_neg n, if_neg n, if_neg n, if_neg n, if_neg n]
      exact ⟨rfl, rfl, rfl, rfl, rfl, rfl, rfl⟩
    have hmem : ∀ q, q ∈ s → q < cM c := fun q hq => (w4.mem q hq).1
    have hspan : ∀ q, q ∈ s → q + cF c 3 q = cM c := fun q hq => (w4.mem q hq).2.1
    have hk10 : ∀ q, q < cM c → cF c' 10 q = if s.head? = some q then cF c 10 q + 1 else cF c 10 q := fun q hq => by rw [a10, if_neg (show ¬ q = cM c by omega)]
    have hnew : ∀ q, s.head? = some q → cch c' q (cF c 10 q) = cM c := fun q hh => by
      have hq : q ∈ s := by
        cases s with
        | nil => cases hh
        | cons a r => rw [head_eq.mp hh]; exact List.mem_cons_self
      rw [hch q _ (hmem q hq) (Or.inr ⟨rfl, hh⟩)]
      show ch (cF c 3) q (cF c 10 q) = cM c
      rw [(w3 q (hmem q hq)).2.1]
      exact hspan q hq
    have hdg5 : dg ≤ 5 := by
      by_cases z : dg = 0
      · omega
      · obtain ⟨q, r, -, -, z5, -⟩ := w7 z
        exact z5
    have hroot : cF c' 3 0 = cM c' ∧ cF c' 11 0 = 0 ∧ cN c' + 1 ≤ cM c' + (if (0 : Nat) = 0 then 0 else 1) := by
      rw [a3, a11, eM, eN, if_pos rfl]
      by_cases e0 : 0 = cM c
      · have hs0 : s = [] := by
          cases s with
          | nil => rfl
          | cons a r => have := hmem a List.mem_cons_self; omega
        rw [if_pos e0, if_pos e0, hs0, (w6 e0.symm).1]
        exact ⟨by omega, rfl, by omega⟩
      · have hne2 : s ≠ [] := by
          rcases hne with z | z
          · omega
          · exact z
        have m0 := stk_zero hne2 w4
        obtain ⟨r1, r2, r3⟩ := w5 (by omega)
        rw [if_neg e0, if_neg e0, if_pos m0]
        refine ⟨by omega, r2, ?_⟩
        split at r3 <;> omega
    have hA : ∀ q, q < cM c' → gA c' q := by
      intro q hq
      unfold gA
      rw [a0, a1, a2, a4, a5, a7, a8, a9, a11, eW]
      by_cases eq : q = cM c
      · rw [if_pos eq, if_pos eq, if_pos eq, if_pos eq, if_pos eq, if_pos eq, if_pos eq, if_pos eq, if_pos eq]
        exact ⟨hsg, hlo, hhi, hdg5, hfr, by omega, rfl, Nat.zero_le _, h94⟩
      · rw [if_neg eq, if_neg eq, if_neg eq, if_neg eq, if_neg eq, if_neg eq, if_neg eq, if_neg eq, if_neg eq]
        exact (w8 q (by omega)).1
    have hd4 : ∀ q k, q < cM c → k < cF c 10 q → cF c' 4 (cch c' q k) = cF c 4 (cch c q k) ∧ cF c' 11 (cch c' q k) = cF c 11 (cch c q k) := fun q k hq hk => by
      have hlt := GC.kch h hq hk
      rw [hch q k hq (Or.inl hk)]
      exact ⟨(old _ hlt).2.1, (old _ hlt).2.2.2.2.2.2⟩
    have n4 : cF c' 4 (cM c) = dg := by rw [a4, if_pos rfl]
    have n11 : cF c' 11 (cM c) = clv c s := by rw [a11, if_pos rfl]
    have hC : ∀ q, q < cM c' → gC c' q := by
      intro q hq k hk
      by_cases eq : q = cM c
      · rw [a10, if_pos eq] at hk
        omega
      · have hqm : q < cM c := by omega
        obtain ⟨o0, o4, o6, o7, o8, o9, o11⟩ := old q hqm
        obtain ⟨-, -, g3, -⟩ := w8 q hqm
        rw [hk10 q hqm] at hk ⊢
        rw [o0, o11]
        by_cases hh : s.head? = some q
        · rw [if_pos hh] at hk ⊢
          have elv : clv c s = cF c 11 q + (if cF c 0 q = 123 ∨ cF c 0 q = 64 then 1 else 0) := by
            cases s with
            | nil => cases hh
            | cons a r => rw [head_eq.mp hh]; rfl
          have hnd : cF c 0 q = 123 → dg ≠ 0 ∧ ∀ j, j < cF c 10 q → cF c 4 (cch c q j) ≠ dg := fun z => by
            cases s with
            | nil => cases hh
            | cons a r =>
              have e1 := head_eq.mp hh
              subst e1
              have z2 := hpd a r rfl z
              obtain ⟨q', r', e2, -, -, -, e3, -⟩ := w7 z2
              cases e2
              exact ⟨z2, e3⟩
          rcases Nat.lt_or_ge k (cF c 10 q) with y | y
          · rw [(hd4 q k hqm y).1, (hd4 q k hqm y).2]
            refine ⟨(g3 k y).1, fun z => ⟨((g3 k y).2 z).1, fun j hj he => ?_⟩⟩
            rcases Nat.lt_or_ge j (cF c 10 q) with x | x
            · rw [(hd4 q j hqm x).1] at he
              exact ((g3 k y).2 z).2 j x he
            · have : j = cF c 10 q := by omega
              subst this
              rw [hnew q hh, n4] at he
              exact absurd he.symm ((hnd z).2 k y)
          · have : k = cF c 10 q := by omega
            subst this
            rw [hnew q hh, n11, n4]
            refine ⟨elv, fun z => ⟨by have := (hnd z).1; omega, fun j hj he => ?_⟩⟩
            rcases Nat.lt_or_ge j (cF c 10 q) with x | x
            · rw [(hd4 q j hqm x).1] at he
              exact absurd he ((hnd z).2 j x)
            · omega
        · rw [if_neg hh] at hk ⊢
          rw [(hd4 q k hqm hk).1, (hd4 q k hqm hk).2]
          refine ⟨(g3 k hk).1, fun z => ⟨((g3 k hk).2 z).1, fun j hj he => ?_⟩⟩
          rw [(hd4 q j hqm hj).1] at he
          exact ((g3 k hk).2 z).2 j hj he
    have hD : ∀ s', ∀ q, q < cM c' → gD c' s' 0 q := by
      intro s' q hq z
      rw [eW, eD, eN, eO, if_neg (show ¬ ((0 : Nat) ≠ 0 ∧ s'.head? = some q) from fun y => y.1 rfl), Nat.add_zero]
      by_cases eq : q = cM c
      · subst eq
        rw [a7, a8, a9, a10, a6, if_pos rfl, if_pos rfl, if_pos rfl, if_pos rfl, if_pos rfl]
        refine ⟨fun d d1 d5 => ⟨fun y => ?_, fun y => ?_⟩, fun w hw => ⟨fun y => ?_, fun y => by omega⟩, ?_, rfl⟩
        · rw [Nat.zero_div] at y
          exact absurd y (by decide)
        · rcases y with ⟨k, k1, -⟩ | ⟨-, y⟩
          · omega
          · omega
        · have := (w10 w hw).2.2.2.2.2
          omega
        · refine cnt_none (fun g hg => decide_eq_false (fun y => ?_))
          have := (w11 g hg).1
          omega
      · have hqm : q < cM c := by omega
        obtain ⟨o0, o4, o6, o7, o8, o9, o11⟩ := old q hqm
        rw [o0] at z
        obtain ⟨d1, d2, d3, d4⟩ := (w8 q hqm).2.2.2 z
        rw [o7, o8, o9, o6, hk10 q hqm]
        by_cases hh : s.head? = some q
        · have hdg : dg ≠ 0 := by
            cases s with
            | nil => cases hh
            | cons a r => exact hpd a r rfl (by rw [head_eq.mp hh]; exact z)
          rw [if_pos hh]
          rw [if_pos ⟨hdg, hh⟩] at d4
          refine ⟨fun d x1 x5 => ?_, d2, d3, d4⟩
          rw [d1 d x1 x5]
          constructor
          · rintro (⟨k, k1, k2⟩ | ⟨-, y⟩)
            · exact Or.inl ⟨k, by omega, by rw [(hd4 q k hqm k1).1]; exact k2⟩
            · exact Or.inl ⟨cF c 10 q, by omega, by rw [hnew q hh, n4]; exact y.symm⟩
          · rintro (⟨k, k1, k2⟩ | ⟨-, y⟩)
            · rcases Nat.lt_or_ge k (cF c 10 q) with x | x
              · exact Or.inl ⟨k, x, by rw [← (hd4 q k hqm x).1]; exact k2⟩
              · have : k = cF c 10 q := by omega
                subst this
                rw [hnew q hh, n4] at k2
                exact Or.inr ⟨hh, k2.symm⟩
            · omega
        · rw [if_neg hh]
          rw [if_neg (fun y => hh y.2), Nat.add_zero] at d4
          refine ⟨fun d x1 x5 => ?_, d2, d3, d4⟩
          rw [d1 d x1 x5]
          constructor
          · rintro (⟨k, k1, k2⟩ | ⟨y, -⟩)
            · exact Or.inl ⟨k, k1, by rw [(hd4 q k hqm k1).1]; exact k2⟩
            · exact absurd y hh
          · rintro (⟨k, k1, k2⟩ | ⟨-, y⟩)
            · exact Or.inl ⟨k, k1, by rw [← (hd4 q k hqm k1).1]; exact k2⟩
            · omega
    have hB0 : ∀ q, q < cM c → gB c' s q := fun q hq hns z => by
      have hh : ¬ s.head? = some q := fun y => by
        cases s with
        | nil => cases y
        | cons a r => exact hns (by rw [head_eq.mp y]; exact List.mem_cons_self)
      rw [hk10 q hq, if_neg hh, (old q hq).1]
      rw [(old q hq).1] at z
      exact (w8 q hq).2.1 hns z
    have hO : opn c' 1 s := by
      cases s with
      | nil => exact True.intro
      | cons q r =>
        have hq := hmem q List.mem_cons_self
        obtain ⟨o0, o4, o6, o7, o8, o9, o11⟩ := old q hq
        obtain ⟨⟨p1, p2, p3, p4⟩, p5⟩ := w9
        refine ⟨⟨?_, ?_, ?_, fun z => ?_⟩, opn_congr eW (fun x hx => ?_) p5⟩
        · rw [o0]; exact p1
        · rw [hk10 q hq, if_pos (show (q :: r).head? = some q from rfl)]; omega
        · rw [hk10 q hq, if_pos (show (q :: r).head? = some q from rfl), o0]; omega
        · rw [o0] at z
          have z2 := hpd q r rfl z
          obtain ⟨q', r', e2, -, -, e3, -⟩ := w7 z2
          cases e2
          rw [o9]
          exact ⟨fun _ => e3, fun y => absurd e3 y⟩
        · have hx2 := hmem x (List.mem_cons_of_mem _ hx)
          have hnh : ¬ (q :: r).head? = some x := nohead w4 hx
          rw [hk10 x hx2, if_neg hnh]
          exact ⟨(old x hx2).1, rfl, (old x hx2).2.2.2.2.2.1, (old x hx2).2.2.2.2.1⟩
    have hW : gW c' := fun w hw => by
      rw [eW] at hw
      rw [eD, eM]
      obtain ⟨q1, q2, q3, q4, q5, q6⟩ := w10 w hw
      exact ⟨q1, q2, q3, q4, q5, by omega⟩
    have hF : gF c' := fun f hf => by
      rw [eN] at hf
      rw [eO, eM]
      obtain ⟨q1, q2⟩ := w11 f hf
      exact ⟨by omega, by rw [(old _ q1).1]; exact q2⟩
    refine ⟨fun hl => ⟨by omega, by omega, hT, hS, fun _ => hroot, fun z => by omega, fun z => absurd rfl z, fun q hq => ⟨hA q hq, ?_, hC q hq, hD s q hq⟩, hO, hW, hF⟩, fun hl => ⟨by omega, by omega, hT, ?_, fun _ => hroot, fun z => by omega, fun z => absurd rfl z, fun q hq => ⟨hA q hq, ?_, hC q hq, hD _ q hq⟩, ⟨⟨?_, Nat.zero_le _, ?_, fun z => ⟨fun y => absurd y (by decide), fun y => ?_⟩⟩, hO⟩, hW, hF⟩⟩
    · by_cases eq : q = cM c
      · intro _ z
        rw [a0, if_pos eq] at z ⊢
        rw [a10, if_pos eq]
        unfold inMany
        unfold leafS at hl
        rw [if_neg z, if_neg (by omega), if_neg (by omega)]
      · exact hB0 q (by omega)
    · cases s with
      | nil =>
        have hv0 : cM c = 0 := by
          rcases hne with z | z
          · exact z
          · exact absurd rfl z
        refine ⟨hv0, by show 0 < cM c'; omega, ?_, Nat.le_refl _, ?_⟩
        · exact hroot.1
        · show cF c' 12 0 = 0
          rw [a12, if_pos hv0.symm]; rfl
      | cons p r =>
        have hp := hmem p List.mem_cons_self
        have hh : (p :: r).head? = some p := rfl
        refine ⟨by show cM c < cM c'; omega, ?_, Nat.le_refl _, ?_, ?_, ?_, hS⟩
        · show cM c + cF c' 3 (cM c) = cM c'
          rw [a3, if_pos rfl, eM]
        · show 1 ≤ cF c' 10 p
          rw [hk10 p hp, if_pos hh]; omega
        · show cch c' p (cF c' 10 p - 1) = cM c
          rw [hk10 p hp, if_pos hh, Nat.add_sub_cancel]
          exact hnew p hh
        · show cF c' 12 (cM c) = r.length + 1
          rw [a12, if_pos rfl]; rfl
    · by_cases eq : q = cM c
      · intro y
        exact absurd (by rw [eq]; exact List.mem_cons_self) y
      · intro y
        exact hB0 q (by omega) (fun x => y (List.mem_cons_of_mem _ x))
    · rw [a0, if_pos rfl]
      unfold sgOK at hsg
      unfold leafS at hl
      unfold openS
      omega
    · rw [a10, if_pos rfl, a0, if_pos rfl]
      unfold wnt
      split
      · omega
      · split <;> omega
    · rw [a9, if_pos rfl] at y
      exact absurd rfl y
  exact key _ rfl
