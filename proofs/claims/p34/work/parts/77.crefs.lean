/-! checks told in letters: what the reference's rows tell while it reads -/
theorem cK_inj {c : CT} {f g : Nat} (ho : cO c f = cO c g) (hk : cK c f = cK c g) : f = g := by
  unfold cK at hk
  rw [ho] at hk
  rcases Nat.lt_trichotomy f g with z | z | z
  · have := cnt_lt (fun x => decide (cO c x = cO c g)) z (decide_eq_true ho)
    omega
  · exact z
  · have := cnt_lt (fun x => decide (cO c x = cO c g)) z (decide_eq_true rfl)
    omega
theorem cK_lt {c : CT} {f : Nat} (hf : f < cN c) : cK c f < cnt (fun g => decide (cO c g = cO c f)) (cN c) := cnt_lt (fun x => decide (cO c x = cO c f)) hf (decide_eq_true rfl)
/-- how many of the checks in one are whole -/
def tC (c : CT) : Nat → List Nat → Nat → Nat
  | _, [], x => cF c 10 x
  | b, a :: t, x => if x = a then cF c 10 a - b else tC c 1 t x
theorem tC_le (c : CT) : ∀ (s : List Nat) (b x : Nat), tC c b s x ≤ cF c 10 x
  | [], _, _ => Nat.le_refl _
  | a :: t, b, x => by
    show (if x = a then cF c 10 a - b else tC c 1 t x) ≤ _
    by_cases e : x = a
    · rw [if_pos e, e]; omega
    · rw [if_neg e]; exact tC_le c t 1 x
theorem tC_out {c : CT} : ∀ {s : List Nat} {b x : Nat}, x ∉ s → tC c b s x = cF c 10 x
  | [], _, _, _ => rfl
  | a :: t, b, x, h => by
    show (if x = a then cF c 10 a - b else tC c 1 t x) = _
    rw [if_neg (fun e => h (by rw [e]; exact List.mem_cons_self))]
    exact tC_out (fun z => h (List.mem_cons_of_mem _ z))
theorem tC_congr {c c' : CT} {x : Nat} (e : cF c' 10 x = cF c 10 x) : ∀ (s : List Nat) (b : Nat), tC c' b s x = tC c b s x
  | [], _ => e
  | a :: t, b => by
    show (if x = a then cF c' 10 a - b else tC c' 1 t x) = (if x = a then cF c 10 a - b else tC c 1 t x)
    by_cases z : x = a
    · rw [if_pos z, if_pos z, ← z, e]
    · rw [if_neg z, if_neg z]; exact tC_congr e t 1
theorem tC_head (c : CT) (b a : Nat) (t : List Nat) : tC c b (a :: t) a = cF c 10 a - b := if_pos rfl
theorem tC_ne (c : CT) (b : Nat) {a x : Nat} (t : List Nat) (h : x ≠ a) : tC c b (a :: t) x = tC c 1 t x := if_neg h
def MSq (σ : sS) (c : CT) (b : Nat) (s : List Nat) : Prop := ∀ q, q < cM c → σ 7 q = nI (cF c 0 q) ∧ σ 8 q = nI (cF c 1 q) ∧ σ 9 q = nI (cF c 2 q) ∧ (cF c 0 q ≠ 123 → 1 ≤ tC c b s q → σ 10 q = nI (cch c q 0)) ∧ (cF c 0 q = 47 → 2 ≤ tC c b s q → σ 11 q = nI (cch c q 1))
def MSf (σ : sS) (c : CT) (b : Nat) (s : List Nat) : Prop := ∀ f, f < cN c → σ 12 f = nI (cO c f) ∧ (cK c f < cF c 10 (cO c f) → σ 13 f = nI (cF c 4 (cch c (cO c f) (cK c f))) ∧ σ 14 f = nI (cF c 5 (cch c (cO c f) (cK c f)))) ∧ (cK c f < tC c b s (cO c f) → σ 15 f = nI (cch c (cO c f) (cK c f)))
def MSp (σ : sS) (c : CT) (dg fr : Nat) : Prop := dg ≠ 0 → σ 13 (cN c - 1) = nI dg ∧ σ 14 (cN c - 1) = nI fr
def MSw (σ : sS) (c : CT) : Prop := ∀ w, w < cW c → σ 16 w = nI (cD c 3 w) ∧ σ 17 w = nI (cD c 0 w) ∧ σ 18 w = nI (cD c 1 w) ∧ σ 19 w = nI (cD c 2 w)
def mstC (σ : sS) (c : CT) : List Nat → Prop
  | [] => True
  | q :: r => (σ 30 r.length = nI q ∧ σ 32 r.length = nI (cF c 7 q + if cF c 9 q = 0 then 0 else 1) ∧ σ 34 r.length = nI (if 1 ≤ clv c r then 1 else 0) ∧ (cF c 0 q = 123 → 1 ≤ cF c 6 q → ∃ f, f < cN c ∧ σ 33 r.length = nI f ∧ cO c f = q ∧ cK c f + 1 = cF c 6 q)) ∧ mstC σ c r
def MS (σ : sS) (c : CT) (b : Nat) (s : List Nat) : Prop := MSq σ c b s ∧ MSf σ c b s ∧ MSw σ c ∧ mstC σ c s
theorem mstC.kept {σ σ' : sS} {c : CT} : ∀ {s : List Nat}, mstC σ c s → (∀ i, i < s.length → σ' 30 i = σ 30 i ∧ σ' 32 i = σ 32 i ∧ σ' 33 i = σ 33 i ∧ σ' 34 i = σ 34 i) → mstC σ' c s
  | [], _, _ => True.intro
  | q :: r, h, g => by
    obtain ⟨g0, g2, g3, g4⟩ := g r.length (by rw [List.length_cons]; omega)
    refine ⟨?_, mstC.kept h.2 (fun i hi => g i (by rw [List.length_cons]; omega))⟩
    rw [g0, g2, g3, g4]
    exact h.1
/-- where the rows that matter are the same -/
theorem MS.kept {σ σ' : sS} {c : CT} {b : Nat} {s : List Nat} (h : MS σ c b s) (h1 : ∀ x, 7 ≤ x → x ≤ 19 → σ' x = σ x) (h2 : ∀ i, i < s.length → σ' 30 i = σ 30 i ∧ σ' 32 i = σ 32 i ∧ σ' 33 i = σ 33 i ∧ σ' 34 i = σ 34 i) : MS σ' c b s := by
  obtain ⟨m1, m2, m3, m4⟩ := h
  refine ⟨fun q hq => ?_, fun f hf => ?_, fun w hw => ?_, m4.kept h2⟩
  · rw [h1 7 (by omega) (by omega), h1 8 (by omega) (by omega), h1 9 (by omega) (by omega), h1 10 (by omega) (by omega), h1 11 (by omega) (by omega)]
    exact m1 q hq
  · rw [h1 12 (by omega) (by omega), h1 13 (by omega) (by omega), h1 14 (by omega) (by omega), h1 15 (by omega) (by omega)]
    exact m2 f hf
  · rw [h1 16 (by omega) (by omega), h1 17 (by omega) (by omega), h1 18 (by omega) (by omega), h1 19 (by omega) (by omega)]
    exact m3 w hw
theorem mstC.congr {σ : sS} {c c' : CT} (hN : cN c' = cN c) (hO : cO c' = cO c) : ∀ {s : List Nat}, (∀ q, q ∈ s → cF c' 0 q = cF c 0 q ∧ cF c' 7 q = cF c 7 q ∧ cF c' 9 q = cF c 9 q ∧ cF c' 6 q = cF c 6 q ∧ cF c' 11 q = cF c 11 q) → mstC σ c s → mstC σ c' s
  | [], _, _ => True.intro
  | q :: r, g, h => by
    obtain ⟨g0, g7, g9, g6, -⟩ := g q List.mem_cons_self
    have ec : clv c' r = clv c r := by
      cases r with
      | nil => rfl
      | cons p r =>
        obtain ⟨e0, -, -, -, e11⟩ := g p (by simp)
        show cF c' 11 p + (if cF c' 0 p = 123 ∨ cF c' 0 p = 64 then 1 else 0) = _
        rw [e0, e11]
        rfl
    have eK : ∀ f, cK c' f = cK c f := fun f => by
      unfold cK
      rw [hO]
    refine ⟨?_, mstC.congr hN hO (fun x hx => g x (List.mem_cons_of_mem _ hx)) h.2⟩
    obtain ⟨a1, a2, a3, a4⟩ := h.1
    rw [g0, g7, g9, g6, ec, hN, hO]
    refine ⟨a1, a2, a3, fun z1 z2 => ?_⟩
    obtain ⟨f, f1, f2, f3, f4⟩ := a4 z1 z2
    exact ⟨f, f1, f2, f3, by rw [eK]; exact f4⟩
/-- a check more: what is in the others stands where it stood -/
theorem add_cch {c : CT} {s : List Nat} {dg : Nat} (h : GC 0 c s dg) (sg lo hi fr lv : Nat) {p j : Nat} (hp : p < cM c) (hj : j < cF c 10 p ∨ (j = cF c 10 p ∧ s.head? = some p)) : cch (addC c s sg lo hi dg fr lv) p j = cch c p j := by
  have := add_ch (v := shp c) h.2.2.1 h.2.2.2.1 2 0 0 (p := p) hp j (by
    rcases hj with z | ⟨z1, z2⟩
    · exact Or.inl z
    · exact Or.inr ⟨z1, fun y => y.2 z2⟩)
  rw [← shp_add c s sg lo hi dg fr lv] at this
  exact this
theorem add_new {c : CT} {q : Nat} {r : List Nat} {dg : Nat} (h : GC 0 c (q :: r) dg) : cch c q (cF c 10 q) = cM c := by
  have hq := h.2.2.2.1.mem q List.mem_cons_self
  show ch (cF c 3) q (cF c 10 q) = cM c
  rw [(h.2.2.1 q hq.1).2.1]
  exact hq.2.1
theorem MS.add {σ σ' : sS} {c : CT} {s : List Nat} {dg fr : Nat} (h : GC 0 c s dg) (m : MS σ c 0 s) (mp : MSp σ c dg fr) (hpd : ∀ q r, s = q :: r → cF c 0 q = 123 → dg ≠ 0) {sg lo hi lv : Nat} (h7 : σ' 7 (cM c) = nI sg) (h8 : σ' 8 (cM c) = nI lo) (h9 : σ' 9 (cM c) = nI hi) (ho : ∀ x, 7 ≤ x → x ≤ 11 → ∀ y, y ≠ cM c → σ' x y = σ x y) (hx : ∀ x, 12 ≤ x → x ≤ 19 → σ' x = σ x) (hst : ∀ i, i < s.length → σ' 30 i = σ 30 i ∧ σ' 32 i = σ 32 i ∧ σ' 33 i = σ 33 i ∧ σ' 34 i = σ 34 i) : MS σ' (addC c s sg lo hi dg fr lv) 1 s := by
  obtain ⟨m1, m2, m3, m4⟩ := m
  have hs := h.2.2.2.1
  have hgw := h.2.2.2.2.2.2.2.2.2.1
  have hgf := h.2.2.2.2.2.2.2.2.2.2
  have old : ∀ f, f < 10 → f ≠ 3 → ∀ q, q < cM c → cF (addC c s sg lo hi dg fr lv) f q = cF c f q := fun f f1 f3 q hq => aC_old (by omega) f f1 f3
  have e10 : ∀ q, q < cM c → cF (addC c s sg lo hi dg fr lv) 10 q = if s.head? = some q then cF c 10 q + 1 else cF c 10 q := fun q hq => if_neg (by omega)
  have e11 : ∀ q, q < cM c → cF (addC c s sg lo hi dg fr lv) 11 q = cF c 11 q := fun q hq => if_neg (by omega)
  have hns : cM c ∉ s := fun z => by
    have := (hs.mem _ z).1
    have : cM c < cM c := this
    omega
  have et : ∀ q, q < cM c → tC (addC c s sg lo hi dg fr lv) 1 s q = tC c 0 s q := fun q hq => by
    cases s with
    | nil =>
      show cF (addC c [] sg lo hi dg fr lv) 10 q = cF c 10 q
      rw [e10 q hq]
      rfl
    | cons a t =>
      by_cases e : q = a
      · subst e
        rw [tC_head, tC_head, e10 q hq, if_pos (show (q :: t).head? = some q from rfl), Nat.add_sub_cancel, Nat.sub_zero]
      · rw [tC_ne _ _ _ e, tC_ne _ _ _ e]
        refine tC_congr ?_ t 1
        rw [e10 q hq, if_neg (fun z => e (head_eq.mp z).symm)]
  have etn : tC (addC c s sg lo hi dg fr lv) 1 s (cM c) = 0 := by
    rw [tC_out hns]
    exact if_pos rfl
  have ech : ∀ p j, p < cM c → (j < cF c 10 p ∨ (j = cF c 10 p ∧ s.head? = some p)) → cch (addC c s sg lo hi dg fr lv) p j = cch c p j := fun p j hp hj => add_cch h sg lo hi fr lv hp hj
  refine ⟨fun q hq => ?_, fun f hf => ?_, fun w hw => ?_, ?_⟩
  · by_cases e : q = cM c
    · subst e
      refine ⟨?_, ?_, ?_, fun _ z => ?_, fun _ z => ?_⟩
      · rw [h7, show cF (addC c s sg lo hi dg fr lv) 0 (cM c) = sg from if_pos rfl]
      · rw [h8, show cF (addC c s sg lo hi dg fr lv) 1 (cM c) = lo from if_pos rfl]
      · rw [h9, show cF (addC c s sg lo hi dg fr lv) 2 (cM c) = hi from if_pos rfl]
      · rw [etn] at z; omega
      · rw [etn] at z; omega
    · have hq : q < cM c + 1 := hq
      have hq2 : q < cM c := by omega
      obtain ⟨a1, a2, a3, a4, a5⟩ := m1 q hq2
      have hle := tC_le c s 0 q
      rw [ho 7 (by omega) (by omega) q e, ho 8 (by omega) (by omega) q e, ho 9 (by omega) (by omega) q e, ho 10 (by omega) (by omega) q e, ho 11 (by omega) (by omega) q e, old 0 (by omega) (by omega) q hq2, old 1 (by omega) (by omega) q hq2, old 2 (by omega) (by omega) q hq2, et q hq2]
      refine ⟨a1, a2, a3, fun z1 z2 => ?_, fun z1 z2 => ?_⟩
      · rw [ech q 0 hq2 (Or.inl (by omega))]; exact a4 z1 z2
      · rw [ech q 1 hq2 (Or.inl (by omega))]; exact a5 z1 z2
  · have hf : f < cN c := hf
    obtain ⟨a1, a2, a3⟩ := m2 f hf
    obtain ⟨f1, f2⟩ := hgf f hf
    have eK : cK (addC c s sg lo hi dg fr lv) f = cK c f := rfl
    have eO : cO (addC c s sg lo hi dg fr lv) f = cO c f := rfl
    rw [hx 12 (by omega) (by omega), hx 13 (by omega) (by omega), hx 14 (by omega) (by omega), hx 15 (by omega) (by omega), eK, eO, et _ f1, e10 _ f1]
    refine ⟨a1, fun z => ?_, fun z => ?_⟩
    · by_cases y : cK c f < cF c 10 (cO c f)
      · have hk : cch c (cO c f) (cK c f) < cM c := h.kch f1 y
        rw [ech _ _ f1 (Or.inl y), old 4 (by omega) (by omega) _ hk, old 5 (by omega) (by omega) _ hk]
        exact a2 y
      · have hh : s.head? = some (cO c f) := by
          by_cases u : s.head? = some (cO c f)
          · exact u
          · rw [if_neg u] at z; exact absurd z y
        rw [if_pos hh] at z
        have ek : cK c f = cF c 10 (cO c f) := by omega
        cases s with
        | nil => cases hh
        | cons q r =>
          have e1 := head_eq.mp hh
          have z2 := hpd q r rfl (by rw [e1]; exact f2)
          obtain ⟨q', r', e2, -, -, -, -, g1, g2⟩ := h.2.2.2.2.2.2.1 z2
          cases e2
          have hq : q < cM c := by rw [e1]; exact f1
          obtain ⟨d1, d2, d3, d4⟩ := (h.2.2.2.2.2.2.2.1 q hq).2.2.2 (by rw [e1]; exact f2)
          rw [if_pos ⟨z2, rfl⟩] at d4
          have ef : f = cN c - 1 := by
            refine cK_inj (by rw [g2, ← e1]) ?_
            rw [ek, ← e1]
            have hl := cK_lt (c := c) (f := cN c - 1) (by omega)
            rw [g2, d3, d4] at hl
            have hl2 := cK_lt (c := c) (f := f) hf
            rw [← e1, d3, d4] at hl2
            rcases Nat.lt_trichotomy (cK c (cN c - 1)) (cF c 10 q) with y | y | y
            · have hlt : f < cN c - 1 ∨ f = cN c - 1 := by omega
              rcases hlt with y2 | y2
              · have := cnt_lt (fun x => decide (cO c x = q)) y2 (decide_eq_true e1.symm)
                have e5 : cnt (fun x => decide (cO c x = q)) f = cK c f := by unfold cK; rw [← e1]
                have e6 : cnt (fun x => decide (cO c x = q)) (cN c - 1) = cK c (cN c - 1) := by unfold cK; rw [g2]
                rw [e5, e6, ek, ← e1] at this
                omega
              · rw [← y2, ek, ← e1] at y
                omega
            · exact y.symm
            · omega
          have hn := add_new h
          rw [ek, ← e1, ech q _ hq (Or.inr ⟨rfl, rfl⟩), hn, show cF (addC c (q :: r) sg lo hi dg fr lv) 4 (cM c) = dg from if_pos rfl, show cF (addC c (q :: r) sg lo hi dg fr lv) 5 (cM c) = fr from if_pos rfl, ef]
          exact mp z2
    · have hle := tC_le c s 0 (cO c f)
      rw [ech _ _ f1 (Or.inl (by omega))]
      exact a3 z
  · have hw : w < cW c := hw
    rw [hx 16 (by omega) (by omega), hx 17 (by omega) (by omega), hx 18 (by omega) (by omega), hx 19 (by omega) (by omega)]
    exact m3 w hw
  · refine mstC.congr (c := c) (c' := addC c s sg lo hi dg fr lv) rfl rfl (fun q hq => ?_) (m4.kept hst)
    have hq2 : q < cM c := (hs.mem q hq).1
    exact ⟨old 0 (by omega) (by omega) q hq2, old 7 (by omega) (by omega) q hq2, old 9 (by omega) (by omega) q hq2, old 6 (by omega) (by omega) q hq2, e11 q hq2⟩
/-- a field more -/
theorem MS.field {σ σ' : sS} {c : CT} {q : Nat} {r : List Nat} (h : GC 0 c (q :: r) 0) (z : cF c 0 q = 123) (h9 : cF c 9 q = 0) (m : MS σ c 0 (q :: r)) {d fr : Nat} (h12 : σ' 12 (cN c) = nI q) (h33 : σ' 33 r.length = nI (cN c)) (h32 : σ' 32 r.length = nI (cF c 7 q + 2 ^ d)) (ho : ∀ x, 12 ≤ x → x ≤ 15 → ∀ y, y ≠ cN c → σ' x y = σ x y) (hx : ∀ x, (7 ≤ x ∧ x ≤ 11) ∨ (16 ≤ x ∧ x ≤ 19) → σ' x = σ x) (hst : ∀ i, i ≤ r.length → σ' 30 i = σ 30 i ∧ σ' 34 i = σ 34 i ∧ (i ≠ r.length → σ' 32 i = σ 32 i ∧ σ' 33 i = σ 33 i)) : MS σ' (fldC c q d) 0 (q :: r) := by
  obtain ⟨m1, m2, m3, m4⟩ := m
  have hs := h.2.2.2.1
  have hq : q < cM c := (hs.mem q List.mem_cons_self).1
  obtain ⟨d1, d2, d3, d4⟩ := (h.2.2.2.2.2.2.2.1 q hq).2.2.2 z
  rw [if_neg (fun y => y.1 rfl), Nat.add_zero] at d4
  have eO : ∀ f, f < cN c → cO (fldC c q d) f = cO c f := fun f hf => if_neg (by omega)
  have eK : ∀ f, f < cN c → cK (fldC c q d) f = cK c f := fun f hf => by
    unfold cK
    rw [eO f hf]
    exact cnt_congr2 (fun g hg => by rw [eO g (by omega)])
  have eOn : cO (fldC c q d) (cN c) = q := if_pos rfl
  have eKn : cK (fldC c q d) (cN c) = cF c 6 q := by
    rw [← d3]
    unfold cK
    rw [eOn]
    exact cnt_congr2 (fun g hg => by rw [eO g hg])
  have et : ∀ b s x, tC (fldC c q d) b s x = tC c b s x := fun b s x => tC_congr (c := c) (c' := fldC c q d) rfl s b
  have key : ∀ {t : List Nat}, (∀ x, x ∈ t → x < q) → (∀ i, i < t.length → σ' 30 i = σ 30 i ∧ σ' 32 i = σ 32 i ∧ σ' 33 i = σ 33 i ∧ σ' 34 i = σ 34 i) → mstC σ c t → mstC σ' (fldC c q d) t := by
    intro t
    induction t with
    | nil => intro _ _ _; exact True.intro
    | cons x t ih =>
      intro hx hi hm
      obtain ⟨i0, i2, i3, i4⟩ := hi t.length (by rw [List.length_cons]; omega)
      have hxq := hx x List.mem_cons_self
      refine ⟨?_, ih (fun y hy => hx y (List.mem_cons_of_mem _ hy)) (fun i h => hi i (by rw [List.length_cons]; omega)) hm.2⟩
      obtain ⟨a1, a2, a3, a4⟩ := hm.1
      have e7 : cF (fldC c q d) 7 x = cF c 7 x := if_neg (by omega)
      have e6 : cF (fldC c q d) 6 x = cF c 6 x := if_neg (by omega)
      have ecl : clv (fldC c q d) t = clv c t := by cases t <;> rfl
      rw [i0, i2, i3, i4, e7, e6, ecl]
      refine ⟨a1, a2, a3, fun z1 z2 => ?_⟩
      obtain ⟨f, f1, f2, f3, f4⟩ := a4 z1 z2
      exact ⟨f, (show f < cN c + 1 by omega), f2, by rw [eO f f1]; exact f3, by rw [eK f f1]; exact f4⟩
  refine ⟨fun p hp => ?_, fun f hf => ?_, fun w hw => ?_, ⟨?_, ?_, ?_, fun _ _ => ⟨cN c, Nat.lt_succ_self _, h33, eOn, ?_⟩⟩, key (fun x hx => hs.low x hx) (fun i hi => ?_) m4.2⟩
  · rw [hx 7 (by omega), hx 8 (by omega), hx 9 (by omega), hx 10 (by omega), hx 11 (by omega), et]
    exact m1 p hp
  · have hf : f < cN c + 1 := hf
    by_cases e : f = cN c
    · subst e
      have hle := tC_le c (q :: r) 0 q
      refine ⟨by rw [eOn]; exact h12, fun y => ?_, fun y => ?_⟩
      · rw [eOn, eKn, d4] at y
        exact absurd y (Nat.lt_irrefl _)
      · rw [eOn, eKn, d4, et] at y
        omega
    · have hf2 : f < cN c := by omega
      rw [ho 12 (by omega) (by omega) f e, ho 13 (by omega) (by omega) f e, ho 14 (by omega) (by omega) f e, ho 15 (by omega) (by omega) f e, eO f hf2, eK f hf2, et]
      exact m2 f hf2
  · rw [hx 16 (by omega), hx 17 (by omega), hx 18 (by omega), hx 19 (by omega)]
    exact m3 w hw
  · rw [(hst _ (Nat.le_refl _)).1]; exact m4.1.1
  · rw [h32]
    have e7 : cF (fldC c q d) 7 q = cF c 7 q + 2 ^ d := if_pos rfl
    have e9 : cF (fldC c q d) 9 q = 0 := h9
    rw [e7, if_pos e9]
    rfl
  · rw [(hst _ (Nat.le_refl _)).2.1]
    have ecl : clv (fldC c q d) r = clv c r := by cases r <;> rfl
    rw [ecl]
    exact m4.1.2.2.1
  · rw [eKn]
    exact (if_pos rfl : cF (fldC c q d) 6 q = cF c 6 q + 1).symm
  · obtain ⟨y1, y2, y3⟩ := hst i (by omega)
    obtain ⟨y4, y5⟩ := y3 (by omega)
    exact ⟨y1, y4, y5, y2⟩
/-- a dependent one more -/
theorem MS.dep {σ σ' : sS} {c : CT} {q : Nat} {r : List Nat} (h : GC 0 c (q :: r) 0) (m : MS σ c 0 (q :: r)) {sg one other : Nat} (h16 : σ' 16 (cW c) = nI q) (h17 : σ' 17 (cW c) = nI sg) (h18 : σ' 18 (cW c) = nI one) (h19 : σ' 19 (cW c) = nI other) (h32 : σ' 32 r.length = nI (cF c 7 q + 1)) (ho : ∀ x, 16 ≤ x → x ≤ 19 → ∀ y, y ≠ cW c → σ' x y = σ x y) (hx : ∀ x, 7 ≤ x → x ≤ 15 → σ' x = σ x) (hst : ∀ i, i ≤ r.length → σ' 30 i = σ 30 i ∧ σ' 34 i = σ 34 i ∧ σ' 33 i = σ 33 i ∧ (i ≠ r.length → σ' 32 i = σ 32 i)) : MS σ' (depC c q sg one other) 0 (q :: r) := by
  obtain ⟨m1, m2, m3, m4⟩ := m
  have hs := h.2.2.2.1
  have et : ∀ b s x, tC (depC c q sg one other) b s x = tC c b s x := fun b s x => tC_congr (c := c) (c' := depC c q sg one other) rfl s b
  have key : ∀ {t : List Nat}, (∀ x, x ∈ t → x < q) → (∀ i, i < t.length → σ' 30 i = σ 30 i ∧ σ' 32 i = σ 32 i ∧ σ' 33 i = σ 33 i ∧ σ' 34 i = σ 34 i) → mstC σ c t → mstC σ' (depC c q sg one other) t := by
    intro t
    induction t with
    | nil => intro _ _ _; exact True.intro
    | cons x t ih =>
      intro hx hi hm
      obtain ⟨i0, i2, i3, i4⟩ := hi t.length (by rw [List.length_cons]; omega)
      have hxq := hx x List.mem_cons_self
      refine ⟨?_, ih (fun y hy => hx y (List.mem_cons_of_mem _ hy)) (fun i h => hi i (by rw [List.length_cons]; omega)) hm.2⟩
      have e9 : cF (depC c q sg one other) 9 x = cF c 9 x := if_neg (by omega)
      have ecl : clv (depC c q sg one other) t = clv c t := by cases t <;> rfl
      rw [i0, i2, i3, i4, e9, ecl]
      exact hm.1
  refine ⟨fun p hp => ?_, fun f hf => ?_, fun w hw => ?_, ⟨?_, ?_, ?_, ?_⟩, key (fun x hx => hs.low x hx) (fun i hi => ?_) m4.2⟩
  · rw [hx 7 (by omega) (by omega), hx 8 (by omega) (by omega), hx 9 (by omega) (by omega), hx 10 (by omega) (by omega), hx 11 (by omega) (by omega), et]
    exact m1 p hp
  · rw [hx 12 (by omega) (by omega), hx 13 (by omega) (by omega), hx 14 (by omega) (by omega), hx 15 (by omega) (by omega), et]
    exact m2 f hf
  · have hw : w < cW c + 1 := hw
    by_cases e : w = cW c
    · subst e
      refine ⟨?_, ?_, ?_, ?_⟩
      · rw [show cD (depC c q sg one other) 3 (cW c) = q from if_pos rfl]; exact h16
      · rw [show cD (depC c q sg one other) 0 (cW c) = sg from if_pos rfl]; exact h17
      · rw [show cD (depC c q sg one other) 1 (cW c) = one from if_pos rfl]; exact h18
      · rw [show cD (depC c q sg one other) 2 (cW c) = other from if_pos rfl]; exact h19
    · have ed : ∀ f, cD (depC c q sg one other) f w = cD c f w := fun f => if_neg e
      rw [ho 16 (by omega) (by omega) w e, ho 17 (by omega) (by omega) w e, ho 18 (by omega) (by omega) w e, ho 19 (by omega) (by omega) w e, ed, ed, ed, ed]
      exact m3 w (by omega)
  · rw [(hst _ (Nat.le_refl _)).1]; exact m4.1.1
  · have e9 : cF (depC c q sg one other) 9 q = cF c 9 q + 1 := if_pos rfl
    have e7 : cF (depC c q sg one other) 7 q = cF c 7 q := rfl
    rw [h32, e7, e9, if_neg (Nat.succ_ne_zero _)]
  · rw [(hst _ (Nat.le_refl _)).2.1]
    have ecl : clv (depC c q sg one other) r = clv c r := by cases r <;> rfl
    rw [ecl]
    exact m4.1.2.2.1
  · rw [(hst _ (Nat.le_refl _)).2.2.1]
    exact m4.1.2.2.2
  · obtain ⟨y1, y2, y3, y4⟩ := hst i (by omega)
    exact ⟨y1, y4 (by omega), y3, y2⟩
