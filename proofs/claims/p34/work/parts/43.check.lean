/-! the check: how many checks, how many dependent ones, of each check: sign 0, low 1, high 2, span 3, digit 4, may lack 5, fields 6, names 7, first dependent 8, dependents 9, how many in it 10, how many levels down 11; of each dependent one: sign 0, one 1, other 2, owner 3; how many fields, and the owner of each -/
abbrev CT : Type := Nat × Nat × (Nat → Nat → Nat) × (Nat → Nat → Nat) × Nat × (Nat → Nat)
abbrev cM (c : CT) : Nat := c.1
abbrev cW (c : CT) : Nat := c.2.1
abbrev cF (c : CT) : Nat → Nat → Nat := c.2.2.1
abbrev cD (c : CT) : Nat → Nat → Nat := c.2.2.2.1
abbrev cN (c : CT) : Nat := c.2.2.2.2.1
abbrev cO (c : CT) : Nat → Nat := c.2.2.2.2.2
abbrev cch (c : CT) (q k : Nat) : Nat := ch (cF c 3) q k
def cnt (p : Nat → Bool) : Nat → Nat
  | 0 => 0
  | n + 1 => cnt p n + (if p n then 1 else 0)
/-- which field of its owner a field is -/
def cK (c : CT) (f : Nat) : Nat := cnt (fun g => decide (cO c g = cO c f)) f
def sgOK (s : Nat) : Prop := s = 42 ∨ s = 35 ∨ s = 33 ∨ s = 126 ∨ s = 123 ∨ s = 64 ∨ s = 38 ∨ s = 47 ∨ s = 94
def inMany (s f : Nat) : Nat := if s = 123 then f else if s = 47 then 2 else if s = 33 ∨ s = 126 ∨ s = 64 ∨ s = 38 then 1 else 0
def WFC (c : CT) : Prop := 1 ≤ cM c ∧ cM c ≤ 24 ∧ cW c ≤ 32 ∧ cN c ≤ 24 ∧ T1 (cM c) (cF c 10) (cF c 3) ∧ cF c 3 0 = cM c ∧ cF c 11 0 = 0 ∧
  (∀ q, q < cM c → sgOK (cF c 0 q) ∧ cF c 1 q ≤ 99 ∧ cF c 2 q ≤ 99 ∧ cF c 4 q ≤ 5 ∧ cF c 5 q ≤ 1 ∧ cF c 7 q ≤ 62 ∧ cF c 10 q = inMany (cF c 0 q) (cF c 6 q) ∧ cF c 8 q + cF c 9 q ≤ cW c ∧ (cF c 0 q = 94 → 1 ≤ cF c 11 q) ∧
    ∀ k, k < cF c 10 q → cF c 11 (cch c q k) = cF c 11 q + (if cF c 0 q = 123 ∨ cF c 0 q = 64 then 1 else 0) ∧ (cF c 0 q = 123 → 1 ≤ cF c 4 (cch c q k) ∧ ∀ j, j < cF c 10 q → cF c 4 (cch c q j) = cF c 4 (cch c q k) → j = k)) ∧
  (∀ q, q < cM c → cF c 0 q = 123 → (∀ d, 1 ≤ d → d ≤ 5 → (cF c 7 q / 2 ^ d % 2 = 1 ↔ ∃ k, k < cF c 10 q ∧ cF c 4 (cch c q k) = d)) ∧ (∀ w, w < cW c → (cD c 3 w = q ↔ cF c 8 q ≤ w ∧ w < cF c 8 q + cF c 9 q)) ∧ cnt (fun g => decide (cO c g = q)) (cN c) = cF c 10 q) ∧
  (∀ w, w < cW c → (cD c 0 w = 60 ∨ cD c 0 w = 61) ∧ 1 ≤ cD c 1 w ∧ cD c 1 w ≤ 5 ∧ 1 ≤ cD c 2 w ∧ cD c 2 w ≤ 5 ∧ cD c 3 w < cM c) ∧
  (∀ f, f < cN c → cO c f < cM c ∧ cF c 0 (cO c f) = 123)
/-- the plan at t holds the check -/
def XC (σ : sS) (t : Nat) (c : CT) : Prop := σ t 13 = nI (cM c) ∧ σ t 14 = nI (cW c) ∧ (∀ f, f < 10 → ∀ q, q < cM c → σ (t + 1 + f) q = nI (cF c f q)) ∧ ∀ f, f < 3 → ∀ w, w < cW c → σ (t + 11 + f) w = nI (cD c f w)
/-- the reference's rows hold it -/
def MC (σ : sS) (c : CT) : Prop := σ 0 20 = nI (cM c) ∧ σ 0 21 = nI (cN c) ∧ σ 0 22 = nI (cW c) ∧ (∀ q, q < cM c → σ 7 q = nI (cF c 0 q) ∧ σ 8 q = nI (cF c 1 q) ∧ σ 9 q = nI (cF c 2 q) ∧ (cF c 0 q ≠ 123 → 1 ≤ cF c 10 q → σ 10 q = nI (cch c q 0)) ∧ (cF c 0 q = 47 → σ 11 q = nI (cch c q 1))) ∧
  (∀ f, f < cN c → σ 12 f = nI (cO c f) ∧ σ 13 f = nI (cF c 4 (cch c (cO c f) (cK c f))) ∧ σ 14 f = nI (cF c 5 (cch c (cO c f) (cK c f))) ∧ σ 15 f = nI (cch c (cO c f) (cK c f))) ∧
  ∀ w, w < cW c → σ 16 w = nI (cD c 3 w) ∧ σ 17 w = nI (cD c 0 w) ∧ σ 18 w = nI (cD c 1 w) ∧ σ 19 w = nI (cD c 2 w)
theorem XC.kept {σ σ' : sS} {t : Nat} {c : CT} (h : XC σ t c) (hk : ∀ x, t ≤ x → x < t + 14 → σ' x = σ x) : XC σ' t c := ⟨by rw [hk t (by omega) (by omega)]; exact h.1, by rw [hk t (by omega) (by omega)]; exact h.2.1, fun f hf q hq => by rw [hk _ (by omega) (by omega)]; exact h.2.2.1 f hf q hq, fun f hf w hw => by rw [hk _ (by omega) (by omega)]; exact h.2.2.2 f hf w hw⟩
/-- only what is read counts -/
theorem MC.on {σ σ' : sS} {c : CT} (w : WFC c) (h : MC σ c) (h0 : ∀ i, 20 ≤ i → i < 23 → σ' 0 i = σ 0 i) (hk : ∀ q ∈ lC, ∀ i, i < q.2 → σ' q.1 i = σ q.1 i) : MC σ' c := by
  obtain ⟨w1, w2, w3, w4, -⟩ := w
  obtain ⟨g1, g2, g3, g4, g5, g6⟩ := h
  refine ⟨by rw [h0 20 (by omega) (by omega)]; exact g1, by rw [h0 21 (by omega) (by omega)]; exact g2, by rw [h0 22 (by omega) (by omega)]; exact g3, fun q hq => ?_, fun f hf => ?_, fun u hu => ?_⟩
  · have hq : q < 25 := by omega
    rw [hk (7, 25) (by decide) q hq, hk (8, 25) (by decide) q hq, hk (9, 25) (by decide) q hq, hk (10, 25) (by decide) q hq, hk (11, 25) (by decide) q hq]
    exact g4 q (by assumption)
  · have hf2 : f < 25 := by omega
    rw [hk (12, 25) (by decide) f hf2, hk (13, 25) (by decide) f hf2, hk (14, 25) (by decide) f hf2, hk (15, 25) (by decide) f hf2]
    exact g5 f hf
  · have hu2 : u < 33 := by omega
    rw [hk (16, 33) (by decide) u hu2, hk (17, 33) (by decide) u hu2, hk (18, 33) (by decide) u hu2, hk (19, 33) (by decide) u hu2]
    exact g6 u hu
theorem MC.kept {σ σ' : sS} {c : CT} (w : WFC c) (h : MC σ c) (h0 : ∀ i, 20 ≤ i → i < 23 → σ' 0 i = σ 0 i) (hk : ∀ x, 7 ≤ x → x < 20 → σ' x = σ x) : MC σ' c := h.on w h0 (fun q hq i _ => by
  have : 7 ≤ q.1 ∧ q.1 < 20 := (show ∀ q ∈ lC, 7 ≤ q.1 ∧ q.1 < 20 by decide) q hq
  rw [hk q.1 this.1 this.2])
theorem XC.ra {σ : sS} {t : Nat} {c : CT} (h : XC σ t c) (w : WFC c) {f q : Nat} (hf : f < 10) (hq : q < cM c) {a : Nat} (ha : a = t + 1 + f) : rd σ a 24 (nI q) = nI (cF c f q) := by
  subst ha
  have := w.2.1
  rw [rd_nI (by omega) (by omega), h.2.2.1 f hf q hq]
theorem XC.rb {σ : sS} {t : Nat} {c : CT} (h : XC σ t c) (w : WFC c) {f u : Nat} (hf : f < 3) (hu : u < cW c) {a : Nat} (ha : a = t + 11 + f) : rd σ a 32 (nI u) = nI (cD c f u) := by
  subst ha
  have := w.2.2.1
  rw [rd_nI (by omega) (by omega), h.2.2.2 f hf u hu]
theorem c_PL_take (Y : List kd) (d t a : Nat) (hd : a + 15 ≤ t ∨ t + 15 ≤ a) {c : CT} (w : WFC c) {σ : sS} (hv : XC σ a c) (k : sS → Prop) (hk : ∀ σ', XC σ' t c → (∀ x, (x < t ∨ t + 14 ≤ x) → σ' x = σ x) → k σ') : CJ Y (d + 2) y_PL_take [sR t (.inl 2), sR a (.inl 2)] σ (rN k) := by
  have hm := w.2.1
  have hw := w.2.2.1
  refine s_PL_take_0 Y (d + 1) t a σ (rN k) ?_
  refine c_GF_copy Y d _ _ 24 (by decide) _ _ ?_
  refine c_GF_copy Y d _ _ 24 (by decide) _ _ ?_
  refine c_GF_copy Y d _ _ 24 (by decide) _ _ ?_
  refine c_GF_copy Y d _ _ 24 (by decide) _ _ ?_
  refine c_GF_copy Y d _ _ 24 (by decide) _ _ ?_
  refine c_GF_copy Y d _ _ 24 (by decide) _ _ ?_
  refine c_GF_copy Y d _ _ 24 (by decide) _ _ ?_
  refine c_GF_copy Y d _ _ 24 (by decide) _ _ ?_
  refine c_GF_copy Y d _ _ 24 (by decide) _ _ ?_
  refine c_GF_copy Y d _ _ 24 (by decide) _ _ ?_
  refine c_GF_copy Y d _ _ 32 (by decide) _ _ ?_
  refine c_GF_copy Y d _ _ 32 (by decide) _ _ ?_
  refine c_GF_copy Y d _ _ 32 (by decide) _ _ ?_
  refine hk _ ⟨?_, ?_, ?_, ?_⟩ ?_
  · rw [up_other _ _ (Or.inr (by omega)), up_self]
    repeat rw [cp_ne (by omega)]
    exact hv.1
  · rw [up_self, up_cell _ _ (by omega)]
    repeat rw [cp_ne (by omega)]
    exact hv.2.1
  · intro f hf q hq
    have hq24 : q < 24 := by omega
    rw [up_cell _ _ (by omega), up_cell _ _ (by omega)]
    rcases (show f = 0 ∨ f = 1 ∨ f = 2 ∨ f = 3 ∨ f = 4 ∨ f = 5 ∨ f = 6 ∨ f = 7 ∨ f = 8 ∨ f = 9 by omega) with rfl | rfl | rfl | rfl | rfl | rfl | rfl | rfl | rfl | rfl
    all_goals
      repeat rw [cp_ne (by omega)]
      rw [cp_self hq24]
      repeat rw [cp_ne (by omega)]
      exact hv.2.2.1 _ (by omega) q hq
  · intro f hf u hu
    have hu32 : u < 32 := by omega
    rw [up_cell _ _ (by omega), up_cell _ _ (by omega)]
    rcases (show f = 0 ∨ f = 1 ∨ f = 2 by omega) with rfl | rfl | rfl
    all_goals
      repeat rw [cp_ne (by omega)]
      rw [cp_self hu32]
      repeat rw [cp_ne (by omega)]
      exact hv.2.2.2 _ (by omega) u hu
  · intro x hx
    rw [up_cell _ _ (by omega), up_cell _ _ (by omega)]
    repeat rw [cp_ne (by omega)]
/-! faults: each 100 times its path and its code; how many wait -/
noncomputable def pB (P : Prop) : Bool := @decide P (Classical.propDecidable P)
theorem pB_t {P : Prop} (h : P) : pB P = true := by unfold pB; exact @decide_eq_true _ (Classical.propDecidable P) h
theorem pB_f {P : Prop} (h : ¬ P) : pB P = false := by unfold pB; exact @decide_eq_false _ (Classical.propDecidable P) h
/-- whether a path goes on from another -/
def blw : Nat → Nat → Nat → Bool
  | 0, r, b => decide (r = b)
  | n + 1, r, b => if b < r then blw n (r / 10) b else decide (r = b)
def anyB (L : List Nat) (b : Nat) : Bool := L.any (fun f => blw 6 (f / 100) b)
def foldR (g : Nat → List Nat × Nat) : Nat → List Nat × Nat
  | 0 => ([], 0)
  | k + 1 => ((foldR g k).1 ++ (g k).1, (foldR g k).2 + (g k).2)
noncomputable def kno (c : CT) (q d : Nat) : Bool := pB (∃ k, k < cF c 10 q ∧ cF c 4 (cch c q k) = d)
noncomputable def dep1 (c : CT) (v : VT) (p : Nat) (s : List Nat × Nat) (w : Nat) : List Nat × Nat :=
  match kidO v p (cD c 1 w), kidO v p (cD c 2 w) with
  | some a, some b => if anyB s.1 (v.2 5 a) || anyB s.1 (v.2 5 b) then (s.1, s.2 + 1) else
      if cD c 0 w = 60 then (if pB (lessV v a b) then s else (s.1 ++ [100 * v.2 5 b + 8], s.2)) else (if pB (sameV v a b) then s else (s.1 ++ [100 * v.2 5 b + 9], s.2))
  | _, _ => (s.1, s.2 + 1)
noncomputable def depK (c : CT) (v : VT) (p f : Nat) (s : List Nat × Nat) : Nat → List Nat × Nat
  | 0 => s
  | k + 1 => dep1 c v p (depK c v p f s k) (f + k)
def numL (c : CT) (v : VT) (q p : Nat) : List Nat := if v.2 0 p ≠ 0 then [100 * v.2 5 p + 1] else if v.2 1 p < cF c 1 q then [100 * v.2 5 p + 2] else if cF c 2 q < v.2 1 p then [100 * v.2 5 p + 3] else []
noncomputable def strL (c : CT) (v : VT) (q p : Nat) : Nat → List Nat × Nat := foldR (fun k => if kno c q (v.2 3 (kch v p k)) then ([], 0) else ([100 * v.2 5 (kch v p k) + 7], 0))
noncomputable def twL (v : VT) (p : Nat) : Nat → List Nat × Nat := foldR (fun k => if pB (∃ e, e < k ∧ sameV v (kch v p e) (kch v p k)) then ([100 * v.2 5 (kch v p k) + 12], 0) else ([], 0))
def lenL (c : CT) (v : VT) (q p : Nat) : List Nat := if v.2 2 p < cF c 1 q ∨ cF c 2 q < v.2 2 p then [100 * v.2 5 p + 11] else []
def fldK (look : Nat → Nat → List Nat × Nat) (c : CT) (v : VT) (q p k : Nat) : List Nat × Nat :=
  match kidO v p (cF c 4 (cch c q k)) with
  | some x => look (cch c q k) x
  | none => if cF c 5 (cch c q k) = 0 then ([100 * (10 * v.2 5 p + cF c 4 (cch c q k)) + 6], 0) else ([], 0)
/-- what looking at a part by a check finds, and how many wait in it -/
noncomputable def lk (c : CT) (v : VT) : Nat → Nat → Nat → List Nat × Nat
  | 0, _, _ => ([], 0)
  | n + 1, q, p =>
    if cF c 0 q = 35 then (numL c v q p, 0)
    else if cF c 0 q = 33 then (if v.2 0 p = 1 then ([100 * v.2 5 p + 4], 0) else lk c v n (q + 1) p)
    else if cF c 0 q = 126 then (if v.2 0 p = 1 then ([], 0) else lk c v n (q + 1) p)
    else if cF c 0 q = 94 then lk c v n 0 p
    else if cF c 0 q = 123 then (if v.2 0 p = 2 then depK c v p (cF c 8 q) ((foldR (fldK (lk c v n) c v q p) (cF c 10 q)).1 ++ (strL c v q p (v.2 2 p)).1, (foldR (fldK (lk c v n) c v q p) (cF c 10 q)).2) (cF c 9 q) else ([100 * v.2 5 p + 5], 0))
    else if cF c 0 q = 64 then (if v.2 0 p = 3 then (lenL c v q p ++ (foldR (fun k => lk c v n (q + 1) (kch v p k)) (v.2 2 p)).1, (foldR (fun k => lk c v n (q + 1) (kch v p k)) (v.2 2 p)).2) else ([100 * v.2 5 p + 10], 0))
    else if cF c 0 q = 38 then (if (lk c v n (q + 1) p).1 = [] then (if v.2 0 p = 3 then (twL v p (v.2 2 p)).1 else [], (lk c v n (q + 1) p).2) else ((lk c v n (q + 1) p).1, (lk c v n (q + 1) p).2 + 1))
    else if cF c 0 q = 47 then (if (lk c v n (q + 1) p).1 = [] then lk c v n (q + 1) p else if (lk c v n (q + 1 + cF c 3 (q + 1)) p).1.length < (lk c v n (q + 1) p).1.length then lk c v n (q + 1 + cF c 3 (q + 1)) p else lk c v n (q + 1) p)
    else ([], 0)
