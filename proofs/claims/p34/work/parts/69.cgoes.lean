/-! checks told in letters: which letter can go on; the class's stumble -/
abbrev CA : Type := Nat × Nat × Bool × List Nat
def cend (s : List Nat) : CA := match s with
  | [] => (1, 0, false, [])
  | q :: r => if q = 47 then (0, 0, false, r) else (3, 0, false, q :: r)
def cbeg (s : List Nat) (c : Nat) : Option CA := if c = 42 ∨ c = 94 then some (cend s) else if c = 35 then some (2, 4, false, s) else if c = 64 then some (2, 2, true, s) else if c = 33 ∨ c = 126 ∨ c = 38 then some (0, 0, false, s) else if c = 47 then some (0, 0, false, 47 :: s) else if c = 123 then some (3, 0, false, 123 :: s) else none
def clast (s : List Nat) (c : Nat) : Option CA := if c = 60 ∨ c = 61 then some (6, 2, false, s) else if c = 125 then some (cend s.tail) else none
def cgo (a : CA) (c : Nat) : Option CA :=
  if a.1 = 0 then cbeg a.2.2.2 c
  else if a.1 = 2 then (if isD c then some (if a.2.1 - 1 = 0 then (if a.2.2.1 then (0, 0, false, a.2.2.2) else cend a.2.2.2) else (2, a.2.1 - 1, a.2.2.1, a.2.2.2)) else none)
  else if a.1 = 3 then (if c = 46 then some (4, 0, false, a.2.2.2) else if isN c then some (0, 0, false, a.2.2.2) else clast a.2.2.2 c)
  else if a.1 = 4 then (if isN c then some (0, 0, false, a.2.2.2) else none)
  else if a.1 = 5 then clast a.2.2.2 c
  else if a.1 = 6 then (if isN c then some (if a.2.1 - 1 = 0 then (5, 0, false, a.2.2.2) else (6, a.2.1 - 1, false, a.2.2.2)) else none)
  else none
/-- the first letter that cannot go on; so many letters are left -/
def cst (L : Nat → Nat) : Nat → Nat → CA → Option Nat
  | 0, i, a => if a.1 = 1 then none else some i
  | m + 1, i, a => match cgo a (L i) with
    | none => some i
    | some b => cst L m (i + 1) b
theorem cst_step {L : Nat → Nat} {n i : Nat} (hi : i < n) {a b : CA} (h : cgo a (L i) = some b) : cst L (n - i) i a = cst L (n - (i + 1)) (i + 1) b := by
  have e : n - i = (n - (i + 1)) + 1 := by omega
  rw [e]
  conv => lhs; unfold cst
  rw [h]
theorem cst_stop {L : Nat → Nat} {n i : Nat} (hi : i ≤ n) {a : CA} (h1 : a.1 ≠ 1) (h : i < n → cgo a (L i) = none) : cst L (n - i) i a = some i := by
  by_cases z : i < n
  · have e : n - i = (n - (i + 1)) + 1 := by omega
    rw [e]
    unfold cst
    rw [h z]
  · have e : n - i = 0 := by omega
    rw [e]
    unfold cst
    rw [if_neg h1]
theorem cst_le (L : Nat → Nat) : ∀ m i a p, cst L m i a = some p → p ≤ i + m
  | 0, i, a, p, h => by
    unfold cst at h
    split at h
    · cases h
    · cases h; exact Nat.le_refl _
  | m + 1, i, a, p, h => by
    unfold cst at h
    split at h
    · cases h; omega
    · have := cst_le L m (i + 1) _ p h
      omega
/-! how the class keeps it -/
def RCA (σ : sS) (t : Nat) (a : CA) : Prop := σ t 1 = nI a.2.2.2.length ∧ σ t 2 = nI a.1 ∧ ((a.1 = 2 ∨ a.1 = 6) → σ t 6 = nI a.2.1 ∧ 1 ≤ a.2.1 ∧ a.2.1 ≤ 4) ∧ (a.1 = 2 → σ t 7 = if a.2.2.1 then 1 else 0) ∧ stk σ (t + 1) a.2.2.2
theorem RCA.of {σ : sS} {t st ow : Nat} {ld : Bool} {s : List Nat} (h1 : σ t 1 = nI s.length) (h2 : σ t 2 = nI st) (hs : stk σ (t + 1) s) (n2 : st ≠ 2) (n6 : st ≠ 6) : RCA σ t (st, ow, ld, s) := by
  refine ⟨h1, h2, fun z => ?_, fun z => absurd z n2, hs⟩
  rcases z with z | z
  · exact absurd z n2
  · exact absurd z n6
def rKC (t : Nat) (σ σ' : sS) : Prop := (∀ x, x ≠ t → x ≠ t + 1 → σ' x = σ x) ∧ ∀ i, i ≠ 1 → i ≠ 2 → i ≠ 6 → i ≠ 7 → σ' t i = σ t i
theorem rKC.refl (t : Nat) (σ : sS) : rKC t σ σ := ⟨fun _ _ _ => rfl, fun _ _ _ _ _ => rfl⟩
theorem rKC.trans {t : Nat} {σ σ1 σ2 : sS} (h : rKC t σ σ1) (g : rKC t σ1 σ2) : rKC t σ σ2 := ⟨fun x h1 h2 => by rw [g.1 x h1 h2, h.1 x h1 h2], fun i h1 h2 h3 h4 => by rw [g.2 i h1 h2 h3 h4, h.2 i h1 h2 h3 h4]⟩
theorem rKC.up {t : Nat} (σ : sS) {i : Nat} (hi : i = 1 ∨ i = 2 ∨ i = 6 ∨ i = 7) (x : Int32) : rKC t σ (up σ t i x) := ⟨fun y h1 _ => up_cell _ _ h1, fun j h1 h2 h3 h4 => up_other _ _ (Or.inr (by omega))⟩
theorem c_RD_topC (Y : List kd) (d t : Nat) {σ : sS} {s : List Nat} (h1 : σ t 1 = nI s.length) (hs : stk σ (t + 1) s) (hl : s.length ≤ 96) (k : Int32 → sS → Prop) (hk : k (match s with | [] => -1 | q :: _ => nI q) σ) : CJ Y (d + 1) y_RD_top [sR t (.inl 0)] σ (rI k) := by
  refine s_RD_topC_0 Y d t σ (rI k) ⟨fun hz => ?_, fun hz => ?_⟩
  · rw [h1, lit 0, i32_lt (by omega) (by omega)] at hz
    cases s with
    | nil => exact hk
    | cons q r => rw [List.length_cons] at hz; omega
  · rw [h1, lit 0, i32_lt (by omega) (by omega)] at hz
    cases s with
    | nil => exact absurd hz (Nat.lt_irrefl _)
    | cons q r =>
      rw [List.length_cons] at h1 hl
      have e : nI (r.length + 1) - 1 = nI r.length := by
        have := nI_subm (a := r.length + 1) (b := 1) (by omega)
        exact this
      rw [h1, e, rd_nI (by omega) (by omega), hs.1]
      exact hk
theorem c_RD_popC (Y : List kd) (d t : Nat) {σ : sS} {s : List Nat} (h1 : σ t 1 = nI s.length) (hl : s.length ≤ 96) (k : sS → Prop) (hk : ∀ σ', σ' t 1 = nI s.tail.length → (∀ x, x ≠ t → σ' x = σ x) → (∀ i, i ≠ 1 → σ' t i = σ t i) → k σ') : CJ Y d y_RD_pop [sR t (.inl 0)] σ (rN k) := by
  refine s_RD_popC_0 Y d t σ (rN k) ⟨fun hz => ?_, fun hz => ?_⟩
  · rw [h1, lit 0, i32_lt (by omega) (by omega)] at hz
    cases s with
    | nil => exact hk σ h1 (fun _ _ => rfl) (fun _ _ => rfl)
    | cons q r => rw [List.length_cons] at hz; omega
  · rw [h1, lit 0, i32_lt (by omega) (by omega)] at hz
    cases s with
    | nil => exact absurd hz (Nat.lt_irrefl _)
    | cons q r =>
      rw [List.length_cons] at h1 hl
      refine hk _ ?_ (fun x hx => up_cell _ _ hx) (fun i hi => up_other _ _ (Or.inr hi))
      rw [up_self, h1]
      exact nI_subm (a := r.length + 1) (b := 1) (by omega)
theorem c_RD_pushC (Y : List kd) (d t : Nat) {σ : sS} {s : List Nat} (h1 : σ t 1 = nI s.length) (hs : stk σ (t + 1) s) (hl : s.length < 96) (q : Nat) (k : sS → Prop) (hk : ∀ σ', σ' t 1 = nI (s.length + 1) → stk σ' (t + 1) (q :: s) → (∀ x, x ≠ t → x ≠ t + 1 → σ' x = σ x) → (∀ i, i ≠ 1 → σ' t i = σ t i) → k σ') : CJ Y (d + 1) y_RD_push [sR t (.inl 0), sI (nI q)] σ (rN k) := by
  refine s_RD_pushC_0 Y d t (nI q) σ (rN k) ?_
  rw [h1, wr_nI (by omega) (by omega), up_cell _ _ (by omega), h1, nI_s1]
  refine hk _ (up_self _ _ _ _) ⟨?_, ?_⟩ (fun x h1 h2 => by rw [up_cell _ _ h1, up_cell _ _ h2]) (fun i hi => by rw [up_other _ _ (Or.inr hi), up_cell _ _ (by omega)])
  · rw [up_cell _ _ (by omega), up_self]
  · exact hs.kept (fun i hi => by rw [up_cell _ _ (by omega), up_other _ _ (Or.inr (by omega))])
theorem c_CR_ends (Y : List kd) (d t : Nat) {σ : sS} {s : List Nat} (h1 : σ t 1 = nI s.length) (hs : stk σ (t + 1) s) (hl : s.length ≤ 96) (hq : ∀ q ∈ s, q < 2 ^ 31) (k : sS → Prop) (hk : ∀ σ', RCA σ' t (cend s) → rKC t σ σ' → k σ') : CJ Y (d + 2) y_CR_ends [sR t (.inl 0)] σ (rN k) := by
  refine s_CR_ends_0 Y (d + 1) t σ (rN k) ⟨fun hz => ?_, fun hz => ?_⟩
  · rw [h1, z_eq (by omega) 0 (by omega)] at hz
    cases s with
    | nil => exact absurd rfl hz
    | cons q r =>
      refine c_RD_topC Y d t h1 hs hl _ ⟨fun hne => ?_, fun he => ?_⟩
      · have hne : ¬ nI q = 47 := hne
        rw [z_eq (hq q List.mem_cons_self) 47 (by omega)] at hne
        have e : cend (q :: r) = (3, 0, false, q :: r) := by unfold cend; exact if_neg hne
        rw [e] at hk
        refine hk _ (RCA.of ?_ (up_self _ _ _ _) (hs.kept (fun i _ => by rw [up_cell _ _ (by omega)])) (by omega) (by omega)) (rKC.up σ (by omega) _)
        rw [up_other _ _ (Or.inr (by omega))]; exact h1
      · have he : nI q = 47 := he
        rw [z_eq (hq q List.mem_cons_self) 47 (by omega)] at he
        have e : cend (q :: r) = (0, 0, false, r) := by unfold cend; exact if_pos he
        rw [e] at hk
        refine c_RD_popC Y (d + 1) t h1 hl _ (fun σ1 a1 a2 a3 => ?_)
        refine hk _ (RCA.of ?_ (up_self _ _ _ _) (hs.2.kept (fun i _ => by rw [up_cell _ _ (by omega), a2 _ (by omega)])) (by omega) (by omega)) ⟨fun x x1 x2 => by rw [up_cell _ _ x1, a2 x x1], fun i i1 i2 _ _ => by rw [up_other _ _ (Or.inr i2), a3 i i1]⟩
        rw [up_other _ _ (Or.inr (by omega))]; exact a1
  · rw [h1, z_eq (by omega) 0 (by omega)] at hz
    cases s with
    | nil =>
      refine hk _ (RCA.of ?_ (up_self _ _ _ _) True.intro (by omega) (by omega)) (rKC.up σ (by omega) _)
      rw [up_other _ _ (Or.inr (by omega))]; exact h1
    | cons q r => rw [List.length_cons] at hz; omega
theorem c_CR_begins (Y : List kd) (d t : Nat) {σ : sS} {s : List Nat} (h1 : σ t 1 = nI s.length) (h2 : σ t 2 = 0) (hs : stk σ (t + 1) s) (hl : s.length < 96) (hq : ∀ q ∈ s, q < 2 ^ 31) {c : Nat} (hc : c < 256) (k : Int32 → sS → Prop) (hk1 : ∀ b σ', cbeg s c = some b → RCA σ' t b → rKC t σ σ' → k 1 σ') (hk0 : cbeg s c = none → k 0 σ) : CJ Y (d + 3) y_CR_begins [sR t (.inl 0), sI (nI c)] σ (rI k) := by
  refine s_CR_begins_0 Y (d + 2) t _ σ (rI k) ?_
  rw [z_eq (by omega) 33 (by omega), z_eq (by omega) 35 (by omega), z_eq (by omega) 38 (by omega), z_eq (by omega) 42 (by omega), z_eq (by omega) 47 (by omega), z_eq (by omega) 64 (by omega), z_eq (by omega) 94 (by omega), z_eq (by omega) 123 (by omega), z_eq (by omega) 126 (by omega)]
  have stay : (c = 33 ∨ c = 126 ∨ c = 38) → ((1 : Int32) = 0 ∨ (1 : Int32) = 1) ∧ k 1 σ := fun hz => by
    refine ⟨Or.inr rfl, hk1 (0, 0, false, s) σ ?_ (RCA.of h1 h2 hs (by omega) (by omega)) (rKC.refl t σ)⟩
    unfold cbeg
    rw [if_neg (by omega), if_neg (by omega), if_neg (by omega), if_pos hz]
  have fin : (c = 42 ∨ c = 94) → CJ Y (d + 2) y_CR_ends [sR t (.inl 0)] σ (rN fun σ4 => ((1 : Int32) = 0 ∨ (1 : Int32) = 1) ∧ k 1 σ4) := fun hz => by
    refine c_CR_ends Y d t h1 hs (by omega) hq _ (fun σ' g1 g2 => ⟨Or.inr rfl, hk1 (cend s) σ' ?_ g1 g2⟩)
    unfold cbeg
    rw [if_pos hz]
  have numb : ∀ (m : Nat) (b : CA), cbeg s c = some b → b = (2, m, decide (c = 64), s) → 1 ≤ m → m ≤ 4 → Jd Y (d + 3) y_CR_begins 107 [(0, sR t (.inl 0)), (1, sI (nI c))] [sI (nI m), sR t (.inl 0)] (up σ t 2 2) (rI k) := by
    intro m b hb e hm1 hm4
    refine s_CR_begins_107 Y (d + 2) t _ _ t _ (rI k) ?_
    rw [z_eq (by omega) 64 (by omega)]
    have key : ∀ w : Int32, w = (if decide (c = 64) then 1 else 0) → k 1 (up (up (up σ t 2 2) t 6 (nI m)) t 7 w) := by
      intro w hw
      refine hk1 b _ hb ?_ (((rKC.up σ (by omega) _).trans (rKC.up _ (by omega) _)).trans (rKC.up _ (by omega) _))
      rw [e]
      refine ⟨?_, ?_, fun _ => ⟨?_, hm1, hm4⟩, fun _ => ?_, hs.kept (fun i _ => by rw [up_cell _ _ (by omega), up_cell _ _ (by omega), up_cell _ _ (by omega)])⟩
      · rw [up_other _ _ (Or.inr (by omega)), up_other _ _ (Or.inr (by omega)), up_other _ _ (Or.inr (by omega))]; exact h1
      · rw [up_other _ _ (Or.inr (by omega)), up_other _ _ (Or.inr (by omega)), up_self]; rfl
      · rw [up_other _ _ (Or.inr (by omega)), up_self]
      · rw [up_self]; exact hw
    refine ⟨fun n64 => ⟨Or.inl rfl, Or.inr rfl, key 0 ?_⟩, fun e64 => ⟨Or.inr rfl, Or.inr rfl, key 1 ?_⟩⟩
    · rw [decide_eq_false n64]; rfl
    · rw [decide_eq_true e64]; rfl
  refine ⟨fun e => stay (by omega), fun n33 => ⟨fun e35 => ⟨fun z => absurd e35 z, fun _ => ?_⟩, fun n35 => ⟨fun e => stay (by omega), fun n38 => ⟨fun e => fin (by omega), fun n42 => ⟨fun e47 => ?_, fun n47 => ⟨fun e64 => ⟨fun _ => ?_, fun z => absurd z n35⟩, fun n64 => ⟨fun e => fin (by omega), fun n94 => ⟨fun e123 => ?_, fun n123 => ⟨fun e => stay (by omega), fun n126 => ⟨Or.inl rfl, hk0 ?_⟩⟩⟩⟩⟩⟩⟩⟩⟩⟩
  · refine numb 4 (2, 4, false, s) ?_ ?_ (by omega) (by omega)
    · unfold cbeg; rw [if_neg (by omega), if_pos e35]
    · rw [decide_eq_false (by omega)]
  · refine c_RD_pushC Y (d + 1) t h1 hs hl c _ (fun σ1 a1 a2 a3 a4 => ⟨Or.inr rfl, ?_⟩)
    refine hk1 (0, 0, false, 47 :: s) σ1 ?_ (RCA.of a1 ?_ ?_ (by omega) (by omega)) ⟨a3, fun i i1 _ _ _ => a4 i i1⟩
    · unfold cbeg; rw [if_neg (by omega), if_neg (by omega), if_neg (by omega), if_neg (by omega), if_pos e47]
    · rw [a4 2 (by omega)]; exact h2
    · rw [← e47]; exact a2
  · refine numb 2 (2, 2, true, s) ?_ ?_ (by omega) (by omega)
    · unfold cbeg; rw [if_neg (by omega), if_neg (by omega), if_pos e64]
    · rw [decide_eq_true e64]
  · refine c_RD_pushC Y (d + 1) t h1 hs hl c _ (fun σ1 a1 a2 a3 a4 => ⟨Or.inr rfl, ?_⟩)
    refine hk1 (3, 0, false, 123 :: s) _ ?_ (RCA.of ?_ (up_self _ _ _ _) (stk.kept (s := 123 :: s) (σ := σ1) ?_ (fun i _ => by rw [up_cell _ _ (by omega)])) (by omega) (by omega)) ⟨fun x x1 x2 => by rw [up_cell _ _ x1, a3 x x1 x2], fun i i1 i2 _ _ => by rw [up_other _ _ (Or.inr i2), a4 i i1]⟩
    · unfold cbeg; rw [if_neg (by omega), if_neg (by omega), if_neg (by omega), if_neg (by omega), if_neg (by omega), if_pos e123]
    · rw [up_other _ _ (Or.inr (by omega))]; exact a1
    · rw [← e123]; exact a2
  · unfold cbeg
    rw [if_neg (by omega), if_neg (by omega), if_neg (by omega), if_neg (by omega), if_neg (by omega), if_neg (by omega)]
theorem c_CR_last (Y : List kd) (d t : Nat) {σ : sS} {s : List Nat} (h1 : σ t 1 = nI s.length) (hs : stk σ (t + 1) s) (hl : s.length ≤ 96) (hq : ∀ q ∈ s, q < 2 ^ 31) {c : Nat} (hc : c < 256) (k : Int32 → sS → Prop) (hk1 : ∀ b σ', clast s c = some b → RCA σ' t b → rKC t σ σ' → k 1 σ') (hk0 : clast s c = none → k 0 σ) : CJ Y (d + 3) y_CR_last [sR t (.inl 0), sI (nI c)] σ (rI k) := by
  have at12 : (c = 60 ∨ c = 61) → Jd Y (d + 3) y_CR_last 12 [(0, sR t (.inl 0))] [] σ (rI k) := by
    intro hz
    refine s_CR_last_12 Y (d + 2) t σ (rI k) ⟨Or.inr rfl, ?_⟩
    refine hk1 (6, 2, false, s) _ (by unfold clast; rw [if_pos hz]) ⟨?_, ?_, fun _ => ⟨?_, by show 1 ≤ 2; omega, by show 2 ≤ 4; omega⟩, fun z => ?_, hs.kept (fun i _ => by rw [up_cell _ _ (by omega), up_cell _ _ (by omega)])⟩ ((rKC.up σ (by omega) _).trans (rKC.up _ (by omega) _))
    · rw [up_other _ _ (Or.inr (by omega)), up_other _ _ (Or.inr (by omega))]; exact h1
    · rw [up_other _ _ (Or.inr (by omega)), up_self]; rfl
    · rw [up_self]; rfl
    · have z : (6 : Nat) = 2 := z
      omega
  refine s_CR_last_0 Y (d + 2) t _ σ (rI k) ?_
  rw [z_eq (by omega) 60 (by omega), z_eq (by omega) 61 (by omega), z_eq (by omega) 125 (by omega)]
  refine ⟨fun e => at12 (by omega), fun n60 => ⟨fun n61 => ⟨fun n125 => ⟨Or.inl rfl, hk0 ?_⟩, fun e125 => ?_⟩, fun e => at12 (by omega)⟩⟩
  · unfold clast
    rw [if_neg (by omega), if_neg n125]
  · refine c_RD_popC Y (d + 2) t h1 hl _ (fun σ1 a1 a2 a3 => ?_)
    refine c_CR_ends Y d t a1 (hs.tail.kept (fun i _ => by rw [a2 _ (by omega)])) (by rw [List.length_tail]; omega) (fun q hm => hq q (List.mem_of_mem_tail hm)) _ (fun σ' g1 g2 => ⟨Or.inr rfl, ?_⟩)
    refine hk1 (cend s.tail) σ' ?_ g1 ⟨fun x x1 x2 => by rw [g2.1 x x1 x2, a2 x x1], fun i i1 i2 i3 i4 => by rw [g2.2 i i1 i2 i3 i4, a3 i i1]⟩
    unfold clast
    rw [if_neg (by omega), if_pos e125]
theorem c_CR_field (Y : List kd) (d t : Nat) {σ : sS} {s : List Nat} (h1 : σ t 1 = nI s.length) (hs : stk σ (t + 1) s) {c : Nat} (hc : c < 256) (k : Int32 → sS → Prop) (hk4 : c = 46 → ∀ σ', RCA σ' t (4, 0, false, s) → rKC t σ σ' → k 1 σ') (hk0 : c ≠ 46 → isN c = true → ∀ σ', RCA σ' t (0, 0, false, s) → rKC t σ σ' → k 1 σ') (hk : c ≠ 46 → ¬ isN c = true → k 0 σ) : CJ Y (d + 1) y_CR_field [sR t (.inl 0), sI (nI c)] σ (rI k) := by
  have go : ∀ st, st ≠ 2 → st ≠ 6 → RCA (up σ t 2 (nI st)) t (st, 0, false, s) := fun st n2 n6 => RCA.of (by rw [up_other _ _ (Or.inr (by omega))]; exact h1) (up_self _ _ _ _) (hs.kept (fun i _ => by rw [up_cell _ _ (by omega)])) n2 n6
  refine s_CR_field_0 Y d t _ σ (rI k) ?_
  rw [z_eq (by omega) 46 (by omega), iNam_nI hc]
  refine ⟨fun n46 => ⟨fun z => ⟨Or.inl rfl, hk n46 (fun y => ?_)⟩, fun z => ⟨Or.inr rfl, ?_⟩⟩, fun e46 => ⟨Or.inr rfl, hk4 e46 _ (go 4 (by omega) (by omega)) (rKC.up σ (by omega) _)⟩⟩
  · rw [if_pos y] at z
    exact absurd z (by decide)
  · refine hk0 n46 ?_ _ (go 0 (by omega) (by omega)) (rKC.up σ (by omega) _)
    cases y : isN c with
    | true => rfl
    | false => rw [y] at z; exact absurd rfl z
theorem c_CR_goBehindDigits (Y : List kd) (d t : Nat) {σ : sS} {s : List Nat} {ld : Bool} (h1 : σ t 1 = nI s.length) (h7 : σ t 7 = if ld then 1 else 0) (hs : stk σ (t + 1) s) (hl : s.length ≤ 96) (hq : ∀ q ∈ s, q < 2 ^ 31) (k : sS → Prop) (hk : ∀ σ', RCA σ' t (if ld then (0, 0, false, s) else cend s) → rKC t σ σ' → k σ') : CJ Y (d + 3) y_CR_goBehindDigits [sR t (.inl 0)] σ (rN k) := by
  refine s_CR_goBehindDigits_0 Y (d + 2) t σ (rN k) ?_
  rw [h7]
  cases ld with
  | true =>
    refine ⟨fun z => absurd z (by decide), fun _ => ?_⟩
    refine hk _ (RCA.of ?_ (up_self _ _ _ _) (hs.kept (fun i _ => by rw [up_cell _ _ (by omega)])) (by omega) (by omega)) (rKC.up σ (by omega) _)
    rw [up_other _ _ (Or.inr (by omega))]; exact h1
  | false =>
    refine ⟨fun _ => ?_, fun z => absurd rfl z⟩
    exact c_CR_ends Y d t h1 hs hl hq _ hk
/-- marks are small -/
def cmk (a : CA) : Prop := a.1 < 7 ∧ ∀ q ∈ a.2.2.2, q < 2 ^ 31
theorem cend_mk {s : List Nat} (h : ∀ q ∈ s, q < 2 ^ 31) : cmk (cend s) ∧ (cend s).2.2.2.length ≤ s.length := by
  cases s with
  | nil => exact ⟨⟨by show 1 < 7; omega, h⟩, Nat.le_refl _⟩
  | cons q r =>
    by_cases z : q = 47
    · have e : cend (q :: r) = (0, 0, false, r) := by unfold cend; exact if_pos z
      rw [e]
      exact ⟨⟨by show 0 < 7; omega, fun x hx => h x (List.mem_cons_of_mem _ hx)⟩, Nat.le_succ _⟩
    · have e : cend (q :: r) = (3, 0, false, q :: r) := by unfold cend; exact if_neg z
      rw [e]
      exact ⟨⟨by show 3 < 7; omega, h⟩, Nat.le_refl _⟩
theorem cgo_mk {a b : CA} {c : Nat} (ha : cmk a) (h : cgo a c = some b) : cmk b ∧ b.2.2.2.length ≤ a.2.2.2.length + 1 := by
  obtain ⟨ha1, ha2⟩ := ha
  have st : ∀ st ow ld, st < 7 → cmk (st, ow, ld, a.2.2.2) ∧ ((st, ow, ld, a.2.2.2) : CA).2.2.2.length ≤ a.2.2.2.length + 1 := fun st ow ld h7 => ⟨⟨h7, ha2⟩, Nat.le_succ _⟩
  have en : cmk (cend a.2.2.2) ∧ (cend a.2.2.2).2.2.2.length ≤ a.2.2.2.length + 1 := ⟨(cend_mk ha2).1, Nat.le_succ_of_le (cend_mk ha2).2⟩
  have pu : ∀ st x, st < 7 → x < 2 ^ 31 → cmk (st, 0, false, x :: a.2.2.2) ∧ ((st, 0, false, x :: a.2.2.2) : CA).2.2.2.length ≤ a.2.2.2.length + 1 := fun st x h7 hx => ⟨⟨h7, fun q hq => by
    rcases List.mem_cons.mp hq with rfl | hq
    · exact hx
    · exact ha2 q hq⟩, Nat.le_refl _⟩
  have la : ∀ b, clast a.2.2.2 c = some b → cmk b ∧ b.2.2.2.length ≤ a.2.2.2.length + 1 := by
    intro b hb
    unfold clast at hb
    split at hb
    · cases hb; exact st 6 2 false (by omega)
    · split at hb
      · cases hb
        have ht : ∀ q ∈ a.2.2.2.tail, q < 2 ^ 31 := fun q hq => ha2 q (List.mem_of_mem_tail hq)
        have := cend_mk ht
        refine ⟨this.1, ?_⟩
        have h2 := this.2
        rw [List.length_tail] at h2
        omega
      · cases hb
  unfold cgo at h
  split at h
  · unfold cbeg at h
    split at h
    · cases h; exact en
    · split at h
      · cases h; exact st _ _ _ (by omega)
      · split at h
        · cases h; exact st _ _ _ (by omega)
        · split at h
          · cases h; exact st _ _ _ (by omega)
          · split at h
            · cases h; exact pu 0 47 (by omega) (by omega)
            · split at h
              · cases h; exact pu 3 123 (by omega) (by omega)
              · cases h
  · split at h
    · split at h
      · cases h
        split
        · split
          · exact st _ _ _ (by omega)
          · exact en
        · exact st _ _ _ (by omega)
      · cases h
    · split at h
      · split at h
        · cases h; exact st _ _ _ (by omega)
        · split at h
          · cases h; exact st _ _ _ (by omega)
          · exact la b h
      · split at h
        · split at h
          · cases h; exact st _ _ _ (by omega)
          · cases h
        · split at h
          · exact la b h
          · split at h
            · split at h
              · cases h
                split
                · exact st _ _ _ (by omega)
                · exact st _ _ _ (by omega)
              · cases h
            · cases h
theorem c_CR_goesOn (Y : List kd) (d t : Nat) {σ : sS} {a : CA} (ha : RCA σ t a) (hl : a.2.2.2.length < 96) (hm : cmk a) {c : Nat} (hc : c < 256) (k : Int32 → sS → Prop) (hk1 : ∀ b σ', cgo a c = some b → RCA σ' t b → rKC t σ σ' → k 1 σ') (hk0 : ∀ σ', cgo a c = none → rKC t σ σ' → k 0 σ') : CJ Y (d + 4) y_CR_goesOn [sR t (.inl 0), sI (nI c)] σ (rI k) := by
  obtain ⟨st, ow, ld, s⟩ := a
  obtain ⟨a1, a2, a3, a4, a5⟩ := ha
  obtain ⟨h7, hq⟩ := hm
  have a1 : σ t 1 = nI s.length := a1
  have a2 : σ t 2 = nI st := a2
  have a3 : (st = 2 ∨ st = 6) → σ t 6 = nI ow ∧ 1 ≤ ow ∧ ow ≤ 4 := a3
  have a4 : st = 2 → σ t 7 = if ld then 1 else 0 := a4
  have a5 : stk σ (t + 1) s := a5
  have hl : s.length < 96 := hl
  have h7 : st < 7 := h7
  have hq : ∀ q ∈ s, q < 2 ^ 31 := hq
  have red : ∀ b, cgo (st, ow, ld, s) c = b ↔ (if st = 0 then cbeg s c
  else if st = 2 then (if isD c then some (if ow - 1 = 0 then (if ld then (0, 0, false, s) else cend s) else (2, ow - 1, ld, s)) else none)
  else if st = 3 then (if c = 46 then some (4, 0, false, s) else if isN c then some (0, 0, false, s) else clast s c)
  else if st = 4 then (if isN c then some (0, 0, false, s) else none)
  else if st = 5 then clast s c
  else if st = 6 then (if isN c then some (if ow - 1 = 0 then (5, 0, false, s) else (6, ow - 1, false, s)) else none)
  else none) = b := fun b => Iff.rfl
  simp only [red] at hk1 hk0
  refine s_CR_goesOn_0 Y (d + 3) t _ σ (rI k) ?_
  rw [a2, z_eq (by omega) 0 (by omega), z_eq (by omega) 1 (by omega), z_eq (by omega) 2 (by omega), z_eq (by omega) 3 (by omega), z_eq (by omega) 4 (by omega), z_eq (by omega) 5 (by omega), z_eq (by omega) 6 (by omega)]
  -- with one owed less
  have dK : rKC t σ (up σ t 6 (nI (ow - 1))) := rKC.up σ (by omega) _
  have d1 : (up σ t 6 (nI (ow - 1))) t 1 = nI s.length := by rw [up_other _ _ (Or.inr (by omega))]; exact a1
  have d2 : (up σ t 6 (nI (ow - 1))) t 2 = nI st := by rw [up_other _ _ (Or.inr (by omega))]; exact a2
  have d5 : stk (up σ t 6 (nI (ow - 1))) (t + 1) s := a5.kept (fun i _ => by rw [up_cell _ _ (by omega)])
  refine ⟨fun e0 => ?_, fun n0 => ⟨fun e1 => ⟨Or.inl rfl, ?_⟩, fun n1 => ⟨fun e2 => ?_, fun n2 => ⟨fun e3 => ?_, fun n3 => ⟨fun e4 => ?_, fun n4 => ⟨fun e5 => ?_, fun n5 => ⟨fun e6 => ?_, fun n6 => by omega⟩⟩⟩⟩⟩⟩⟩
  · rw [if_pos e0] at hk1 hk0
    refine c_CR_begins Y d t a1 (by rw [a2, e0]; rfl) a5 hl hq hc _ (fun b σ' g1 g2 g3 => ⟨Or.inr rfl, hk1 b σ' g1 g2 g3⟩) (fun g => ⟨Or.inl rfl, hk0 σ g (rKC.refl t σ)⟩)
  · rw [if_neg n0, if_neg (by omega), if_neg (by omega), if_neg (by omega), if_neg (by omega), if_neg (by omega)] at hk0
    exact hk0 σ rfl (rKC.refl t σ)
  · rw [if_neg n0, if_pos e2] at hk1 hk0
    obtain ⟨o1, o2, o3⟩ := a3 (Or.inl e2)
    have eo : nI ow - 1 = nI (ow - 1) := nI_subm (a := ow) (b := 1) (by omega)
    rw [o1, eo, up_self, z_eq (by omega) 0 (by omega)]
    have at75 : ∀ τ b, RCA τ t b → rKC t σ τ → (if ow - 1 = 0 then (if ld then (0, 0, false, s) else cend s) else (2, ow - 1, ld, s)) = b → Jd Y (d + 4) y_CR_goesOn 75 [(1, sI (nI c))] [] τ (rI k) := by
      intro τ b g1 g2 g3
      refine s_CR_goesOn_75 Y (d + 3) _ τ (rI k) ?_
      rw [iDig_nI hc]
      rw [g3] at hk1 hk0
      cases hD : isD c with
      | true =>
        rw [hD, if_pos rfl] at hk1
        exact ⟨Or.inr rfl, hk1 b τ rfl g1 g2⟩
      | false =>
        rw [hD] at hk0
        exact ⟨Or.inl rfl, hk0 τ rfl g2⟩
    refine ⟨fun n => ?_, fun e => ?_⟩
    · refine at75 _ (2, ow - 1, ld, s) ⟨d1, by rw [d2, e2], fun _ => ⟨up_self _ _ _ _, by show 1 ≤ ow - 1; omega, by show ow - 1 ≤ 4; omega⟩, fun _ => ?_, d5⟩ dK (by rw [if_neg n])
      rw [up_other _ _ (Or.inr (by omega))]; exact a4 e2
    · refine c_CR_goBehindDigits Y d t (ld := ld) d1 ?_ d5 (by omega) hq _ (fun σ' g1 g2 => ?_)
      · rw [up_other _ _ (Or.inr (by omega))]; exact a4 e2
      · exact at75 σ' _ g1 (dK.trans g2) (by rw [if_pos e])
  · rw [if_neg n0, if_neg n2, if_pos e3] at hk1 hk0
    refine c_CR_field Y (d + 2) t a1 a5 hc _ (fun e σ' g1 g2 => ⟨fun _ => ⟨Or.inr rfl, ?_⟩, fun z => absurd z (by decide)⟩) (fun n hN σ' g1 g2 => ⟨fun _ => ⟨Or.inr rfl, ?_⟩, fun z => absurd z (by decide)⟩) (fun n hN => ⟨fun z => absurd rfl z, fun _ => ?_⟩)
    · rw [if_pos e] at hk1
      exact hk1 _ σ' rfl g1 g2
    · rw [if_neg n, if_pos hN] at hk1
      exact hk1 _ σ' rfl g1 g2
    · rw [if_neg n, if_neg hN] at hk1 hk0
      exact c_CR_last Y d t a1 a5 (by omega) hq hc _ (fun b σ' g1 g2 g3 => ⟨fun z => absurd z (by decide), fun _ => ⟨Or.inr rfl, hk1 b σ' g1 g2 g3⟩⟩) (fun g => ⟨fun _ => ⟨Or.inl rfl, hk0 σ g (rKC.refl t σ)⟩, fun z => absurd rfl z⟩)
  · rw [if_neg n0, if_neg n2, if_neg n3, if_pos e4] at hk1 hk0
    rw [iNam_nI hc]
    cases hN : isN c with
    | true =>
      rw [hN, if_pos rfl] at hk1
      refine ⟨Or.inr rfl, hk1 _ _ rfl (RCA.of ?_ (up_self _ _ _ _) (a5.kept (fun i _ => by rw [up_cell _ _ (by omega)])) (by omega) (by omega)) (rKC.up σ (by omega) _)⟩
      rw [up_other _ _ (Or.inr (by omega))]; exact a1
    | false =>
      rw [hN] at hk0
      exact ⟨Or.inl rfl, hk0 _ rfl (rKC.up σ (by omega) _)⟩
  · rw [if_neg n0, if_neg n2, if_neg n3, if_neg n4, if_pos e5] at hk1 hk0
    exact c_CR_last Y d t a1 a5 (by omega) hq hc _ (fun b σ' g1 g2 g3 => ⟨Or.inr rfl, hk1 b σ' g1 g2 g3⟩) (fun g => ⟨Or.inl rfl, hk0 σ g (rKC.refl t σ)⟩)
  · rw [if_neg n0, if_neg n2, if_neg n3, if_neg n4, if_neg n5, if_pos e6] at hk1 hk0
    obtain ⟨o1, o2, o3⟩ := a3 (Or.inr e6)
    have eo : nI ow - 1 = nI (ow - 1) := nI_subm (a := ow) (b := 1) (by omega)
    rw [o1, eo, up_self, z_eq (by omega) 0 (by omega)]
    have fin : ∀ (x : Nat) (b : CA), (if ow - 1 = 0 then (5, 0, false, s) else (6, ow - 1, false, s)) = b → RCA (up (up σ t 6 (nI (ow - 1))) t 2 (nI x)) t b → Jd Y (d + 4) y_CR_goesOn 142 [(1, sI (nI c))] [sI (nI x), sR t (.inl 0)] (up σ t 6 (nI (ow - 1))) (rI k) := by
      intro x b g1 g2
      refine s_CR_goesOn_142 Y (d + 3) _ _ t _ (rI k) ?_
      rw [iNam_nI hc]
      rw [g1] at hk1 hk0
      have gK : rKC t σ (up (up σ t 6 (nI (ow - 1))) t 2 (nI x)) := dK.trans (rKC.up _ (by omega) _)
      cases hN : isN c with
      | true =>
        rw [hN, if_pos rfl] at hk1
        exact ⟨Or.inr rfl, hk1 b _ rfl g2 gK⟩
      | false =>
        rw [hN] at hk0
        exact ⟨Or.inl rfl, hk0 _ rfl gK⟩
    have u5 : ∀ x : Int32, stk (up (up σ t 6 (nI (ow - 1))) t 2 x) (t + 1) s := fun x => d5.kept (fun i _ => by rw [up_cell _ _ (by omega)])
    have u1 : ∀ x : Int32, (up (up σ t 6 (nI (ow - 1))) t 2 x) t 1 = nI s.length := fun x => by rw [up_other _ _ (Or.inr (by omega))]; exact d1
    refine ⟨fun n => ?_, fun e => ?_⟩
    · refine fin 6 (6, ow - 1, false, s) (by rw [if_neg n]) ⟨u1 _, up_self _ _ _ _, fun _ => ⟨?_, by show 1 ≤ ow - 1; omega, by show ow - 1 ≤ 4; omega⟩, fun z => ?_, u5 _⟩
      · rw [up_other _ _ (Or.inr (by omega)), up_self]
      · have z : (6 : Nat) = 2 := z
        omega
    · exact fin 5 (5, 0, false, s) (by rw [if_pos e]) (RCA.of (u1 _) (up_self _ _ _ _) (u5 _) (by omega) (by omega))
theorem c_RD_stumbleC (Y : List kd) (d t a n : Nat) (L : Nat → Nat) (hn : n ≤ 96) (ht : a ≠ t) (ht1 : a ≠ t + 1) {σ : sS} (hL : ∀ i, i < n → σ a i = nI (L i) ∧ L i < 256) (k : Int32 → sS → Prop) (hk : ∀ σ', (∀ x, x ≠ t → x ≠ t + 1 → σ' x = σ x) → k (match cst L n 0 (0, 0, false, []) with | none => -1 | some p => nI p) σ') : CJ Y (d + 5) y_RD_stumble [sR t (.inl 0), sR a (.inr 96), sI (nI n)] σ (rI k) := by
  have key : ∀ m i, i + m = n → ∀ (b : CA) (τ : sS), RCA τ t b → (∀ x, x ≠ t → x ≠ t + 1 → τ x = σ x) → b.2.2.2.length ≤ i → cmk b → (∀ σ', (∀ x, x ≠ t → x ≠ t + 1 → σ' x = σ x) → k (match cst L m i b with | none => -1 | some p => nI p) σ') → Jd Y (d + 5) y_RD_stumble 17 [(0, sR t (.inl 0)), (1, sR a (.inr 96)), (2, sI (nI n)), (3, sI (nI i))] [] τ (rI k) := by
    intro m
    induction m with
    | zero =>
      intro i hi b τ hR hK hl hm hq
      have : i = n := by omega
      subst this
      have h5 := hm.1
      refine s_RD_stumbleC_17 Y (d + 4) t a _ _ τ (rI k) ⟨fun _ => ⟨fun hne => ?_, fun he => ?_⟩, fun hlt => ?_⟩
      · rw [hR.2.1, z_eq (by omega) 1 (by omega)] at hne
        have := hq τ hK
        unfold cst at this
        rw [if_neg hne] at this
        exact this
      · rw [hR.2.1, z_eq (by omega) 1 (by omega)] at he
        have := hq τ hK
        unfold cst at this
        rw [if_pos he] at this
        exact this
      · rw [i32_lt (by omega) (by omega)] at hlt
        omega
    | succ m ih =>
      intro i hi b τ hR hK hl hm hq
      refine s_RD_stumbleC_17 Y (d + 4) t a _ _ τ (rI k) ⟨fun hlt => ?_, fun _ => ?_⟩
      · rw [i32_lt (by omega) (by omega)] at hlt
        omega
      · obtain ⟨l1, l2⟩ := hL i (by omega)
        rw [rd_nI (by omega) (by omega), hK a ht ht1, l1]
        refine c_CR_goesOn Y d t hR (by omega) hm l2 _ (fun b' σ' g1 g2 g3 => ⟨fun _ => ?_, fun h => absurd h (by decide)⟩) (fun σ' g1 g3 => ⟨fun h => absurd rfl h, fun _ => ?_⟩)
        · rw [nI_s1]
          have := cgo_mk hm g1
          refine ih (i + 1) (by omega) b' σ' g2 (fun x x1 x2 => by rw [g3.1 x x1 x2, hK x x1 x2]) (by omega) this.1 (fun σ'' hK2 => ?_)
          have := hq σ'' hK2
          unfold cst at this
          rw [g1] at this
          exact this
        · have := hq σ' (fun x x1 x2 => by rw [g3.1 x x1 x2, hK x x1 x2])
          unfold cst at this
          rw [g1] at this
          exact this
  refine s_RD_stumbleC_0 Y (d + 4) t a _ σ (rI k) ⟨Or.inl rfl, ?_⟩
  refine key n 0 (by omega) (0, 0, false, []) _ (RCA.of ?_ ?_ True.intro (by omega) (by omega)) (fun x x1 _ => by rw [up_cell _ _ x1, up_cell _ _ x1, up_cell _ _ x1]) (Nat.le_refl _) ⟨by show 0 < 7; omega, fun q hq => absurd hq List.not_mem_nil⟩ hk
  · rw [up_other _ _ (Or.inr (by omega)), up_other _ _ (Or.inr (by omega)), up_self]; rfl
  · rw [up_other _ _ (Or.inr (by omega)), up_self]; rfl
