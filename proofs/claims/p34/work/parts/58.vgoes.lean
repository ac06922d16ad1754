/-! values told in letters: which letter can go on; the class's stumble -/
abbrev VA : Type := Nat × Bool × List Nat
def isD (c : Nat) : Bool := decide (48 ≤ c) && decide (c ≤ 57)
def isN (c : Nat) : Bool := decide (97 ≤ c) && decide (c ≤ 101)
theorem isD_iff {c : Nat} : isD c = true ↔ 48 ≤ c ∧ c ≤ 57 := by simp [isD]
theorem isN_iff {c : Nat} : isN c = true ↔ 97 ≤ c ∧ c ≤ 101 := by simp [isN]
theorem iDig_nI {c : Nat} (h : c < 256) : iDig (nI c) = if isD c then 1 else 0 := (show ∀ c, c < 256 → iDig (nI c) = if isD c then 1 else 0 by decide +kernel) c h
theorem iNam_nI {c : Nat} (h : c < 256) : iNam (nI c) = if isN c then 1 else 0 := (show ∀ c, c < 256 → iNam (nI c) = if isN c then 1 else 0 by decide +kernel) c h
def vend (s : List Nat) : Nat := match s with
  | [] => 1
  | q :: _ => if q = 40 then 2 else 4
theorem vend_lt (s : List Nat) : vend s < 5 := by
  cases s with
  | nil => decide
  | cons q r =>
    show (if q = 40 then 2 else 4) < 5
    split <;> omega
def vbeg (s : List Nat) (c : Nat) : Option VA := if c = 40 then some (2, false, 40 :: s) else if c = 91 then some (3, false, 91 :: s) else if isD c then some (vend s, true, s) else if c = 63 then some (vend s, false, s) else none
def vgo (a : VA) (c : Nat) : Option VA :=
  if a.2.1 && isD c then some (a.1, false, a.2.2)
  else if a.1 = 0 then vbeg a.2.2 c
  else if a.1 = 2 then (if c = 41 then some (vend a.2.2.tail, false, a.2.2.tail) else if isN c then some (0, false, a.2.2) else none)
  else if a.1 = 3 then (if c = 93 then some (vend a.2.2.tail, false, a.2.2.tail) else vbeg a.2.2 c)
  else if a.1 = 4 then (if c = 93 then some (vend a.2.2.tail, false, a.2.2.tail) else if c = 44 then some (0, false, a.2.2) else none)
  else none
/-- the first letter that cannot go on; so many letters are left -/
def vst (L : Nat → Nat) : Nat → Nat → VA → Option Nat
  | 0, i, a => if a.1 = 1 then none else some i
  | m + 1, i, a => match vgo a (L i) with
    | none => some i
    | some b => vst L m (i + 1) b
theorem vbeg_len {s : List Nat} {c : Nat} {b : VA} (h : vbeg s c = some b) : b.2.2.length ≤ s.length + 1 := by
  unfold vbeg at h
  split at h
  · cases h; exact Nat.le_refl _
  · split at h
    · cases h; exact Nat.le_refl _
    · split at h
      · cases h; exact Nat.le_succ _
      · split at h
        · cases h; exact Nat.le_succ _
        · cases h
theorem vgo_len {a : VA} {c : Nat} {b : VA} (h : vgo a c = some b) : b.2.2.length ≤ a.2.2.length + 1 := by
  have ht : a.2.2.tail.length ≤ a.2.2.length + 1 := by rw [List.length_tail]; omega
  unfold vgo at h
  split at h
  · cases h; exact Nat.le_succ _
  · split at h
    · exact vbeg_len h
    · split at h
      · split at h
        · cases h; exact ht
        · split at h
          · cases h; exact Nat.le_succ _
          · cases h
      · split at h
        · split at h
          · cases h; exact ht
          · exact vbeg_len h
        · split at h
          · split at h
            · cases h; exact ht
            · split at h
              · cases h; exact Nat.le_succ _
              · cases h
          · cases h
/-! what is open, as the class keeps it -/
def stk (σ : sS) (a : Nat) : List Nat → Prop
  | [] => True
  | q :: r => σ a r.length = nI q ∧ stk σ a r
theorem stk.kept {σ σ' : sS} {a : Nat} : ∀ {s : List Nat}, stk σ a s → (∀ i, i < s.length → σ' a i = σ a i) → stk σ' a s
  | [], _, _ => True.intro
  | q :: r, h, g => ⟨by rw [g _ (by rw [List.length_cons]; omega)]; exact h.1, stk.kept h.2 (fun i hi => g i (by rw [List.length_cons]; omega))⟩
theorem stk.tail {σ : sS} {a : Nat} {s : List Nat} (h : stk σ a s) : stk σ a s.tail := by
  cases s with
  | nil => exact h
  | cons q r => exact h.2
def RA (σ : sS) (t : Nat) (a : VA) : Prop := σ t 1 = nI a.2.2.length ∧ σ t 2 = nI a.1 ∧ σ t 3 = (if a.2.1 then 1 else 0) ∧ stk σ (t + 1) a.2.2
def rK (t : Nat) (σ σ' : sS) : Prop := (∀ x, x ≠ t → x ≠ t + 1 → σ' x = σ x) ∧ ∀ i, i ≠ 1 → i ≠ 2 → i ≠ 3 → σ' t i = σ t i
theorem rK.refl (t : Nat) (σ : sS) : rK t σ σ := ⟨fun _ _ _ => rfl, fun _ _ _ _ => rfl⟩
theorem rK.trans {t : Nat} {σ σ1 σ2 : sS} (h : rK t σ σ1) (g : rK t σ1 σ2) : rK t σ σ2 := ⟨fun x h1 h2 => by rw [g.1 x h1 h2, h.1 x h1 h2], fun i h1 h2 h3 => by rw [g.2 i h1 h2 h3, h.2 i h1 h2 h3]⟩
theorem rK.up {t : Nat} (σ : sS) {i : Nat} (hi : i = 1 ∨ i = 2 ∨ i = 3) (x : Int32) : rK t σ (up σ t i x) := ⟨fun y h1 _ => up_cell _ _ h1, fun j h1 h2 h3 => up_other _ _ (Or.inr (by omega))⟩
theorem c_RD_topV (Y : List kd) (d t : Nat) {σ : sS} {s : List Nat} (h1 : σ t 1 = nI s.length) (hs : stk σ (t + 1) s) (hl : s.length ≤ 96) (k : Int32 → sS → Prop) (hk : k (match s with | [] => -1 | q :: _ => nI q) σ) : CJ Y (d + 1) y_RD_top [sR t (.inl 4)] σ (rI k) := by
  refine s_RD_topV_0 Y d t σ (rI k) ⟨fun hz => ?_, fun hz => ?_⟩
  · rw [h1, lit 0, i32_lt (by omega) (by omega)] at hz
    cases s with
    | nil => exact hk
    | cons q r => rw [List.length_cons] at hz; omega
  · rw [h1, lit 0, i32_lt (by omega) (by omega)] at hz
    cases s with
    | nil => exact absurd hz (Nat.lt_irrefl _)
    | cons q r =>
      rw [List.length_cons] at h1 hl
      have e : nI (r.length + 1) - 1 = nI r.length := by
        have := nI_subm (a := r.length + 1) (b := 1) (by omega)
        exact this
      rw [h1, e, rd_nI (by omega) (by omega), hs.1]
      exact hk
theorem c_RD_popV (Y : List kd) (d t : Nat) {σ : sS} {s : List Nat} (h1 : σ t 1 = nI s.length) (hl : s.length ≤ 96) (k : sS → Prop) (hk : ∀ σ', σ' t 1 = nI s.tail.length → (∀ x, x ≠ t → σ' x = σ x) → (∀ i, i ≠ 1 → σ' t i = σ t i) → k σ') : CJ Y d y_RD_pop [sR t (.inl 4)] σ (rN k) := by
  refine s_RD_popV_0 Y d t σ (rN k) ⟨fun hz => ?_, fun hz => ?_⟩
  · rw [h1, lit 0, i32_lt (by omega) (by omega)] at hz
    cases s with
    | nil => exact hk σ h1 (fun _ _ => rfl) (fun _ _ => rfl)
    | cons q r => rw [List.length_cons] at hz; omega
  · rw [h1, lit 0, i32_lt (by omega) (by omega)] at hz
    cases s with
    | nil => exact absurd hz (Nat.lt_irrefl _)
    | cons q r =>
      rw [List.length_cons] at h1 hl
      refine hk _ ?_ (fun x hx => up_cell _ _ hx) (fun i hi => up_other _ _ (Or.inr hi))
      rw [up_self, h1]
      exact nI_subm (a := r.length + 1) (b := 1) (by omega)
theorem c_RD_pushV (Y : List kd) (d t : Nat) {σ : sS} {s : List Nat} (h1 : σ t 1 = nI s.length) (hs : stk σ (t + 1) s) (hl : s.length < 96) (q : Nat) (k : sS → Prop) (hk : ∀ σ', σ' t 1 = nI (s.length + 1) → stk σ' (t + 1) (q :: s) → (∀ x, x ≠ t → x ≠ t + 1 → σ' x = σ x) → (∀ i, i ≠ 1 → σ' t i = σ t i) → k σ') : CJ Y (d + 1) y_RD_push [sR t (.inl 4), sI (nI q)] σ (rN k) := by
  refine s_RD_pushV_0 Y d t (nI q) σ (rN k) ?_
  rw [h1, wr_nI (by omega) (by omega), up_cell _ _ (by omega), h1, nI_s1]
  refine hk _ (up_self _ _ _ _) ⟨?_, ?_⟩ (fun x h1 h2 => by rw [up_cell _ _ h1, up_cell _ _ h2]) (fun i hi => by rw [up_other _ _ (Or.inr hi), up_cell _ _ (by omega)])
  · rw [up_cell _ _ (by omega), up_self]
  · exact hs.kept (fun i hi => by rw [up_cell _ _ (by omega), up_other _ _ (Or.inr (by omega))])
theorem c_VR_ends (Y : List kd) (d t : Nat) {σ : sS} {s : List Nat} (h1 : σ t 1 = nI s.length) (hs : stk σ (t + 1) s) (hl : s.length ≤ 96) (hq : ∀ q ∈ s, q < 2 ^ 31) (k : sS → Prop) (hk : k (up σ t 2 (nI (vend s)))) : CJ Y (d + 2) y_VR_ends [sR t (.inl 4)] σ (rN k) := by
  refine s_VR_ends_0 Y (d + 1) t σ (rN k) ⟨fun hz => ?_, fun hz => ?_⟩
  · rw [h1, z_eq (by omega) 0 (by omega)] at hz
    cases s with
    | nil => exact absurd rfl hz
    | cons q r =>
      refine c_RD_topV Y d t h1 hs hl _ ⟨fun hne => ?_, fun he => ?_⟩
      · have hne : ¬ nI q = 40 := hne
        rw [z_eq (hq q List.mem_cons_self) 40 (by omega)] at hne
        have e : vend (q :: r) = 4 := by unfold vend; exact if_neg hne
        rw [e] at hk
        exact hk
      · have he : nI q = 40 := he
        rw [z_eq (hq q List.mem_cons_self) 40 (by omega)] at he
        have e : vend (q :: r) = 2 := by unfold vend; exact if_pos he
        rw [e] at hk
        exact hk
  · rw [h1, z_eq (by omega) 0 (by omega)] at hz
    cases s with
    | nil => exact hk
    | cons q r => rw [List.length_cons] at hz; omega
theorem c_VR_closes (Y : List kd) (d t : Nat) {σ : sS} {s : List Nat} (h1 : σ t 1 = nI s.length) (hs : stk σ (t + 1) s) (hl : s.length ≤ 96) (hq : ∀ q ∈ s, q < 2 ^ 31) (h3 : σ t 3 = 0) (k : Int32 → sS → Prop) (hk : ∀ σ', RA σ' t (vend s.tail, false, s.tail) → rK t σ σ' → k 1 σ') : CJ Y (d + 3) y_VR_closes [sR t (.inl 4)] σ (rI k) := by
  refine s_VR_closes_0 Y (d + 2) t σ (rI k) ?_
  refine c_RD_popV Y _ t h1 hl _ (fun σ1 a1 a2 a3 => ?_)
  have ht : s.tail.length ≤ 96 := by rw [List.length_tail]; omega
  have hs1 : stk σ1 (t + 1) s.tail := hs.tail.kept (fun i _ => by rw [a2 _ (by omega)])
  refine c_VR_ends Y d t a1 hs1 ht (fun q hm => hq q (List.mem_of_mem_tail hm)) _ ⟨Or.inr rfl, ?_⟩
  refine hk _ ⟨?_, up_self _ _ _ _, ?_, hs1.kept (fun i _ => by rw [up_cell _ _ (by omega)])⟩ ?_
  · rw [up_other _ _ (Or.inr (by omega))]; exact a1
  · rw [up_other _ _ (Or.inr (by omega)), a3 3 (by omega)]; exact h3
  · exact ⟨fun x x1 x2 => by rw [up_cell _ _ x1, a2 x x1], fun i i1 i2 i3 => by rw [up_other _ _ (Or.inr i2), a3 i i1]⟩
theorem c_VR_begins (Y : List kd) (d t : Nat) {σ : sS} {s : List Nat} (h1 : σ t 1 = nI s.length) (hs : stk σ (t + 1) s) (hl : s.length < 96) (hq : ∀ q ∈ s, q < 2 ^ 31) (h3 : σ t 3 = 0) {c : Nat} (hc : c < 256) (k : Int32 → sS → Prop) (hk1 : ∀ b σ', vbeg s c = some b → RA σ' t b → rK t σ σ' → k 1 σ') (hk0 : ∀ σ', vbeg s c = none → rK t σ σ' → k 0 σ') : CJ Y (d + 3) y_VR_begins [sR t (.inl 4), sI (nI c)] σ (rI k) := by
  have push12 : ∀ b, vbeg s c = some b → (c = 40 ∧ b = (2, false, 40 :: s) ∨ c = 91 ∧ b = (3, false, 91 :: s)) → Jd Y (d + 3) y_VR_begins 12 [(0, sR t (.inl 4)), (1, sI (nI c))] [] σ (rI k) := by
    intro b hb hcb
    refine s_VR_begins_12 Y (d + 2) t _ σ (rI k) ?_
    refine c_RD_pushV Y (d + 1) t h1 hs hl c _ (fun σ1 a1 a2 a3 a4 => ⟨fun hne => ⟨Or.inr rfl, ?_⟩, fun he => ⟨Or.inr rfl, ?_⟩⟩)
    · rw [z_eq (by omega) 40 (by omega)] at hne
      rcases hcb with ⟨z, -⟩ | ⟨z, e⟩
      · exact absurd z hne
      · subst z
        refine hk1 b _ hb ?_ ⟨fun x x1 x2 => by rw [up_cell _ _ x1, a3 x x1 x2], fun i i1 i2 i3 => by rw [up_other _ _ (Or.inr i2), a4 i i1]⟩
        rw [e]
        refine ⟨?_, up_self _ _ _ _, ?_, ?_⟩
        · rw [up_other _ _ (Or.inr (by omega))]; exact a1
        · rw [up_other _ _ (Or.inr (by omega)), a4 3 (by omega)]; exact h3
        · exact stk.kept a2 (fun i _ => by rw [up_cell _ _ (by omega)])
    · rw [z_eq (by omega) 40 (by omega)] at he
      rcases hcb with ⟨z, e⟩ | ⟨z, -⟩
      · subst z
        refine hk1 b _ hb ?_ ⟨fun x x1 x2 => by rw [up_cell _ _ x1, a3 x x1 x2], fun i i1 i2 i3 => by rw [up_other _ _ (Or.inr i2), a4 i i1]⟩
        rw [e]
        refine ⟨?_, up_self _ _ _ _, ?_, ?_⟩
        · rw [up_other _ _ (Or.inr (by omega))]; exact a1
        · rw [up_other _ _ (Or.inr (by omega)), a4 3 (by omega)]; exact h3
        · exact stk.kept a2 (fun i _ => by rw [up_cell _ _ (by omega)])
      · omega
  refine s_VR_begins_0 Y (d + 2) t _ σ (rI k) ⟨fun he => ?_, fun hne => ⟨fun hne2 => ?_, fun he => ?_⟩⟩
  · rw [z_eq (by omega) 40 (by omega)] at he
    have hb : vbeg s c = some (2, false, 40 :: s) := by unfold vbeg; rw [if_pos he]
    exact push12 _ hb (Or.inl ⟨he, rfl⟩)
  · rw [z_eq (by omega) 40 (by omega)] at hne
    rw [z_eq (by omega) 91 (by omega)] at hne2
    rw [iDig_nI hc]
    have hs1 : stk (up σ t 3 (if isD c = true then 1 else 0)) (t + 1) s := hs.kept (fun i _ => by rw [up_cell _ _ (by omega)])
    have h11 : (up σ t 3 (if isD c = true then 1 else 0)) t 1 = nI s.length := by rw [up_other _ _ (Or.inr (by omega))]; exact h1
    refine ⟨by split <;> simp, ?_⟩
    refine c_VR_ends Y d t h11 hs1 (by omega) hq _ ?_
    have e3 : (up (up σ t 3 (if isD c = true then 1 else 0)) t 2 (nI (vend s))) t 3 = if isD c = true then 1 else 0 := by rw [up_other _ _ (Or.inr (by omega)), up_self]
    have kK : rK t σ (up (up σ t 3 (if isD c = true then 1 else 0)) t 2 (nI (vend s))) := (rK.up σ (Or.inr (Or.inr rfl)) _).trans (rK.up _ (Or.inr (Or.inl rfl)) _)
    rw [e3]
    have kR : ∀ lo, lo = isD c → RA (up (up σ t 3 (if isD c = true then 1 else 0)) t 2 (nI (vend s))) t (vend s, lo, s) := by
      intro lo hlo
      refine ⟨by rw [up_other _ _ (Or.inr (by omega))]; exact h11, up_self _ _ _ _, by rw [e3, hlo], hs1.kept (fun i _ => by rw [up_cell _ _ (by omega)])⟩
    refine ⟨fun hd => ⟨Or.inr rfl, ?_⟩, fun hd => ⟨fun h63 => ⟨Or.inl rfl, ?_⟩, fun h63 => ⟨Or.inr rfl, ?_⟩⟩⟩
    · have hd2 : isD c = true := by
        cases z : isD c with
        | true => rfl
        | false => rw [z] at hd; exact absurd rfl hd
      exact hk1 (vend s, true, s) _ (by unfold vbeg; rw [if_neg hne, if_neg hne2, if_pos hd2]) (kR true hd2.symm) kK
    · have hd2 : isD c = false := by
        cases z : isD c with
        | false => rfl
        | true => rw [z] at hd; exact absurd hd (by decide)
      rw [z_eq (by omega) 63 (by omega)] at h63
      exact hk0 _ (by unfold vbeg; rw [if_neg hne, if_neg hne2, if_neg (by rw [hd2]; decide), if_neg h63]) kK
    · have hd2 : isD c = false := by
        cases z : isD c with
        | false => rfl
        | true => rw [z] at hd; exact absurd hd (by decide)
      rw [z_eq (by omega) 63 (by omega)] at h63
      exact hk1 (vend s, false, s) _ (by unfold vbeg; rw [if_neg hne, if_neg hne2, if_neg (by rw [hd2]; decide), if_pos h63]) (kR false hd2.symm) kK
  · rw [z_eq (by omega) 40 (by omega)] at hne
    rw [z_eq (by omega) 91 (by omega)] at he
    have hb : vbeg s c = some (3, false, 91 :: s) := by unfold vbeg; rw [if_neg hne, if_pos he]
    exact push12 _ hb (Or.inr ⟨he, rfl⟩)
theorem c_VR_goesOn (Y : List kd) (d t : Nat) {σ : sS} {a : VA} (ha : RA σ t a) (hl : a.2.2.length < 96) (hq : ∀ q ∈ a.2.2, q < 2 ^ 31) (h5 : a.1 < 5) {c : Nat} (hc : c < 256) (k : Int32 → sS → Prop) (hk1 : ∀ b σ', vgo a c = some b → RA σ' t b → rK t σ σ' → k 1 σ') (hk0 : ∀ σ', vgo a c = none → rK t σ σ' → k 0 σ') : CJ Y (d + 4) y_VR_goesOn [sR t (.inl 4), sI (nI c)] σ (rI k) := by
  obtain ⟨st, lo, s⟩ := a
  obtain ⟨a1, a2, a3, a4⟩ := ha
  have a1 : σ t 1 = nI s.length := a1
  have a2 : σ t 2 = nI st := a2
  have a3 : σ t 3 = if lo = true then 1 else 0 := a3
  have a4 : stk σ (t + 1) s := a4
  have hl : s.length < 96 := hl
  have h5 : st < 5 := h5
  have f1 : (up σ t 3 0) t 1 = nI s.length := by rw [up_other _ _ (Or.inr (by omega))]; exact a1
  have f2 : (up σ t 3 0) t 2 = nI st := by rw [up_other _ _ (Or.inr (by omega))]; exact a2
  have f4 : stk (up σ t 3 0) (t + 1) s := a4.kept (fun i _ => by rw [up_cell _ _ (by omega)])
  have fK : rK t σ (up σ t 3 0) := rK.up σ (Or.inr (Or.inr rfl)) 0
  have g1 : (up (up σ t 3 0) t 2 0) t 1 = nI s.length := by rw [up_other _ _ (Or.inr (by omega))]; exact f1
  have g3 : (up (up σ t 3 0) t 2 0) t 3 = 0 := by rw [up_other _ _ (Or.inr (by omega)), up_self]
  have g4 : stk (up (up σ t 3 0) t 2 0) (t + 1) s := f4.kept (fun i _ => by rw [up_cell _ _ (by omega)])
  have gK : rK t σ (up (up σ t 3 0) t 2 0) := fK.trans (rK.up _ (Or.inr (Or.inl rfl)) 0)
  have at18 : ¬ (lo && isD c) = true → Jd Y (d + 4) y_VR_goesOn 18 [(0, sR t (.inl 4)), (1, sI (nI c))] [] σ (rI k) := by
    intro hn
    have red : ∀ b, vgo (st, lo, s) c = b ↔ (if st = 0 then vbeg s c else if st = 2 then (if c = 41 then some (vend s.tail, false, s.tail) else if isN c then some (0, false, s) else none) else if st = 3 then (if c = 93 then some (vend s.tail, false, s.tail) else vbeg s c) else if st = 4 then (if c = 93 then some (vend s.tail, false, s.tail) else if c = 44 then some (0, false, s) else none) else none) = b := by
      intro b
      unfold vgo
      rw [if_neg hn]
    simp only [red] at hk1 hk0
    refine s_VR_goesOn_18 Y (d + 3) t _ σ (rI k) (s_VR_goesOn_19 Y (d + 3) t _ _ σ (rI k) ⟨Or.inl rfl, fun _ => ?_, fun h => absurd rfl h⟩)
    rw [f2, z_eq (by omega) 0 (by omega), z_eq (by omega) 1 (by omega), z_eq (by omega) 2 (by omega), z_eq (by omega) 3 (by omega), z_eq (by omega) 4 (by omega)]
    refine ⟨fun e0 => ?_, fun n0 => ⟨fun e1 => ⟨Or.inl rfl, ?_⟩, fun n1 => ⟨fun e2 => ⟨fun h41 => ?_, fun h41 => ?_⟩, fun n2 => ⟨fun e3 => ⟨fun h93 => ?_, fun h93 => ?_⟩, fun n3 => ⟨fun e4 => ⟨fun h93 => ⟨fun h44 => ⟨Or.inl rfl, ?_⟩, fun h44 => ⟨Or.inr rfl, ?_⟩⟩, fun h93 => ?_⟩, fun n4 => by omega⟩⟩⟩⟩⟩
    · rw [if_pos e0] at hk1 hk0
      exact c_VR_begins Y d t f1 f4 hl hq (up_self _ _ _ _) hc _ (fun b σ' h1 h2 h3 => ⟨Or.inr rfl, hk1 b σ' h1 h2 (fK.trans h3)⟩) (fun σ' h1 h3 => ⟨Or.inl rfl, hk0 σ' h1 (fK.trans h3)⟩)
    · rw [if_neg n0, if_neg (by omega), if_neg (by omega), if_neg (by omega)] at hk0
      exact hk0 _ rfl fK
    · rw [if_neg n0, if_pos e2] at hk1 hk0
      rw [z_eq (by omega) 41 (by omega)] at h41
      rw [if_neg h41] at hk1 hk0
      rw [iNam_nI hc]
      cases hn2 : isN c with
      | true =>
        rw [hn2] at hk1
        exact ⟨Or.inr rfl, hk1 (0, false, s) _ rfl ⟨g1, up_self _ _ _ _, g3, g4⟩ gK⟩
      | false =>
        rw [hn2] at hk0
        exact ⟨Or.inl rfl, hk0 _ rfl gK⟩
    · rw [if_neg n0, if_pos e2] at hk1
      rw [z_eq (by omega) 41 (by omega)] at h41
      rw [if_pos h41] at hk1
      exact c_VR_closes Y d t g1 g4 (by omega) hq g3 _ (fun σ' h1 h2 => ⟨Or.inr rfl, hk1 _ σ' rfl h1 (gK.trans h2)⟩)
    · rw [if_neg n0, if_neg n2, if_pos e3] at hk1 hk0
      rw [z_eq (by omega) 93 (by omega)] at h93
      rw [if_neg h93] at hk1 hk0
      exact c_VR_begins Y d t f1 f4 hl hq (up_self _ _ _ _) hc _ (fun b σ' h1 h2 h3 => ⟨Or.inr rfl, hk1 b σ' h1 h2 (fK.trans h3)⟩) (fun σ' h1 h3 => ⟨Or.inl rfl, hk0 σ' h1 (fK.trans h3)⟩)
    · rw [if_neg n0, if_neg n2, if_pos e3] at hk1
      rw [z_eq (by omega) 93 (by omega)] at h93
      rw [if_pos h93] at hk1
      exact c_VR_closes Y d t f1 f4 (by omega) hq (up_self _ _ _ _) _ (fun σ' h1 h2 => ⟨Or.inr rfl, hk1 _ σ' rfl h1 (fK.trans h2)⟩)
    · rw [if_neg n0, if_neg n2, if_neg n3, if_pos e4] at hk0
      rw [z_eq (by omega) 93 (by omega)] at h93
      rw [z_eq (by omega) 44 (by omega)] at h44
      rw [if_neg h93, if_neg h44] at hk0
      exact hk0 _ rfl gK
    · rw [if_neg n0, if_neg n2, if_neg n3, if_pos e4] at hk1
      rw [z_eq (by omega) 93 (by omega)] at h93
      rw [z_eq (by omega) 44 (by omega)] at h44
      rw [if_neg h93, if_pos h44] at hk1
      exact hk1 (0, false, s) _ rfl ⟨g1, up_self _ _ _ _, g3, g4⟩ gK
    · rw [if_neg n0, if_neg n2, if_neg n3, if_pos e4] at hk1
      rw [z_eq (by omega) 93 (by omega)] at h93
      rw [if_pos h93] at hk1
      exact c_VR_closes Y d t g1 g4 (by omega) hq g3 _ (fun σ' h1 h2 => ⟨Or.inr rfl, hk1 _ σ' rfl h1 (gK.trans h2)⟩)
  refine s_VR_goesOn_0 Y (d + 3) t _ σ (rI k) ⟨fun h0 => ?_, fun h0 => ⟨fun h1 => ?_, fun h1 => ?_⟩⟩
  · rw [a3] at h0
    refine at18 (fun z => ?_)
    rw [Bool.and_eq_true] at z
    rw [z.1] at h0
    exact absurd h0 (by decide)
  · rw [iDig_nI hc] at h1
    refine at18 (fun z => ?_)
    rw [Bool.and_eq_true] at z
    rw [z.2] at h1
    exact absurd h1 (by decide)
  · have e1 : lo = true := by
      cases z : lo with
      | true => rfl
      | false => rw [a3, z] at h0; exact absurd rfl h0
    have e2 : isD c = true := by
      cases z : isD c with
      | true => rfl
      | false => rw [iDig_nI hc, z] at h1; exact absurd rfl h1
    refine s_VR_goesOn_19 Y (d + 3) t _ _ σ (rI k) ⟨Or.inl rfl, fun h => absurd h (by decide), fun _ => ⟨Or.inr rfl, ?_⟩⟩
    refine hk1 (st, false, s) _ ?_ ⟨f1, f2, up_self _ _ _ _, f4⟩ fK
    show (if (lo && isD c) = true then _ else _) = _
    rw [if_pos (by rw [e1, e2]; rfl)]
/-- marks are small -/
def vmk (a : VA) : Prop := a.1 < 5 ∧ ∀ q ∈ a.2.2, q < 2 ^ 31
theorem vbeg_mk {s : List Nat} {c : Nat} {b : VA} (hs : ∀ q ∈ s, q < 2 ^ 31) (h : vbeg s c = some b) : vmk b := by
  unfold vbeg at h
  split at h
  · cases h
    exact ⟨by show 2 < 5; omega, fun q hq => by
      rcases List.mem_cons.mp hq with rfl | hq
      · omega
      · exact hs q hq⟩
  · split at h
    · cases h
      exact ⟨by show 3 < 5; omega, fun q hq => by
        rcases List.mem_cons.mp hq with rfl | hq
        · omega
        · exact hs q hq⟩
    · split at h
      · cases h
        exact ⟨vend_lt s, hs⟩
      · split at h
        · cases h
          exact ⟨vend_lt s, hs⟩
        · cases h
theorem vgo_mk {a b : VA} {c : Nat} (ha : vmk a) (h : vgo a c = some b) : vmk b := by
  have ht : ∀ q ∈ a.2.2.tail, q < 2 ^ 31 := fun q hq => ha.2 q (List.mem_of_mem_tail hq)
  unfold vgo at h
  split at h
  · cases h; exact ha
  · split at h
    · exact vbeg_mk ha.2 h
    · split at h
      · split at h
        · cases h; exact ⟨vend_lt _, ht⟩
        · split at h
          · cases h; exact ⟨by show 0 < 5; omega, ha.2⟩
          · cases h
      · split at h
        · split at h
          · cases h; exact ⟨vend_lt _, ht⟩
          · exact vbeg_mk ha.2 h
        · split at h
          · split at h
            · cases h; exact ⟨vend_lt _, ht⟩
            · split at h
              · cases h; exact ⟨by show 0 < 5; omega, ha.2⟩
              · cases h
          · cases h
theorem c_RD_stumbleV (Y : List kd) (d t a n : Nat) (L : Nat → Nat) (hn : n ≤ 96) (ht : a ≠ t) (ht1 : a ≠ t + 1) {σ : sS} (hL : ∀ i, i < n → σ a i = nI (L i) ∧ L i < 256) (k : Int32 → sS → Prop) (hk : ∀ σ', (∀ x, x ≠ t → x ≠ t + 1 → σ' x = σ x) → (∀ i, i ≠ 1 → i ≠ 2 → i ≠ 3 → σ' t i = σ t i) → k (match vst L n 0 (0, false, []) with | none => -1 | some p => nI p) σ') : CJ Y (d + 5) y_RD_stumble [sR t (.inl 4), sR a (.inr 96), sI (nI n)] σ (rI k) := by
  have key : ∀ m i, i + m = n → ∀ (b : VA) (τ : sS), RA τ t b → rK t σ τ → b.2.2.length ≤ i → vmk b → (∀ σ', rK t σ σ' → k (match vst L m i b with | none => -1 | some p => nI p) σ') → Jd Y (d + 5) y_RD_stumble 17 [(0, sR t (.inl 4)), (1, sR a (.inr 96)), (2, sI (nI n)), (3, sI (nI i))] [] τ (rI k) := by
    intro m
    induction m with
    | zero =>
      intro i hi b τ hR hK hl hm hq
      have : i = n := by omega
      subst this
      have h5 := hm.1
      refine s_RD_stumbleV_17 Y (d + 4) t a _ _ τ (rI k) ⟨fun _ => ⟨fun hne => ?_, fun he => ?_⟩, fun hlt => ?_⟩
      · rw [hR.2.1, z_eq (by omega) 1 (by omega)] at hne
        have := hq τ hK
        unfold vst at this
        rw [if_neg hne] at this
        exact this
      · rw [hR.2.1, z_eq (by omega) 1 (by omega)] at he
        have := hq τ hK
        unfold vst at this
        rw [if_pos he] at this
        exact this
      · rw [i32_lt (by omega) (by omega)] at hlt
        omega
    | succ m ih =>
      intro i hi b τ hR hK hl hm hq
      have h5 := hm.1
      refine s_RD_stumbleV_17 Y (d + 4) t a _ _ τ (rI k) ⟨fun hlt => ?_, fun _ => ?_⟩
      · rw [i32_lt (by omega) (by omega)] at hlt
        omega
      · obtain ⟨l1, l2⟩ := hL i (by omega)
        rw [rd_nI (by omega) (by omega), hK.1 a ht ht1, l1]
        refine c_VR_goesOn Y d t hR (by omega) hm.2 h5 l2 _ (fun b' σ' g1 g2 g3 => ⟨fun _ => ?_, fun h => absurd h (by decide)⟩) (fun σ' g1 g3 => ⟨fun h => absurd rfl h, fun _ => ?_⟩)
        · rw [nI_s1]
          have := vgo_len g1
          refine ih (i + 1) (by omega) b' σ' g2 (hK.trans g3) (by omega) (vgo_mk hm g1) (fun σ'' hK2 => ?_)
          have := hq σ'' hK2
          unfold vst at this
          rw [g1] at this
          exact this
        · have := hq σ' (hK.trans g3)
          unfold vst at this
          rw [g1] at this
          exact this
  refine s_RD_stumbleV_0 Y (d + 4) t a _ σ (rI k) ⟨Or.inl rfl, ?_⟩
  refine key n 0 (by omega) (0, false, []) _ ⟨?_, ?_, ?_, True.intro⟩ ?_ (Nat.le_refl _) ⟨by show 0 < 5; omega, fun q hq => absurd hq List.not_mem_nil⟩ (fun σ' h => hk σ' h.1 h.2)
  · rw [up_other _ _ (Or.inr (by omega)), up_other _ _ (Or.inr (by omega)), up_self]; rfl
  · rw [up_other _ _ (Or.inr (by omega)), up_self]; rfl
  · rw [up_self]; rfl
  · exact ((rK.up σ (Or.inl rfl) 0).trans (rK.up _ (Or.inr (Or.inl rfl)) 0)).trans (rK.up _ (Or.inr (Or.inr rfl)) 0)
