/-! the reference reads letters: what its small methods do -/
def mV (σ σ' : sS) : Prop := (∀ x, x ≠ 0 → x ≠ 2 → x ≠ 3 → x ≠ 4 → (x < 30 ∨ 34 < x) → σ' x = σ x) ∧ ∀ i, i ≠ 6 → (i < 43 ∨ 46 < i) → σ' 0 i = σ 0 i
theorem mV.refl (σ : sS) : mV σ σ := ⟨fun _ _ _ _ _ _ => rfl, fun _ _ _ => rfl⟩
theorem mV.trans {σ σ1 σ2 : sS} (h : mV σ σ1) (g : mV σ1 σ2) : mV σ σ2 := ⟨fun x a b c d e => by rw [g.1 x a b c d e, h.1 x a b c d e], fun i a b => by rw [g.2 i a b, h.2 i a b]⟩
theorem mV.up0 (σ : sS) {i : Nat} (hi : i = 6 ∨ i = 43 ∨ i = 44 ∨ i = 45 ∨ i = 46) (x : Int32) : mV σ (up σ 0 i x) := ⟨fun y a _ _ _ _ => up_cell _ _ a, fun j a b => up_other _ _ (Or.inr (by omega))⟩
theorem mV.upc (σ : sS) {c i : Nat} (hc : c = 2 ∨ c = 3 ∨ c = 4 ∨ c = 30 ∨ c = 31 ∨ c = 32 ∨ c = 33 ∨ c = 34) (x : Int32) : mV σ (up σ c i x) := ⟨fun y _ b c d e => up_cell _ _ (by omega), fun j _ _ => by rw [up_cell _ _ (show 0 ≠ c by omega)]⟩
/-- letters that are read: how far, how many there are -/
def TP (L : Nat → Nat) (n : Nat) (σ : sS) (i : Nat) : Prop := σ 0 43 = nI i ∧ σ 0 42 = nI n ∧ (∀ j, j < n → σ 29 j = nI (L j) ∧ L j < 256) ∧ n ≤ 96 ∧ i ≤ n
theorem TP.kept {L : Nat → Nat} {n i j : Nat} {σ σ' : sS} (h : TP L n σ i) (h43 : σ' 0 43 = nI j) (hj : j ≤ n) (h42 : σ' 0 42 = σ 0 42) (h29 : σ' 29 = σ 29) : TP L n σ' j := ⟨h43, by rw [h42]; exact h.2.1, by rw [h29]; exact h.2.2.1, h.2.2.2.1, hj⟩
theorem TP.next {L : Nat → Nat} {n i : Nat} {σ : sS} (h : TP L n σ i) (hi : i < n) : TP L n (up σ 0 43 (nI (i + 1))) (i + 1) := h.kept (up_self _ _ _ _) hi (up_other _ _ (Or.inr (by omega))) (up_cell _ _ (by omega))
theorem c_MO_sign (Y : List kd) (d : Nat) {L : Nat → Nat} {n i : Nat} {σ : sS} (h : TP L n σ i) (k : Int32 → sS → Prop) (h1 : i < n → k (nI (L i)) σ) (h0 : i = n → k (-1) σ) : CJ Y d y_MO_sign [sR 0 (.inl 6)] σ (rI k) := by
  obtain ⟨a1, a2, a3, a4, a5⟩ := h
  refine s_MO_sign_0 Y d 0 σ (rI k) ⟨fun hz => ?_, fun hz => ?_⟩
  · rw [a1, a2, i32_lt (by omega) (by omega)] at hz
    exact h0 (by omega)
  · rw [a1, a2, i32_lt (by omega) (by omega)] at hz
    rw [a1]
    refine ⟨vinI (by omega) (by omega), ?_⟩
    rw [cl_nI (by omega), show σ (0 + 29) i = nI (L i) from (a3 i hz).1]
    exact h1 hz
theorem c_MO_reads (Y : List kd) (d : Nat) {L : Nat → Nat} {n i : Nat} {σ : sS} (h : TP L n σ i) {c : Nat} (hc : c < 256) (k : Int32 → sS → Prop) (h1 : i < n → L i = c → k 1 (up σ 0 43 (nI (i + 1)))) (h0 : (i < n → L i ≠ c) → k 0 σ) : CJ Y (d + 1) y_MO_reads [sR 0 (.inl 6), sI (nI c)] σ (rI k) := by
  refine s_MO_reads_0 Y d 0 _ σ (rI k) ?_
  refine c_MO_sign Y d h _ (fun hi => ?_) (fun hi => ?_)
  · have hb := (h.2.2.1 i hi).2
    rw [i32_eq (by omega) (by omega)]
    refine ⟨fun e => ⟨Or.inr rfl, ?_⟩, fun e => ⟨Or.inl rfl, h0 (fun _ => e)⟩⟩
    rw [h.1, nI_s1]
    exact h1 hi e
  · refine ⟨fun e => ?_, fun _ => ⟨Or.inl rfl, h0 (fun z => by omega)⟩⟩
    have : nI c < 0 := by rw [← e]; decide
    exact absurd this (nI_pos (by omega))
theorem c_MO_digit (Y : List kd) (d : Nat) {L : Nat → Nat} {n i : Nat} {σ : sS} (h : TP L n σ i) (k : Int32 → sS → Prop) (h1 : i < n → isD (L i) = true → k (nI (L i - 48)) (up σ 0 43 (nI (i + 1)))) (h0 : (i < n → isD (L i) = false) → k (-9) σ) : CJ Y (d + 1) y_MO_digit [sR 0 (.inl 6)] σ (rI k) := by
  refine s_MO_digit_0 Y d 0 σ (rI k) ?_
  refine c_MO_sign Y d h _ (fun hi => ?_) (fun hi => ?_)
  · have hb := (h.2.2.1 i hi).2
    rw [iInD_nI hb]
    cases hd : isD (L i) with
    | true =>
      have hd2 := isD_iff.mp hd
      have h96 := h.2.2.2.1
      refine ⟨fun _ => ?_, fun e => absurd e (by decide)⟩
      rw [up_self, h.1, nI_s1, nI_pred]
      refine ⟨vinI (by omega) (by omega), ?_⟩
      rw [cl_nI (by omega), up_cell _ _ (by omega), show σ (0 + 29) i = nI (L i) from (h.2.2.1 i hi).1]
      have e : nI (L i) - 48 = nI (L i - 48) := nI_subm (a := L i) (b := 48) (by omega)
      rw [e]
      exact h1 hi hd
    | false =>
      refine ⟨fun e => absurd rfl e, fun _ => h0 (fun _ => hd)⟩
  · exact ⟨fun e => absurd (by decide) e, fun _ => h0 (fun z => by omega)⟩
theorem c_MO_nameNow (Y : List kd) (d : Nat) {L : Nat → Nat} {n i : Nat} {σ : sS} (h : TP L n σ i) (k : Int32 → sS → Prop) (h1 : i < n → isN (L i) = true → k (nI (L i - 96)) (up σ 0 43 (nI (i + 1)))) (h0 : (i < n → isN (L i) = false) → k (-9) σ) : CJ Y (d + 1) y_MO_nameNow [sR 0 (.inl 6)] σ (rI k) := by
  refine s_MO_nameNow_0 Y d 0 σ (rI k) ?_
  refine c_MO_sign Y d h _ (fun hi => ?_) (fun hi => ?_)
  · have hb := (h.2.2.1 i hi).2
    rw [iInN_nI hb]
    cases hd : isN (L i) with
    | true =>
      have hd2 := isN_iff.mp hd
      have h96 := h.2.2.2.1
      refine ⟨fun _ => ?_, fun e => absurd e (by decide)⟩
      rw [up_self, h.1, nI_s1, nI_pred]
      refine ⟨vinI (by omega) (by omega), ?_⟩
      rw [cl_nI (by omega), up_cell _ _ (by omega), show σ (0 + 29) i = nI (L i) from (h.2.2.1 i hi).1]
      have e : nI (L i) - 97 + 1 = nI (L i - 96) := by
        rw [lit 97, nI_subm (by omega), nI_s1]
        congr 1
        omega
      rw [e]
      exact h1 hi hd
    | false =>
      refine ⟨fun e => absurd rfl e, fun _ => h0 (fun _ => hd)⟩
  · exact ⟨fun e => absurd (by decide) e, fun _ => h0 (fun z => by omega)⟩
theorem c_MO_isBad (Y : List kd) (d : Nat) {σ : sS} (p : Nat) (k : sS → Prop) (hk : k (up σ 0 44 (if σ 0 44 < 0 then nI p else σ 0 44))) : CJ Y d y_MO_isBad [sR 0 (.inl 6), sI (nI p)] σ (rN k) := by
  refine s_MO_isBad_0 Y d 0 _ σ (rN k) ⟨fun h => ?_, fun h => ?_⟩
  · rw [if_neg h] at hk
    exact hk
  · rw [if_pos h] at hk
    exact hk
/-! what is open in the reference -/
abbrev OP : Type := List (Nat × Nat)
def ost (M : Nat) (σ : sS) : OP → Prop
  | [] => True
  | q :: r => (σ 31 r.length = nI q.1 ∧ σ 33 r.length = nI q.2 ∧ ∃ x, x ≤ M ∧ σ 30 r.length = nI x) ∧ ost M σ r
theorem ost.kept {M : Nat} {σ σ' : sS} : ∀ {o : OP}, ost M σ o → (∀ i, i < o.length → σ' 30 i = σ 30 i ∧ σ' 31 i = σ 31 i ∧ σ' 33 i = σ 33 i) → ost M σ' o
  | [], _, _ => True.intro
  | q :: r, h, g => by
    obtain ⟨g0, g1, g3⟩ := g r.length (by rw [List.length_cons]; omega)
    refine ⟨⟨by rw [g1]; exact h.1.1, by rw [g3]; exact h.1.2.1, ?_⟩, ost.kept h.2 (fun i hi => g i (by rw [List.length_cons]; omega))⟩
    obtain ⟨x, x1, x2⟩ := h.1.2.2
    exact ⟨x, x1, by rw [g0]; exact x2⟩
theorem c_MO_opens (Y : List kd) (d : Nat) {σ : sS} {o : OP} (h45 : σ 0 45 = nI o.length) (hl : o.length < 100) (p : Nat) (of inn : Nat) (hin : inn ≤ 1) (k : sS → Prop)
    (hk : ∀ σ', σ' 0 45 = nI (o.length + 1) → σ' 30 o.length = nI p → σ' 31 o.length = nI of → σ' 32 o.length = 0 → σ' 33 o.length = 0 → σ' 34 o.length = nI inn → (∀ x, 30 ≤ x → x ≤ 34 → ∀ y, y ≠ o.length → σ' x y = σ x y) → (∀ x, x ≠ 0 → (x < 30 ∨ 34 < x) → σ' x = σ x) → (∀ i, i ≠ 45 → σ' 0 i = σ 0 i) → k σ') :
    CJ Y d y_MO_opens [sR 0 (.inl 6), sI (nI p), sI (nI of), sI (nI inn)] σ (rN k) := by
  have c0 : ∀ (τ : sS) (c j : Nat) (x : Int32), c ≠ 0 → up τ c j x 0 = τ 0 := fun τ c j x hc => up_cell _ _ (fun z => hc z.symm)
  have fin : ∀ w : Int32, w = nI inn → k (up (up (up (up (up (up σ 30 o.length (nI p)) 31 o.length (nI of)) 32 o.length 0) 33 o.length 0) 34 o.length w) 0 45 (nI (o.length + 1))) := by
    intro w hw
    refine hk _ (up_self _ _ _ _) ?_ ?_ ?_ ?_ ?_ (fun x x1 x2 y hy => ?_) (fun x x0 hx => ?_) (fun i hi => ?_)
    · rw [up_cell _ _ (by omega), up_cell _ _ (by omega), up_cell _ _ (by omega), up_cell _ _ (by omega), up_cell _ _ (by omega), up_self]
    · rw [up_cell _ _ (by omega), up_cell _ _ (by omega), up_cell _ _ (by omega), up_cell _ _ (by omega), up_self]
    · rw [up_cell _ _ (by omega), up_cell _ _ (by omega), up_cell _ _ (by omega), up_self]
    · rw [up_cell _ _ (by omega), up_cell _ _ (by omega), up_self]
    · rw [up_cell _ _ (by omega), up_self, hw]
    · rw [up_cell _ _ (show x ≠ 0 by omega), up_other _ _ (Or.inr hy), up_other _ _ (Or.inr hy), up_other _ _ (Or.inr hy), up_other _ _ (Or.inr hy), up_other _ _ (Or.inr hy)]
    · rw [up_cell _ _ x0, up_cell _ _ (show x ≠ 34 by omega), up_cell _ _ (show x ≠ 33 by omega), up_cell _ _ (show x ≠ 32 by omega), up_cell _ _ (show x ≠ 31 by omega), up_cell _ _ (show x ≠ 30 by omega)]
    · rw [up_other _ _ (Or.inr hi), c0 _ _ _ _ (by omega), c0 _ _ _ _ (by omega), c0 _ _ _ _ (by omega), c0 _ _ _ _ (by omega), c0 _ _ _ _ (by omega)]
  have w57 : ∀ w : Int32, w = nI inn → Jd Y d y_MO_opens 57 [(0, sR 0 (.inl 6))] [sI w, sI (nI o.length), sR 34 (.inr 100)] (up (up (up (up σ 30 o.length (nI p)) 31 o.length (nI of)) 32 o.length 0) 33 o.length 0) (rN k) := by
    intro w hw
    refine s_MO_opens_57 Y d 0 _ _ _ _ (rN k) ⟨vinI (by omega) (by omega), ?_⟩
    rw [cl_nI (by omega), c0 _ _ _ _ (by omega), c0 _ _ _ _ (by omega), c0 _ _ _ _ (by omega), c0 _ _ _ _ (by omega), c0 _ _ _ _ (by omega), h45, nI_s1]
    exact fin w hw
  refine s_MO_opens_0 Y d 0 _ _ _ σ (rN k) ?_
  have e30 : (0 + 30 : Nat) = 30 := rfl
  simp only [Nat.zero_add, c0 _ 30 _ _ (by omega : (30 : Nat) ≠ 0), c0 _ 31 _ _ (by omega : (31 : Nat) ≠ 0), c0 _ 32 _ _ (by omega : (32 : Nat) ≠ 0), c0 _ 33 _ _ (by omega : (33 : Nat) ≠ 0), h45, cl_nI (show o.length < 2 ^ 31 by omega)]
  refine ⟨vinI (by omega) (by omega), vinI (by omega) (by omega), vinI (by omega) (by omega), vinI (by omega) (by omega), fun h => ?_, fun h => ?_⟩
  · rw [z_eq (by omega) 0 (by omega)] at h
    subst h
    exact w57 0 rfl
  · rw [z_eq (by omega) 0 (by omega)] at h
    have : inn = 1 := by omega
    subst this
    exact w57 1 rfl
