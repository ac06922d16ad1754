/-! the relation of the two worlds -/
theorem i32_nI {x : Int32} (h0 : ¬ x < 0) : ∃ j, j < 2 ^ 31 ∧ x = nI j := by
  have h1 : x.toInt < 2 ^ 31 := Int32.toInt_lt x
  rw [Int32.lt_iff_toInt_lt, Int32.toInt_zero] at h0
  refine ⟨x.toInt.toNat, by omega, ?_⟩
  apply Int32.toInt_inj.mp
  rw [nI_toInt (by omega)]
  omega
theorem neg_lt {x : Int32} (h : x < 0) {n : Nat} (hn : n < 2 ^ 31) : x < nI n := by
  rw [Int32.lt_iff_toInt_lt, Int32.toInt_zero] at h
  rw [Int32.lt_iff_toInt_lt, nI_toInt hn]
  omega
theorem iIn_nI {j lo hi : Nat} (hj : j < 2 ^ 31) (hl : lo < 2 ^ 31) (hh : hi < 2 ^ 31) : iIn (nI j) (nI lo) (nI hi) = if j < lo then 0 else if hi < j then 0 else 1 := by
  unfold iIn
  simp only [i32_lt hj hl, i32_lt hh hj]
theorem iIn_neg {x hi : Int32} (h : x < 0) {lo : Nat} (hl : lo < 2 ^ 31) : iIn x (nI lo) hi = 0 := by
  unfold iIn
  rw [if_pos (neg_lt h hl)]
def AX (σ : sS) (v : VT) (c : CT) (n : Nat) (L : Nat → Nat) (m : Nat) (T : Nat → Nat) (rf : Nat → Int32) (im : Option (VT × CT)) : Prop :=
  XV σ 1 v ∧ XC σ 16 c ∧ σ 0 6 = nI n ∧ (∀ i, i < n → σ 64 i = nI (L i)) ∧ σ 0 8 = nI m ∧ (∀ i, i < m → σ 65 i = nI (T i)) ∧ (∀ i, i ≤ 6 → σ 66 i = rf i) ∧ (im = none → σ 0 12 = 0) ∧ ∀ v' c', im = some (v', c') → σ 0 12 = 1 ∧ XV σ 67 v' ∧ XC σ 74 c'
def AM (σ : sS) (v : VT) (c : CT) (n : Nat) (L : Nat → Nat) (m : Nat) (T : Nat → Nat) (rf : Nat → Int32) (im : Option (VT × CT)) : Prop :=
  MV σ v ∧ MC σ c ∧ σ 0 42 = nI n ∧ (∀ i, i < n → σ 29 i = nI (L i)) ∧ σ 0 52 = nI m ∧ (∀ i, i < m → σ 36 i = nI (T i)) ∧ (∀ i, i ≤ 6 → σ 1 i = rf i) ∧ (im = none → σ 0 48 = 0) ∧ ∀ v' c', im = some (v', c') → σ 0 48 = 1 ∧ (∃ R, KV σ 0 R ∧ MB R v') ∧ ∃ R, KC σ 0 R ∧ MC R c'
/-- scratch cells change alone -/
def xF (σ σ' : sS) : Prop := (∀ x, x ≠ 0 → (x < 8 ∨ 15 < x) → (x < 30 ∨ 63 < x) → σ' x = σ x) ∧ ∀ i, i ≠ 13 → σ' 0 i = σ 0 i
theorem xF.refl (σ : sS) : xF σ σ := ⟨fun _ _ _ _ => rfl, fun _ _ => rfl⟩
theorem xF.trans {σ σ1 σ2 : sS} (h : xF σ σ1) (g : xF σ1 σ2) : xF σ σ2 := ⟨fun x a b c => by rw [g.1 x a b c, h.1 x a b c], fun i a => by rw [g.2 i a, h.2 i a]⟩
theorem AX.kept {σ σ' : sS} {v : VT} {c : CT} {n : Nat} {L : Nat → Nat} {m : Nat} {T : Nat → Nat} {rf : Nat → Int32} {im : Option (VT × CT)} (h : AX σ v c n L m T rf im) (k : xF σ σ') : AX σ' v c n L m T rf im := by
  obtain ⟨h1, h2, h3, h4, h5, h6, h7, h8, h9⟩ := h
  refine ⟨h1.kept (fun x a b => k.1 x (by omega) (by omega) (by omega)), h2.kept (fun x a b => k.1 x (by omega) (by omega) (by omega)), by rw [k.2 6 (by omega)]; exact h3, fun i hi => by rw [k.1 64 (by omega) (by omega) (by omega)]; exact h4 i hi, by rw [k.2 8 (by omega)]; exact h5, fun i hi => by rw [k.1 65 (by omega) (by omega) (by omega)]; exact h6 i hi, fun i hi => by rw [k.1 66 (by omega) (by omega) (by omega)]; exact h7 i hi, fun e => by rw [k.2 12 (by omega)]; exact h8 e, fun v' c' e => ?_⟩
  obtain ⟨a1, a2, a3⟩ := h9 v' c' e
  exact ⟨by rw [k.2 12 (by omega)]; exact a1, a2.kept (fun x a b => k.1 x (by omega) (by omega) (by omega)), a3.kept (fun x a b => k.1 x (by omega) (by omega) (by omega))⟩
def mS (σ σ' : sS) : Prop := (∀ x, x ≠ 0 → (x < 20 ∨ 28 < x) → (x < 30 ∨ 35 < x) → σ' x = σ x) ∧ (∀ j, j < 460 → σ' 35 j = σ 35 j) ∧ ∀ i, i ≠ 23 → (i < 33 ∨ 35 < i) → (i < 43 ∨ 46 < i) → i ≠ 49 → i ≠ 50 → i ≠ 53 → σ' 0 i = σ 0 i
theorem mS.refl (σ : sS) : mS σ σ := ⟨fun _ _ _ _ => rfl, fun _ _ => rfl, fun _ _ _ _ _ _ _ => rfl⟩
theorem mS.trans {σ σ1 σ2 : sS} (h : mS σ σ1) (g : mS σ1 σ2) : mS σ σ2 := ⟨fun x a b c => by rw [g.1 x a b c, h.1 x a b c], fun j hj => by rw [g.2.1 j hj, h.2.1 j hj], fun i a b c d e f => by rw [g.2.2 i a b c d e f, h.2.2 i a b c d e f]⟩
theorem AM.kept {σ σ' : sS} {v : VT} {c : CT} {n : Nat} {L : Nat → Nat} {m : Nat} {T : Nat → Nat} {rf : Nat → Int32} {im : Option (VT × CT)} (wc : WFC c) (h : AM σ v c n L m T rf im) (k : mS σ σ') : AM σ' v c n L m T rf im := by
  obtain ⟨h1, h2, h3, h4, h5, h6, h7, h8, h9⟩ := h
  refine ⟨h1.kept (k.2.2 6 (by omega) (by omega) (by omega) (by omega) (by omega) (by omega)) (fun x a b => k.1 x (by omega) (by omega) (by omega)), h2.kept wc (fun i a b => k.2.2 i (by omega) (by omega) (by omega) (by omega) (by omega) (by omega)) (fun x a b => k.1 x (by omega) (by omega) (by omega)), by rw [k.2.2 42 (by omega) (by omega) (by omega) (by omega) (by omega) (by omega)]; exact h3, fun i hi => by rw [k.1 29 (by omega) (by omega) (by omega)]; exact h4 i hi, by rw [k.2.2 52 (by omega) (by omega) (by omega) (by omega) (by omega) (by omega)]; exact h5, fun i hi => by rw [k.1 36 (by omega) (by omega) (by omega)]; exact h6 i hi, fun i hi => by rw [k.1 1 (by omega) (by omega) (by omega)]; exact h7 i hi, fun e => by rw [k.2.2 48 (by omega) (by omega) (by omega) (by omega) (by omega) (by omega)]; exact h8 e, fun v' c' e => ?_⟩
  obtain ⟨a1, ⟨R, a2, a4⟩, R2, a3, a5⟩ := h9 v' c' e
  exact ⟨by rw [k.2.2 48 (by omega) (by omega) (by omega) (by omega) (by omega) (by omega)]; exact a1, ⟨R, a2.same (fun j _ hj => k.2.1 j (by omega)), a4⟩, R2, a3.same (fun j _ hj => k.2.1 j (by omega)), a5⟩
def rfU (rf : Nat → Int32) (j : Nat) : Nat → Int32 := fun i => if i = j then rf i + 1 else rf i
theorem X_refuse (d : Nat) {σ : sS} {v : VT} {c : CT} {n : Nat} {L : Nat → Nat} {m : Nat} {T : Nat → Nat} {rf : Nat → Int32} {im : Option (VT × CT)} (h : AX σ v c n L m T rf im) (w : Int32) (j : Nat) (hw : -w = nI j) (hj : j ≤ 6) (k : Int32 → sS → Prop) (hk : ∀ σ', AX σ' v c n L m T (rfU rf j) im → k w σ') : CJ LX (d + 1) y_GF_refuse [sR 0 (.inl 5), sI w] σ (rI k) := by
  refine s_GF_refuse_0 LX d 0 _ σ (rI k) ?_
  rw [hw, rd_nI (by omega) (by omega), wr_nI (by omega) (by omega)]
  obtain ⟨h1, h2, h3, h4, h5, h6, h7, h8, h9⟩ := h
  have u : ∀ x, x ≠ 66 → (up σ 66 j (σ 66 j + 1)) x = σ x := fun x hx => up_cell _ _ hx
  refine hk _ ⟨h1.kept (fun x a b => u x (by omega)), h2.kept (fun x a b => u x (by omega)), by rw [u 0 (by omega)]; exact h3, fun i hi => by rw [u 64 (by omega)]; exact h4 i hi, by rw [u 0 (by omega)]; exact h5, fun i hi => by rw [u 65 (by omega)]; exact h6 i hi, fun i hi => ?_, fun e => by rw [u 0 (by omega)]; exact h8 e, fun v' c' e => ?_⟩
  · unfold rfU
    by_cases z : i = j
    · rw [if_pos z, z]
      show (up σ 66 j (σ 66 j + 1)) 66 j = _
      rw [up_self, h7 j hj]
    · rw [if_neg z]
      show (up σ 66 j (σ 66 j + 1)) 66 i = _
      rw [up_other _ _ (Or.inr z)]
      exact h7 i hi
  · obtain ⟨a1, a2, a3⟩ := h9 v' c' e
    exact ⟨by rw [u 0 (by omega)]; exact a1, a2.kept (fun x a b => u x (by omega)), a3.kept (fun x a b => u x (by omega))⟩
