/-! the leaves: what they do -/
theorem i32_clamp (x : Int32) : x.toNatClampNeg = x.toInt.toNat := rfl
theorem i32_ltN {x : Int32} {n : Nat} (hn : n < 2 ^ 31) (h0 : ¬ x < 0) : x < nI n ↔ x.toNatClampNeg < n := by
  rw [Int32.lt_iff_toInt_lt, nI_toInt hn, i32_clamp]
  rw [Int32.lt_iff_toInt_lt, Int32.toInt_zero] at h0
  omega
def rd (σ : sS) (a n : Nat) (i : Int32) : Int32 := if i < 0 then 0 else if n ≤ i.toNatClampNeg then 0 else σ a i.toNatClampNeg
def wr (σ : sS) (a n : Nat) (i v : Int32) : sS := if i < 0 then σ else if n ≤ i.toNatClampNeg then σ else up σ a i.toNatClampNeg v
def iDig (v : Int32) : Int32 := if v < 48 then 0 else if 57 < v then 0 else 1
def iNam (v : Int32) : Int32 := if v < 97 then 0 else if 101 < v then 0 else 1
def iIn (v a b : Int32) : Int32 := if v < a then 0 else if b < v then 0 else 1
def iBd (v a b : Int32) : Int32 := if v < a then -4 else if b < v then -6 else 0
def iHas (s k : Int32) : Int32 := if (s >>> (k &&& 31)) &&& 1 = 1 then 1 else 0
def cp (σ : sS) (a0 a1 n : Nat) : sS := upA σ a1 (va_cpy (σ a0) (σ a1) 0 0 n)
def cl (σ : sS) (a n : Nat) (f e g : Int32) : sS := if g < 0 then σ else if f < g then σ else if e < f then σ else if nI n < e then σ else upA σ a (va_cpy (σ a) (σ a) f.toNatClampNeg (f - g).toNatClampNeg (e - f).toNatClampNeg)
def pr_at : sP := fun as σ => match as with
  | [.inr (.inr (a, .inr n)), .inl i] => cond (Nat.blt n 2147483648) (some (some (.inl (rd σ a n i)), σ)) none
  | _ => none
def pr_set : sP := fun as σ => match as with
  | [.inr (.inr (a, .inr n)), .inl i, .inl v] => cond (Nat.blt n 2147483648) (some (none, wr σ a n i v)) none
  | _ => none
def pr_dig : sP := fun as σ => match as with
  | [.inl v] => some (some (.inl (iDig v)), σ)
  | _ => none
def pr_nam : sP := fun as σ => match as with
  | [.inl v] => some (some (.inl (iNam v)), σ)
  | _ => none
def pr_dof : sP := fun as σ => match as with
  | [.inl v] => some (some (.inl ((v - 97) + 1)), σ)
  | _ => none
theorem prk_at (Y : List kd) (as : List sv) (σ : sS) (r : Option sv) (σ' : sS) (h : pr_at as σ = some (r, σ')) (hw0 : wtS Y as) (d : Nat) (Q : Option sv → sS → Prop) (hq : Q r σ') : CJ Y d y_GF_at as σ Q := by
  unfold pr_at at h
  split at h
  · rename_i a n i
    cases hb : Nat.blt n 2147483648 with
    | false => rw [hb] at h; cases h
    | true =>
      rw [hb] at h
      have hn : n < 2 ^ 31 := Nat.le_of_ble_eq_true hb
      have e : some (Sum.inl (rd σ a n i)) = r ∧ σ = σ' := by simpa using h
      obtain ⟨rfl, rfl⟩ := e
      refine s_GF_at_0 Y d a n i σ Q ⟨fun h0 => ?_, fun h0 => ⟨fun h1 => ?_, fun h1 => ⟨?_, ?_⟩⟩⟩
      · simpa [rd, h0] using hq
      · rw [i32_ltN hn h0] at h1
        have h1 : n ≤ i.toNatClampNeg := by omega
        simpa [rd, h0, h1] using hq
      · rw [i32_ltN hn h0] at h1
        rintro (q | q)
        · exact h0 q
        · omega
      · rw [i32_ltN hn h0] at h1
        have h2 : ¬ n ≤ i.toNatClampNeg := by omega
        simpa [rd, h0, h2] using hq
  · cases h
theorem prk_set (Y : List kd) (as : List sv) (σ : sS) (r : Option sv) (σ' : sS) (h : pr_set as σ = some (r, σ')) (hw0 : wtS Y as) (d : Nat) (Q : Option sv → sS → Prop) (hq : Q r σ') : CJ Y d y_GF_set as σ Q := by
  unfold pr_set at h
  split at h
  · rename_i a n i v
    cases hb : Nat.blt n 2147483648 with
    | false => rw [hb] at h; cases h
    | true =>
      rw [hb] at h
      have hn : n < 2 ^ 31 := Nat.le_of_ble_eq_true hb
      have e : none = r ∧ wr σ a n i v = σ' := by simpa using h
      obtain ⟨rfl, rfl⟩ := e
      refine s_GF_set_0 Y d a n i v σ Q ⟨fun h0 => ?_, fun h0 => ⟨fun h1 => ?_, fun h1 => ⟨?_, ?_⟩⟩⟩
      · simpa [wr, h0] using hq
      · rw [i32_ltN hn h0] at h1
        have h1 : n ≤ i.toNatClampNeg := by omega
        simpa [wr, h0, h1] using hq
      · rw [i32_ltN hn h0] at h1
        rintro (q | q)
        · exact h0 q
        · omega
      · rw [i32_ltN hn h0] at h1
        have h2 : ¬ n ≤ i.toNatClampNeg := by omega
        simpa [wr, h0, h2] using hq
  · cases h
theorem prk_dig (Y : List kd) (as : List sv) (σ : sS) (r : Option sv) (σ' : sS) (h : pr_dig as σ = some (r, σ')) (hw0 : wtS Y as) (d : Nat) (Q : Option sv → sS → Prop) (hq : Q r σ') : CJ Y d y_GF_isDigit as σ Q := by
  unfold pr_dig at h
  split at h
  · rename_i v
    have e : some (Sum.inl (iDig v)) = r ∧ σ = σ' := by simpa using h
    obtain ⟨rfl, rfl⟩ := e
    refine s_GF_isDigit_0 Y d v σ Q ⟨fun h0 => ⟨Or.inl rfl, ?_⟩, fun h0 => ⟨fun h1 => ⟨Or.inl rfl, ?_⟩, fun h1 => ⟨Or.inr rfl, ?_⟩⟩⟩
    · simpa [iDig, h0] using hq
    · simpa [iDig, h0, h1] using hq
    · simpa [iDig, h0, h1] using hq
  · cases h
theorem prk_nam (Y : List kd) (as : List sv) (σ : sS) (r : Option sv) (σ' : sS) (h : pr_nam as σ = some (r, σ')) (hw0 : wtS Y as) (d : Nat) (Q : Option sv → sS → Prop) (hq : Q r σ') : CJ Y d y_GF_isName as σ Q := by
  unfold pr_nam at h
  split at h
  · rename_i v
    have e : some (Sum.inl (iNam v)) = r ∧ σ = σ' := by simpa using h
    obtain ⟨rfl, rfl⟩ := e
    refine s_GF_isName_0 Y d v σ Q ⟨fun h0 => ⟨Or.inl rfl, ?_⟩, fun h0 => ⟨fun h1 => ⟨Or.inl rfl, ?_⟩, fun h1 => ⟨Or.inr rfl, ?_⟩⟩⟩
    · simpa [iNam, h0] using hq
    · simpa [iNam, h0, h1] using hq
    · simpa [iNam, h0, h1] using hq
  · cases h
theorem prk_dof (Y : List kd) (as : List sv) (σ : sS) (r : Option sv) (σ' : sS) (h : pr_dof as σ = some (r, σ')) (hw0 : wtS Y as) (d : Nat) (Q : Option sv → sS → Prop) (hq : Q r σ') : CJ Y d y_GF_digitOf as σ Q := by
  unfold pr_dof at h
  split at h
  · rename_i v
    have e : some (Sum.inl ((v - 97) + 1)) = r ∧ σ = σ' := by simpa using h
    obtain ⟨rfl, rfl⟩ := e
    exact s_GF_digitOf_0 Y d v σ Q hq
  · cases h
theorem c_GF_copy (Y : List kd) (d a0 a1 n : Nat) (hn : n < 2 ^ 31) (σ : sS) (k : sS → Prop) (hk : k (cp σ a0 a1 n)) : CJ Y (d + 1) y_GF_copy [sR a0 (.inr n), sR a1 (.inr n)] σ (rN k) := by
  refine s_GF_copy_0 Y d a0 n a1 n σ (rN k) ?_
  have e : (if nI n < nI n then nI n else nI n) = nI n := by split <;> rfl
  have z : Int32.toNatClampNeg 0 = 0 := rfl
  rw [e, nI_clamp hn, z]
  exact ⟨⟨by decide, by decide, nI_pos hn, by omega, by omega⟩, hk⟩
theorem c_GF_close (Y : List kd) (d a n : Nat) (hn : n < 2 ^ 31) (f e g : Int32) (σ : sS) (k : sS → Prop) (hk : k (cl σ a n f e g)) : CJ Y (d + 1) y_GF_close [sR a (.inr n), sI f, sI e, sI g] σ (rN k) := by
  unfold cl at hk
  refine s_GF_close_0 Y d a n f e g σ (rN k) ⟨fun h0 => ?_, fun h0 => ⟨fun h1 => ?_, fun h1 => ⟨fun h2 => ?_, fun h2 => ⟨fun h3 => ?_, fun h3 => ⟨?_, ?_⟩⟩⟩⟩⟩
  · rw [if_pos h0] at hk; exact hk
  · rw [if_neg h0, if_pos h1] at hk; exact hk
  · rw [if_neg h0, if_neg h1, if_pos h2] at hk; exact hk
  · rw [if_neg h0, if_neg h1, if_neg h2, if_pos h3] at hk; exact hk
  · rw [Int32.lt_iff_toInt_lt, Int32.toInt_zero] at h0
    rw [Int32.lt_iff_toInt_lt] at h1 h2 h3
    rw [nI_toInt hn] at h3
    have a1 : (f - g).toInt = f.toInt - g.toInt := by
      rw [Int32.toInt_sub]
      have := f.toInt_lt; have := g.toInt_lt; have := f.le_toInt; have := g.le_toInt
      exact Int.bmod_eq_of_le (by omega) (by omega)
    have a2 : (e - f).toInt = e.toInt - f.toInt := by
      rw [Int32.toInt_sub]
      have := f.toInt_lt; have := e.toInt_lt; have := f.le_toInt; have := e.le_toInt
      exact Int.bmod_eq_of_le (by omega) (by omega)
    simp only [Int32.lt_iff_toInt_lt, Int32.toInt_zero, i32_clamp, a1, a2]
    omega
  · rw [if_neg h0, if_neg h1, if_neg h2, if_neg h3] at hk; exact hk
