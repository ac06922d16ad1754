/-! what is lost -/
theorem num_span {u : VT} (w : WFV u) {p : Nat} (hp : p < u.1) (h0 : u.2 0 p = 0) : u.2 2 p = 0 ∧ u.2 4 p = 1 := by
  have k := (w.2.2.2.2.2.2.2 p hp).2.2.2.1 (by omega)
  have t := (w.2.2.1 p hp).2.1
  rw [k] at t
  have : ch (u.2 4) p 0 = p + 1 := rfl
  exact ⟨k, by omega⟩
theorem fill_num {u : VT} (w : WFV u) {p : Nat} (hp : p < u.1) (h0 : u.2 0 p = 0) : (fillV u p 1 0).1 = u.1 ∧ (∀ y, (fillV u p 1 0).2 0 y = if y = p then 1 else u.2 0 y) ∧ (∀ y, (fillV u p 1 0).2 1 y = if y = p then 0 else u.2 1 y) ∧ (∀ y, (fillV u p 1 0).2 2 y = u.2 2 y) ∧ (fillV u p 1 0).2 4 = u.2 4 ∧ ∀ y, (fillV u p 1 0).2 3 y = u.2 3 y := by
  obtain ⟨e2, e4⟩ := num_span w hp h0
  have em : ∀ y, mp p (1 - 1) y = y := fun y => by
    unfold mp
    split <;> omega
  refine ⟨?_, fun y => ?_, fun y => ?_, fun y => ?_, funext fun y => ?_, fun y => ?_⟩
  · show u.1 - (u.2 4 p - 1) = u.1
    rw [e4]
    rfl
  · show (if y = p then 1 else u.2 0 (mp p (u.2 4 p - 1) y)) = _
    rw [e4, em]
  · show (if y = p then 0 else u.2 1 (mp p (u.2 4 p - 1) y)) = _
    rw [e4, em]
  · show fK (u.2 2) (u.2 4) p y = _
    unfold fK
    simp only [e4, em]
    split
    · next z => rw [z, e2]
    · rfl
  · show fS (u.2 4) p y = _
    unfold fS
    simp only [e4, em]
    split <;> rfl
  · show u.2 3 (mp p (u.2 4 p - 1) y) = _
    rw [e4, em]
def losU (v : VT) (j : Nat) : Nat → VT
  | 0 => v
  | i + 1 => if v.2 0 i = 0 ∧ j.testBit (cntN v i) = true then fillV (losU v j i) i 1 0 else losU v j i
theorem los_ok {v : VT} (w : WFV v) (j : Nat) : ∀ i, i ≤ v.1 → WFV (losU v j i) ∧ (losU v j i).1 = v.1 ∧ ∀ y, i ≤ y → (losU v j i).2 0 y = v.2 0 y
  | 0, _ => ⟨w, rfl, fun _ _ => rfl⟩
  | i + 1, hi => by
    obtain ⟨a1, a2, a3⟩ := los_ok w j i (by omega)
    have e : losU v j (i + 1) = if v.2 0 i = 0 ∧ j.testBit (cntN v i) = true then fillV (losU v j i) i 1 0 else losU v j i := rfl
    rw [e]
    split
    · next z =>
      have hp : i < (losU v j i).1 := by omega
      have h0 : (losU v j i).2 0 i = 0 := by rw [a3 i (Nat.le_refl _)]; exact z.1
      obtain ⟨b1, b2, -⟩ := fill_num a1 hp h0
      exact ⟨a1.fill hp (by omega) (fun z => absurd z (by decide)) (fun _ => rfl), b1.trans a2, fun y hy => by rw [b2, if_neg (by omega)]; exact a3 y (by omega)⟩
    · exact ⟨a1, a2, fun y hy => a3 y (by omega)⟩
theorem cntN_mono (v : VT) (i : Nat) : ∀ r, cntN v i ≤ cntN v (i + r)
  | 0 => Nat.le_refl _
  | r + 1 => Nat.le_trans (cntN_mono v i r) (Nat.le_add_right _ _)
theorem bit_off {j many a : Nat} (hj : j < 2 ^ many) (h : many ≤ a) : j.testBit a = false := Nat.testBit_lt_two_pow (Nat.lt_of_lt_of_le hj (Nat.pow_le_pow_right (by omega) h))
theorem los_stop {v : VT} {j many i : Nat} (hj : j < 2 ^ many) (h : many ≤ cntN v i) : ∀ r, losU v j (i + r) = losU v j i
  | 0 => rfl
  | r + 1 => by
    have e : losU v j (i + r + 1) = if v.2 0 (i + r) = 0 ∧ j.testBit (cntN v (i + r)) = true then fillV (losU v j (i + r)) (i + r) 1 0 else losU v j (i + r) := rfl
    have hb := bit_off hj (Nat.le_trans h (cntN_mono v i r))
    show losU v j (i + r + 1) = _
    rw [e, if_neg (fun z => by rw [hb] at z; cases z.2), los_stop hj h r]
theorem bit_x : ∀ j, j < 64 → ∀ a, a < 6 → decide (((nI j >>> (nI a &&& 31)) &&& 1) = 1) = j.testBit a := by decide +kernel
theorem bit_xi {j a : Nat} (hj : j < 64) (ha : a < 6) : ((nI j >>> (nI a &&& 31)) &&& 1) = 1 ↔ j.testBit a = true := by
  rw [← bit_x j hj a ha]
  exact decide_eq_true_iff.symm
theorem bit_m {j a : Nat} (hj : j < 64) (ha : a < 6) : iHas (nI j) (nI a) = if j.testBit a = true then 1 else 0 := by
  unfold iHas
  by_cases z : ((nI j >>> (nI a &&& 31)) &&& 1) = 1
  · rw [if_pos z, if_pos ((bit_xi hj ha).mp z)]
  · rw [if_neg z, if_neg (fun y => z ((bit_xi hj ha).mpr y))]
def pcN (j : Nat) : Nat → Nat
  | 0 => 0
  | i + 1 => pcN j i + (if j.testBit i = true then 1 else 0)
theorem pcN_le (j : Nat) : ∀ i, pcN j i ≤ i
  | 0 => Nat.le_refl _
  | i + 1 => by
    have := pcN_le j i
    show pcN j i + (if j.testBit i = true then 1 else 0) ≤ i + 1
    split <;> omega
theorem pcN_off {j many : Nat} (hj : j < 2 ^ many) : ∀ r, pcN j (many + r) = pcN j many
  | 0 => rfl
  | r + 1 => by
    show pcN j (many + r) + (if j.testBit (many + r) = true then 1 else 0) = _
    rw [bit_off hj (by omega), if_neg (by decide), Nat.add_zero, pcN_off hj r]
theorem pw64 {many : Nat} (h : many ≤ 6) : 2 ^ many ≤ 64 := Nat.pow_le_pow_right (n := 2) (by omega) h
theorem sh_x : ∀ a, a < 7 → (1 : Int32) <<< (nI a &&& 31) = nI (2 ^ a) := by decide +kernel
theorem X_power (d b e : Nat) (hb : b < 2 ^ 31) (he : e < 2 ^ 31) (σ : sS) (k : Int64 → sS → Prop) (hk : k (lN (b ^ e)) σ) : CJ LX d y_GF_power [sI (nI b), sI (nI e)] σ (rJ k) := by
  refine s_GF_power_0 LX d _ _ σ (rJ k) ?_
  have key : ∀ r i, i + r = e → Jd LX d y_GF_power 5 [(0, sI (nI b)), (1, sI (nI e)), (2, sJ (lN (b ^ i))), (4, sI (nI i))] [] σ (rJ k) := by
    intro r
    induction r with
    | zero =>
      intro i hi
      have ei : i = e := by omega
      rw [ei]
      refine s_GF_power_5 LX d _ _ _ _ σ (rJ k) ⟨fun _ => hk, fun z => ?_⟩
      rw [i32_lt (by omega) (by omega)] at z; omega
    | succ r ih =>
      intro i hi
      refine s_GF_power_5 LX d _ _ _ _ σ (rJ k) ⟨fun z => ?_, fun _ => ?_⟩
      · rw [i32_lt (by omega) (by omega)] at z; omega
      · rw [nI_l hb, lN_mul, nI_s1]
        exact ih (i + 1) (by omega)
  exact key e 0 (by omega)
def bcF (v0 : Int32) : Int32 := ((((((((v0 - ((Int32.toUInt32 v0 >>> (Int32.toUInt32 1 &&& Int32.toUInt32 31)).toInt32 &&& 1431655765)) &&& 858993459) + ((Int32.toUInt32 (v0 - ((Int32.toUInt32 v0 >>> (Int32.toUInt32 1 &&& Int32.toUInt32 31)).toInt32 &&& 1431655765)) >>> (Int32.toUInt32 2 &&& Int32.toUInt32 31)).toInt32 &&& 858993459)) + (Int32.toUInt32 (((v0 - ((Int32.toUInt32 v0 >>> (Int32.toUInt32 1 &&& Int32.toUInt32 31)).toInt32 &&& 1431655765)) &&& 858993459) + ((Int32.toUInt32 (v0 - ((Int32.toUInt32 v0 >>> (Int32.toUInt32 1 &&& Int32.toUInt32 31)).toInt32 &&& 1431655765)) >>> (Int32.toUInt32 2 &&& Int32.toUInt32 31)).toInt32 &&& 858993459)) >>> (Int32.toUInt32 4 &&& Int32.toUInt32 31)).toInt32) &&& 252645135) + (Int32.toUInt32 (((((v0 - ((Int32.toUInt32 v0 >>> (Int32.toUInt32 1 &&& Int32.toUInt32 31)).toInt32 &&& 1431655765)) &&& 858993459) + ((Int32.toUInt32 (v0 - ((Int32.toUInt32 v0 >>> (Int32.toUInt32 1 &&& Int32.toUInt32 31)).toInt32 &&& 1431655765)) >>> (Int32.toUInt32 2 &&& Int32.toUInt32 31)).toInt32 &&& 858993459)) + (Int32.toUInt32 (((v0 - ((Int32.toUInt32 v0 >>> (Int32.toUInt32 1 &&& Int32.toUInt32 31)).toInt32 &&& 1431655765)) &&& 858993459) + ((Int32.toUInt32 (v0 - ((Int32.toUInt32 v0 >>> (Int32.toUInt32 1 &&& Int32.toUInt32 31)).toInt32 &&& 1431655765)) >>> (Int32.toUInt32 2 &&& Int32.toUInt32 31)).toInt32 &&& 858993459)) >>> (Int32.toUInt32 4 &&& Int32.toUInt32 31)).toInt32) &&& 252645135) >>> (Int32.toUInt32 8 &&& Int32.toUInt32 31)).toInt32) + (Int32.toUInt32 ((((((v0 - ((Int32.toUInt32 v0 >>> (Int32.toUInt32 1 &&& Int32.toUInt32 31)).toInt32 &&& 1431655765)) &&& 858993459) + ((Int32.toUInt32 (v0 - ((Int32.toUInt32 v0 >>> (Int32.toUInt32 1 &&& Int32.toUInt32 31)).toInt32 &&& 1431655765)) >>> (Int32.toUInt32 2 &&& Int32.toUInt32 31)).toInt32 &&& 858993459)) + (Int32.toUInt32 (((v0 - ((Int32.toUInt32 v0 >>> (Int32.toUInt32 1 &&& Int32.toUInt32 31)).toInt32 &&& 1431655765)) &&& 858993459) + ((Int32.toUInt32 (v0 - ((Int32.toUInt32 v0 >>> (Int32.toUInt32 1 &&& Int32.toUInt32 31)).toInt32 &&& 1431655765)) >>> (Int32.toUInt32 2 &&& Int32.toUInt32 31)).toInt32 &&& 858993459)) >>> (Int32.toUInt32 4 &&& Int32.toUInt32 31)).toInt32) &&& 252645135) + (Int32.toUInt32 (((((v0 - ((Int32.toUInt32 v0 >>> (Int32.toUInt32 1 &&& Int32.toUInt32 31)).toInt32 &&& 1431655765)) &&& 858993459) + ((Int32.toUInt32 (v0 - ((Int32.toUInt32 v0 >>> (Int32.toUInt32 1 &&& Int32.toUInt32 31)).toInt32 &&& 1431655765)) >>> (Int32.toUInt32 2 &&& Int32.toUInt32 31)).toInt32 &&& 858993459)) + (Int32.toUInt32 (((v0 - ((Int32.toUInt32 v0 >>> (Int32.toUInt32 1 &&& Int32.toUInt32 31)).toInt32 &&& 1431655765)) &&& 858993459) + ((Int32.toUInt32 (v0 - ((Int32.toUInt32 v0 >>> (Int32.toUInt32 1 &&& Int32.toUInt32 31)).toInt32 &&& 1431655765)) >>> (Int32.toUInt32 2 &&& Int32.toUInt32 31)).toInt32 &&& 858993459)) >>> (Int32.toUInt32 4 &&& Int32.toUInt32 31)).toInt32) &&& 252645135) >>> (Int32.toUInt32 8 &&& Int32.toUInt32 31)).toInt32) >>> (Int32.toUInt32 16 &&& Int32.toUInt32 31)).toInt32) &&& 63)
theorem bcF_eq : ∀ j, j < 64 → bcF (nI j) = nI (pcN j 6) := by decide +kernel
theorem X_bits (d : Nat) {j : Nat} (hj : j < 64) (σ : sS) (k : Int32 → sS → Prop) (hk : k (nI (pcN j 6)) σ) : CJ LX d y_JI_bitCount [sI (nI j)] σ (rI k) := by
  refine s_JI_bitCount_0 LX d _ σ (rI k) ?_
  rw [← bcF_eq j hj] at hk
  exact hk
