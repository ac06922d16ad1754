/-! what is lost, second half -/
theorem X_losing (d : Nat) {σ : sS} {v : VT} {c : CT} {n : Nat} {L : Nat → Nat} {m : Nat} {T : Nat → Nat} {rf : Nat → Int32} {im : Option (VT × CT)} (w : WFV v) (hx : AX σ v c n L m T rf im) {j many : Nat} (h6 : many ≤ 6) (hj : j < 2 ^ many) (k : sS → Prop) (hk : ∀ σ', XV σ' 8 (losU v j v.1) → AX σ' v c n L m T rf im → k σ') : CJ LX (d + 4) y_GF_tryLosing [sR 0 (.inl 5), sI (nI j), sI (nI many)] σ (rN k) := by
  have h20 := w.2.1
  have hj64 : j < 64 := Nat.lt_of_lt_of_le hj (pw64 h6)
  refine s_GF_tryLosing_0 LX (d + 3) 0 _ _ σ (rN k) (X_take (d + 1) w hx _ (fun σ1 a1 a2 _ => ?_))
  have key : ∀ r i τ, i + r = v.1 → XV τ 8 (losU v j i) → AX τ v c n L m T rf im → Jd LX (d + 4) y_GF_tryLosing 16 [(0, sR 0 (.inl 5)), (1, sI (nI j)), (2, sI (nI many)), (3, sI (nI (cntN v i))), (4, sI (nI i))] [] τ (rN k) := by
    intro r
    induction r with
    | zero =>
      intro i τ hi h8 hxx
      have ei : i = v.1 := by omega
      rw [ei] at h8
      refine s_GF_tryLosing_16 LX (d + 3) 0 _ _ _ _ τ (rN k) ⟨fun _ => hk _ h8 hxx, fun z => ?_⟩
      rw [show τ (0 + 1) 6 = nI v.1 from hxx.1.1, i32_lt (by omega) (by omega)] at z
      omega
    | succ r ih =>
      intro i τ hi h8 hxx
      have hp : i < v.1 := by omega
      have hc := cntN_le v i
      obtain ⟨o1, o2, o3⟩ := los_ok w j i (by omega)
      have e : losU v j (i + 1) = if v.2 0 i = 0 ∧ j.testBit (cntN v i) = true then fillV (losU v j i) i 1 0 else losU v j i := rfl
      have ec : cntN v (i + 1) = cntN v i + (if v.2 0 i = 0 then 1 else 0) := rfl
      have nx := fun τ => ih (i + 1) τ (by omega)
      rw [ec, e] at nx
      refine s_GF_tryLosing_16 LX (d + 3) 0 _ _ _ _ τ (rN k) ⟨fun z => ?_, fun _ => ⟨fun z => ?_, fun z => ?_⟩⟩
      · rw [show τ (0 + 1) 6 = nI v.1 from hxx.1.1, i32_lt (by omega) (by omega)] at z
        omega
      · rw [i32_lt (by omega) (by omega)] at z
        have := los_stop hj (show many ≤ cntN v i by omega) (r + 1)
        rw [show i + (r + 1) = v.1 from hi] at this
        rw [← this] at h8
        exact hk _ h8 hxx
      · rw [i32_lt (by omega) (by omega)] at z
        rw [hxx.1.rd h20 (f := 0) (by omega) hp (a := 0 + 2) rfl, z_eq (by have := kd4 w hp; omega) 0 (by omega)]
        refine ⟨fun q => ?_, fun q => ⟨fun y => ?_, fun y => ?_⟩⟩
        · refine s_GF_tryLosing_71 LX (d + 3) 0 _ _ _ _ τ (rN k) ?_
          rw [if_neg (fun y => q y.1), if_neg q] at nx
          rw [nI_s1]
          exact nx τ h8 hxx
        · rw [bit_xi hj64 (by omega)] at y
          refine s_GF_tryLosing_68 LX (d + 3) 0 _ _ _ _ τ (rN k) ?_
          refine s_GF_tryLosing_71 LX (d + 3) 0 _ _ _ _ τ (rN k) ?_
          rw [if_neg (fun u => y u.2), if_pos q] at nx
          rw [nI_s1, nI_s1]
          exact nx τ h8 hxx
        · rw [bit_xi hj64 (by omega)] at y
          refine X_fill d hxx o1 h8 (by omega) (kd := 1) (by omega) (x := 0) (by omega) _ (fun τ2 g1 g2 _ => ?_)
          refine s_GF_tryLosing_68 LX (d + 3) 0 _ _ _ _ τ2 (rN k) ?_
          refine s_GF_tryLosing_71 LX (d + 3) 0 _ _ _ _ τ2 (rN k) ?_
          rw [if_pos ⟨q, y⟩, if_pos q] at nx
          rw [nI_s1, nI_s1]
          exact nx τ2 g1 g2
  exact key v.1 0 σ1 (by omega) a1 a2
theorem MB.lose {τ : sS} {u : VT} (w : WFV u) (h : MB τ u) {i : Nat} (hp : i < u.1) (h0 : u.2 0 i = 0) : MB (up (up τ 2 i 1) 3 i 0) (fillV u i 1 0) := by
  obtain ⟨b1, b2, b3, b4, b5, b6⟩ := fill_num w hp h0
  obtain ⟨e2, e4⟩ := num_span w hp h0
  refine ⟨?_, fun p hq => ?_, fun p k hq hk2 hkk => ?_⟩
  · rw [up_cell _ _ (by omega), up_cell _ _ (by omega), b1]
    exact h.1
  · rw [b1] at hq
    rw [b2, b3, b4]
    by_cases z : p = i
    · subst z
      rw [if_pos rfl, if_neg (by decide), e2, up_cell _ _ (by omega), up_self, up_self]
      exact ⟨rfl, rfl⟩
    · rw [if_neg z, if_neg z, up_cell _ _ (by omega), up_other _ _ (Or.inr z), up_other _ _ (Or.inr z), up_cell _ _ (by omega)]
      exact h.2.1 p hq
  · rw [b1] at hq
    rw [b2] at hk2
    rw [b4] at hkk
    have z : p ≠ i := fun z => by rw [if_pos z] at hk2; cases hk2
    rw [if_neg z] at hk2
    have ek : kch (fillV u i 1 0) p k = kch u p k := by
      unfold kch
      rw [b5]
    rw [ek, b6, up_cell _ _ (by omega), up_cell _ _ (by omega)]
    exact h.2.2 p k hq hk2 hkk
theorem M_losing (d : Nat) {σ : sS} {v : VT} (w : WFV v) (hm : MV σ v) {j : Nat} (hj64 : j < 64) (k : sS → Prop) (hk : ∀ σ', MV σ' (losU v j v.1) → mK σ σ' → k σ') : CJ LM (d + 3) y_MO_losesSome [sR 0 (.inl 6), sI (nI j)] σ (rN k) := by
  have h20 := w.2.1
  refine s_MO_losesSome_0 LM (d + 2) 0 _ σ (rN k) ?_
  have key : ∀ r i τ, i + r = v.1 → MB τ (losU v j i) → mK σ τ → Jd LM (d + 3) y_MO_losesSome 4 [(0, sR 0 (.inl 6)), (1, sI (nI j)), (2, sI (nI (cntN v i))), (3, sI (nI i))] [] τ (rN k) := by
    intro r
    induction r with
    | zero =>
      intro i τ hi h8 hg
      have ei : i = v.1 := by omega
      rw [ei] at h8
      obtain ⟨o1, o2, o3⟩ := los_ok w j v.1 (Nat.le_refl _)
      refine s_MO_losesSome_4 LM (d + 2) 0 _ _ _ τ (rN k) ⟨fun _ => c_MO_measures LM d o1 h8 _ (fun σ' g1 g2 => hk σ' g1 ⟨fun x a b => ?_, fun x a => ?_⟩), fun z => ?_⟩
      · rw [g2 x (by omega) (by omega)]; exact hg.1 x a b
      · rw [g2 0 (by omega) (by omega)]; exact hg.2 x a
      · rw [show τ 0 6 = _ from h8.1, o2, i32_lt (by omega) (by omega)] at z
        omega
    | succ r ih =>
      intro i τ hi h8 hg
      have hp : i < v.1 := by omega
      have hc := cntN_le v i
      obtain ⟨o1, o2, o3⟩ := los_ok w j i (by omega)
      have e : losU v j (i + 1) = if v.2 0 i = 0 ∧ j.testBit (cntN v i) = true then fillV (losU v j i) i 1 0 else losU v j i := rfl
      have ec : cntN v (i + 1) = cntN v i + (if v.2 0 i = 0 then 1 else 0) := rfl
      have nx := fun τ => ih (i + 1) τ (by omega)
      rw [ec, e] at nx
      have v1 : vp_in (nI i) 21 := vinI (by omega) (by omega)
      refine s_MO_losesSome_4 LM (d + 2) 0 _ _ _ τ (rN k) ⟨fun z => ?_, fun _ => ⟨v1, ?_⟩⟩
      · rw [show τ 0 6 = _ from h8.1, o2, i32_lt (by omega) (by omega)] at z
        omega
      · rw [cl_nI (by omega), show τ (0 + 2) i = _ from (h8.2.1 i (by omega)).1, o3 i (Nat.le_refl _), z_eq (by have := kd4 w hp; omega) 0 (by omega)]
        refine ⟨fun q => ⟨fun y => ?_, fun y => ⟨fun u => ?_, fun u => ⟨v1, v1, ?_⟩⟩⟩, fun q => ?_⟩
        · rw [lit 6, i32_lt (by omega) (by omega)] at y
          have hb : j.testBit (cntN v i) = false := bit_off (many := 6) (by omega) (by omega)
          refine s_MO_losesSome_52 LM (d + 2) 0 _ _ _ τ (rN k) ?_
          refine s_MO_losesSome_55 LM (d + 2) 0 _ _ _ τ (rN k) ?_
          rw [if_neg (fun u => by rw [hb] at u; cases u.2), if_pos q] at nx
          rw [nI_s1, nI_s1]
          exact nx τ h8 hg
        · rw [lit 6, i32_lt (by omega) (by omega)] at y
          rw [bit_m hj64 (by omega)] at u
          have hb : ¬ j.testBit (cntN v i) = true := fun z => by rw [if_pos z] at u; exact absurd u (by decide)
          refine s_MO_losesSome_52 LM (d + 2) 0 _ _ _ τ (rN k) ?_
          refine s_MO_losesSome_55 LM (d + 2) 0 _ _ _ τ (rN k) ?_
          rw [if_neg (fun u => hb u.2), if_pos q] at nx
          rw [nI_s1, nI_s1]
          exact nx τ h8 hg
        · rw [lit 6, i32_lt (by omega) (by omega)] at y
          rw [bit_m hj64 (by omega)] at u
          have hb : j.testBit (cntN v i) = true := by
            by_cases z : j.testBit (cntN v i) = true
            · exact z
            · rw [if_neg z] at u; exact absurd rfl u
          refine s_MO_losesSome_52 LM (d + 2) 0 _ _ _ _ (rN k) ?_
          refine s_MO_losesSome_55 LM (d + 2) 0 _ _ _ _ (rN k) ?_
          rw [if_pos ⟨q, hb⟩, if_pos q] at nx
          rw [nI_s1, nI_s1]
          refine nx _ (h8.lose o1 (by omega) (by rw [o3 i (Nat.le_refl _)]; exact q)) ⟨fun x a b => ?_, fun x a => ?_⟩
          · rw [show (0 + 3 : Nat) = 3 from rfl, up_cell _ _ (by omega), up_cell _ _ (by omega)]; exact hg.1 x a b
          · rw [show (0 + 3 : Nat) = 3 from rfl, up_cell _ _ (by omega), up_cell _ _ (by omega)]; exact hg.2 x a
        · refine s_MO_losesSome_55 LM (d + 2) 0 _ _ _ τ (rN k) ?_
          rw [if_neg (fun y => q y.1), if_neg q] at nx
          rw [nI_s1]
          exact nx τ h8 hg
  exact key v.1 0 σ (by omega) hm.mb ⟨fun _ _ _ => rfl, fun _ _ => rfl⟩
