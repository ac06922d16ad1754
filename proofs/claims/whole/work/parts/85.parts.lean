/-! the row; parts -/
theorem st_row (a : Int32) : stI RelS y_GF_row y_MO_row [sI a] := by
  refine stI_mk (fun σx σm v c n L m T rf im ok hx hm => ?_)
  have wc := ok.wc
  obtain ⟨o1, o2, o3, o4, o5, o6, o7⟩ := id ok
  by_cases h0 : a < 0
  · refine ⟨-4, v, c, n, L, m, T, rfU rf 4, im, ok, fun k hk => ?_, fun k hk => ?_⟩
    · refine s_GF_row_0 LX 299 0 a σx (rI k) ⟨fun z => absurd h0 z, fun _ => ?_⟩
      exact X_refuse 298 hx (-4) 4 rfl (by omega) _ hk
    · refine s_MO_row_0 LM 299 0 a σm (rI k) ⟨fun _ => ?_, fun z => ?_⟩
      · rw [show iBd a 0 99 = -4 from iBd_neg (lo := 0) h0 (by omega)]
        exact s_MO_row_24 LM 299 0 _ _ σm (rI k) ⟨fun z => absurd z (by decide), fun _ => M_no 299 wc hm (-4) 4 rfl (by omega) _ hk⟩
      · rw [show iBd a 0 99 = -4 from iBd_neg (lo := 0) h0 (by omega)] at z
        exact absurd z (by decide)
  · obtain ⟨x, hxb, rfl⟩ := i32_nI h0
    have eb : iBd (nI x) 0 99 = if 99 < x then -6 else 0 := (iBd_nI (lo := 0) (hi := 99) hxb (by omega) (by omega)).trans (by rw [if_neg (by omega)])
    by_cases h99 : 99 < x
    · rw [if_pos h99] at eb
      refine ⟨-6, v, c, n, L, m, T, rfU rf 6, im, ok, fun k hk => ?_, fun k hk => ?_⟩
      · refine s_GF_row_0 LX 299 0 _ σx (rI k) ⟨fun _ => ⟨fun _ => ?_, fun z => ?_⟩, fun z => absurd z h0⟩
        · exact s_GF_row_26 LX 299 0 σx (rI k) (X_refuse 298 hx (-6) 6 rfl (by omega) _ hk)
        · rw [lit 99, i32_lt (by omega) hxb] at z
          exact absurd h99 z
      · refine s_MO_row_0 LM 299 0 _ σm (rI k) ⟨fun _ => ?_, fun z => ?_⟩
        · rw [eb]
          exact s_MO_row_24 LM 299 0 _ _ σm (rI k) ⟨fun z => absurd z (by decide), fun _ => M_no 299 wc hm (-6) 6 rfl (by omega) _ hk⟩
        · rw [eb] at z
          exact absurd z (by decide)
    · rw [if_neg h99] at eb
      by_cases h32 : m < 32
      · refine ⟨nI (m + 1), v, c, n, L, m + 1, fun i => if i = m then x else T i, rf, im, ⟨o1, o2, o3, o4, by omega, fun i hi => ?_, o7⟩, fun k hk => ?_, fun k hk => ?_⟩
        · show (if i = m then x else T i) ≤ 99
          by_cases z : i = m
          · rw [if_pos z]; omega
          · rw [if_neg z]; exact o6 i (by omega)
        · obtain ⟨h1, h2, h3, h4, h5, h6, h7, h8, h9⟩ := hx
          refine s_GF_row_0 LX 299 0 _ σx (rI k) ⟨fun _ => ⟨fun z => ?_, fun _ => ⟨fun _ => ?_, fun z => ?_⟩⟩, fun z => absurd z h0⟩
          · rw [lit 99, i32_lt (by omega) hxb] at z
            exact absurd z h99
          · rw [h5, wr_nI h32 (by omega), up_self, up_cell _ _ (show 0 ≠ 0 + 65 by omega), h5, nI_s1]
            have u : ∀ y, y ≠ 0 → y ≠ 65 → (up (up σx (0 + 65) m (nI x)) 0 8 (nI (m + 1))) y = σx y := fun y a b => by rw [up_cell _ _ a, up_cell _ _ b]
            have u0 : ∀ i, i ≠ 8 → (up (up σx (0 + 65) m (nI x)) 0 8 (nI (m + 1))) 0 i = σx 0 i := fun i hi => by rw [up_other _ _ (Or.inr hi), up_cell _ _ (by omega)]
            refine hk _ ⟨h1.kept (fun y a b => u y (by omega) (by omega)), h2.kept (fun y a b => u y (by omega) (by omega)), by rw [u0 6 (by omega)]; exact h3, fun i hi => by rw [u 64 (by omega) (by omega)]; exact h4 i hi, up_self _ _ _ _, fun i hi => ?_, fun i hi => by rw [u 66 (by omega) (by omega)]; exact h7 i hi, fun e => by rw [u0 12 (by omega)]; exact h8 e, fun v' c' e => ?_⟩
            · rw [up_cell _ _ (by omega)]
              show _ = nI (if i = m then x else T i)
              by_cases z : i = m
              · rw [if_pos z, z]; exact up_self _ _ _ _
              · rw [if_neg z, up_other _ _ (Or.inr z)]; exact h6 i (by omega)
            · obtain ⟨a1, a2, a3⟩ := h9 v' c' e
              exact ⟨by rw [u0 12 (by omega)]; exact a1, a2.kept (fun y a b => u y (by omega) (by omega)), a3.kept (fun y a b => u y (by omega) (by omega))⟩
          · rw [h5, lit 32, i32_lt (by omega) (by omega)] at z
            exact absurd h32 z
        · obtain ⟨h1, h2, h3, h4, h5, h6, h7, h8, h9⟩ := hm
          refine s_MO_row_0 LM 299 0 _ σm (rI k) ⟨fun z => absurd eb z, fun _ => ⟨fun _ => ?_, fun z => ?_⟩⟩
          · rw [eb]
            refine s_MO_row_24 LM 299 0 _ _ σm (rI k) ⟨fun _ => ?_, fun z => absurd rfl z⟩
            rw [h5]
            refine ⟨vinI (by omega) (by omega), ?_⟩
            rw [cl_nI (by omega), up_self, up_cell _ _ (show 0 ≠ 0 + 36 by omega), h5, nI_s1]
            have u : ∀ y, y ≠ 0 → y ≠ 36 → (up (up σm (0 + 36) m (nI x)) 0 52 (nI (m + 1))) y = σm y := fun y a b => by rw [up_cell _ _ a, up_cell _ _ b]
            have u0 : ∀ i, i ≠ 52 → (up (up σm (0 + 36) m (nI x)) 0 52 (nI (m + 1))) 0 i = σm 0 i := fun i hi => by rw [up_other _ _ (Or.inr hi), up_cell _ _ (by omega)]
            refine hk _ ⟨h1.kept (u0 6 (by omega)) (fun y a b => u y (by omega) (by omega)), h2.kept wc (fun i a b => u0 i (by omega)) (fun y a b => u y (by omega) (by omega)), by rw [u0 42 (by omega)]; exact h3, fun i hi => by rw [u 29 (by omega) (by omega)]; exact h4 i hi, up_self _ _ _ _, fun i hi => ?_, fun i hi => by rw [u 1 (by omega) (by omega)]; exact h7 i hi, fun e => by rw [u0 48 (by omega)]; exact h8 e, fun v' c' e => ?_⟩
            · rw [up_cell _ _ (by omega)]
              show _ = nI (if i = m then x else T i)
              by_cases z : i = m
              · rw [if_pos z, z]; exact up_self _ _ _ _
              · rw [if_neg z, up_other _ _ (Or.inr z)]; exact h6 i (by omega)
            · obtain ⟨a1, ⟨R, a2, a4⟩, R2, a3, a5⟩ := h9 v' c' e
              exact ⟨by rw [u0 48 (by omega)]; exact a1, ⟨R, a2.same (fun j _ hj => by rw [u 35 (by omega) (by omega)]), a4⟩, R2, a3.same (fun j _ hj => by rw [u 35 (by omega) (by omega)]), a5⟩
          · rw [h5, z_eq (by omega) 32 (by omega)] at z
            omega
      · refine ⟨-6, v, c, n, L, m, T, rfU rf 6, im, ok, fun k hk => ?_, fun k hk => ?_⟩
        · refine s_GF_row_0 LX 299 0 _ σx (rI k) ⟨fun _ => ⟨fun z => ?_, fun _ => ⟨fun z => ?_, fun _ => ?_⟩⟩, fun z => absurd z h0⟩
          · rw [lit 99, i32_lt (by omega) hxb] at z
            exact absurd z h99
          · rw [hx.2.2.2.2.1, lit 32, i32_lt (by omega) (by omega)] at z
            exact absurd z h32
          · exact s_GF_row_26 LX 299 0 σx (rI k) (X_refuse 298 hx (-6) 6 rfl (by omega) _ hk)
        · refine s_MO_row_0 LM 299 0 _ σm (rI k) ⟨fun z => absurd eb z, fun _ => ⟨fun z => ?_, fun _ => ?_⟩⟩
          · rw [hm.2.2.2.2.1, z_eq (by omega) 32 (by omega)] at z
            omega
          · exact s_MO_row_24 LM 299 0 _ _ σm (rI k) ⟨fun z => absurd z (by decide), fun _ => M_no 299 wc hm (-6) 6 rfl (by omega) _ hk⟩
/-- another value -/
theorem AX.val {σ σ' : sS} {v v2 : VT} {c : CT} {n : Nat} {L : Nat → Nat} {m : Nat} {T : Nat → Nat} {rf : Nat → Int32} {im : Option (VT × CT)} (h : AX σ v c n L m T rf im) (g1 : XV σ' 1 v2) (g2 : ∀ x, (x < 1 ∨ 1 + 7 ≤ x) → σ' x = σ x) : AX σ' v2 c n L m T rf im := by
  obtain ⟨h1, h2, h3, h4, h5, h6, h7, h8, h9⟩ := h
  refine ⟨g1, h2.kept (fun y a b => g2 y (by omega)), by rw [g2 0 (by omega)]; exact h3, fun i hi => by rw [g2 64 (by omega)]; exact h4 i hi, by rw [g2 0 (by omega)]; exact h5, fun i hi => by rw [g2 65 (by omega)]; exact h6 i hi, fun i hi => by rw [g2 66 (by omega)]; exact h7 i hi, fun e => by rw [g2 0 (by omega)]; exact h8 e, fun v' c' e => ?_⟩
  obtain ⟨a1, a2, a3⟩ := h9 v' c' e
  exact ⟨by rw [g2 0 (by omega)]; exact a1, a2.kept (fun y a b => g2 y (by omega)), a3.kept (fun y a b => g2 y (by omega))⟩
theorem AM.val {σ σ' : sS} {v v2 : VT} {c : CT} {n : Nat} {L : Nat → Nat} {m : Nat} {T : Nat → Nat} {rf : Nat → Int32} {im : Option (VT × CT)} (wc : WFC c) (h : AM σ v c n L m T rf im) (g1 : MV σ' v2) (g2 : mK σ σ') : AM σ' v2 c n L m T rf im := by
  obtain ⟨h1, h2, h3, h4, h5, h6, h7, h8, h9⟩ := h
  have g0 : ∀ i, i ≠ 6 → σ' 0 i = σ 0 i := g2.2
  have gx : ∀ x, x ≠ 0 → (x < 2 ∨ 6 < x) → σ' x = σ x := g2.1
  refine ⟨g1, h2.kept wc (fun i a b => g0 i (by omega)) (fun y a b => gx y (by omega) (by omega)), by rw [g0 42 (by omega)]; exact h3, fun i hi => by rw [gx 29 (by omega) (by omega)]; exact h4 i hi, by rw [g0 52 (by omega)]; exact h5, fun i hi => by rw [gx 36 (by omega) (by omega)]; exact h6 i hi, fun i hi => by rw [gx 1 (by omega) (by omega)]; exact h7 i hi, fun e => by rw [g0 48 (by omega)]; exact h8 e, fun v' c' e => ?_⟩
  obtain ⟨a1, ⟨R, a2, a4⟩, R2, a3, a5⟩ := h9 v' c' e
  exact ⟨by rw [g0 48 (by omega)]; exact a1, ⟨R, a2.same (fun j _ _ => by rw [gx 35 (by omega) (by omega)]), a4⟩, R2, a3.same (fun j _ _ => by rw [gx 35 (by omega) (by omega)]), a5⟩
theorem iIn01 (w : Int32) : (w = 0 ∨ w = 1 → iIn w 0 1 = 1) ∧ (¬ (w = 0 ∨ w = 1) → iIn w 0 1 = 0) := by
  by_cases h0 : w < 0
  · have e : iIn w 0 1 = 0 := iIn_neg (lo := 0) h0 (by omega)
    refine ⟨fun z => ?_, fun _ => e⟩
    rcases z with z | z <;> rw [z] at h0 <;> exact absurd h0 (by decide)
  · obtain ⟨x, hx, rfl⟩ := i32_nI h0
    have e : iIn (nI x) 0 1 = if 1 < x then 0 else 1 := (iIn_nI (lo := 0) (hi := 1) hx (by omega) (by omega)).trans (by rw [if_neg (by omega)])
    rw [e, z_eq hx 0 (by omega), z_eq hx 1 (by omega)]
    exact ⟨fun z => by rw [if_neg (by omega)], fun z => by rw [if_pos (by omega)]⟩
theorem findV_lt_or (v : VT) (a : Int32) : findV v a < v.1 ∨ ¬ findV v a < v.1 := Decidable.em _
theorem X_find {σ : sS} {v : VT} {c : CT} {n : Nat} {L : Nat → Nat} {m : Nat} {T : Nat → Nat} {rf : Nat → Int32} {im : Option (VT × CT)} (d : Nat) (w : WFV v) (h : AX σ v c n L m T rf im) (a : Int32) (k : Int32 → sS → Prop) (h1 : findV v a < v.1 → k (nI (findV v a)) σ) (h0 : ¬ findV v a < v.1 → k (-1) σ) : CJ LX (d + 1) y_TR_find [sR (0 + 1) (.inl 3), sI a] σ (rI k) := by
  refine c_TR_find LX d 1 w.2.1 h.1 a k ?_
  by_cases z : findV v a < v.1
  · rw [if_pos z]; exact h1 z
  · rw [if_neg z]; exact h0 z
theorem M_find {σ : sS} {v : VT} {c : CT} {n : Nat} {L : Nat → Nat} {m : Nat} {T : Nat → Nat} {rf : Nat → Int32} {im : Option (VT × CT)} (d : Nat) (w : WFV v) (h : AM σ v c n L m T rf im) (a : Int32) (k : Int32 → sS → Prop) (h1 : findV v a < v.1 → k (nI (findV v a)) σ) (h0 : ¬ findV v a < v.1 → k (-9) σ) : CJ LM d y_MO_partAt [sR 0 (.inl 6), sI a] σ (rI k) := by
  refine c_MO_partAt LM d w.2.1 h.1 a k ?_
  by_cases z : findV v a < v.1
  · rw [if_pos z]; exact h1 z
  · rw [if_neg z]; exact h0 z
theorem st_part (a b : Int32) : stI RelS y_GF_part y_MO_part [sI a, sI b] := by
  refine stI_mk (fun σx σm v c n L m T rf im ok hx hm => ?_)
  have wc := ok.wc
  have w := ok.wv
  have h20 := w.2.1
  by_cases hp0 : findV v a < v.1
  · obtain ⟨p, ep⟩ : ∃ p, findV v a = p := ⟨_, rfl⟩
    have hp := hp0
    rw [ep] at hp
    have hnp : ¬ nI p < 0 := nI_pos (by omega)
    have v21 : vp_in (nI p) 21 := vinI (by omega) (by omega)
    obtain ⟨r1, r2, r3, r4⟩ := hm.1.2.1 p hp
    obtain ⟨s1, s2, s3, s4, s5, s6, s7⟩ := w.2.2.2.2.2.2.2 p hp
    have x2 : rd σx (0 + 2) 20 (nI p) = nI (v.2 0 p) := hx.1.rd h20 (f := 0) (by omega) hp rfl
    have x3 : rd σx (0 + 3) 20 (nI p) = nI (v.2 1 p) := hx.1.rd h20 (f := 1) (by omega) hp rfl
    have x4 : rd σx (0 + 4) 20 (nI p) = nI (v.2 2 p) := hx.1.rd h20 (f := 2) (by omega) hp rfl
    have x6 : rd σx (0 + 6) 20 (nI p) = nI (v.2 4 p) := hx.1.rd h20 (f := 4) (by omega) hp rfl
    have y2 : σm (0 + 2) (Int32.toNatClampNeg (nI p)) = nI (v.2 0 p) := by rw [cl_nI (by omega)]; exact r1
    have y3 : σm (0 + 3) (Int32.toNatClampNeg (nI p)) = nI (if v.2 0 p = 0 then v.2 1 p else v.2 2 p) := by rw [cl_nI (by omega)]; exact r2
    have y5 : σm (0 + 5) (Int32.toNatClampNeg (nI p)) = nI (v.2 4 p) := by rw [cl_nI (by omega)]; exact r3
    by_cases b0 : b = 0
    · refine ⟨nI (v.2 0 p), v, c, n, L, m, T, rf, im, ok, fun k hk => ?_, fun k hk => ?_⟩
      · refine s_GF_part_0 LX 299 0 _ _ σx (rI k) (X_find 298 w hx a _ (fun _ => ?_) (fun z => absurd hp0 z))
        rw [ep, x2, x3, x4, x6, z_eq (show v.2 0 p < 2 ^ 31 by omega) 0 (by omega)]
        refine ⟨fun _ => ⟨fun _ => hk _ hx, fun z => absurd b0 z⟩, fun z => absurd z hnp⟩
      · refine s_MO_part_0 LM 299 0 _ _ σm (rI k) (M_find 299 w hm a _ (fun _ => ?_) (fun z => absurd hp0 z))
        rw [ep, y2, y3, y5, z_eq (show v.2 0 p < 2 ^ 31 by omega) 1 (by omega)]
        refine ⟨fun _ => ⟨fun _ => ⟨v21, hk _ hm⟩, fun z => absurd b0 z⟩, fun z => absurd z hnp⟩
    by_cases b1 : b = 1
    · refine ⟨nI (if v.2 0 p = 0 then v.2 1 p else v.2 2 p), v, c, n, L, m, T, rf, im, ok, fun k hk => ?_, fun k hk => ?_⟩
      · refine s_GF_part_0 LX 299 0 _ _ σx (rI k) (X_find 298 w hx a _ (fun _ => ?_) (fun z => absurd hp0 z))
        rw [ep, x2, x3, x4, x6, z_eq (show v.2 0 p < 2 ^ 31 by omega) 0 (by omega)]
        refine ⟨fun _ => ⟨fun z => absurd z b0, fun _ => ⟨fun _ => ⟨fun z => by rw [if_neg z] at hk; exact hk _ hx, fun z => by rw [if_pos z] at hk; exact hk _ hx⟩, fun z => absurd b1 z⟩⟩, fun z => absurd z hnp⟩
      · refine s_MO_part_0 LM 299 0 _ _ σm (rI k) (M_find 299 w hm a _ (fun _ => ?_) (fun z => absurd hp0 z))
        rw [ep, y2, y3, y5, z_eq (show v.2 0 p < 2 ^ 31 by omega) 1 (by omega)]
        refine ⟨fun _ => ⟨fun z => absurd z b0, fun _ => ⟨fun _ => ⟨v21, fun z => ⟨v21, hk _ hm⟩, fun z => by rw [if_neg (by omega), s4 (by omega)] at hk; exact hk _ hm⟩, fun z => absurd b1 z⟩⟩, fun z => absurd z hnp⟩
    by_cases b2 : b = 2
    · refine ⟨nI (v.2 4 p), v, c, n, L, m, T, rf, im, ok, fun k hk => ?_, fun k hk => ?_⟩
      · refine s_GF_part_0 LX 299 0 _ _ σx (rI k) (X_find 298 w hx a _ (fun _ => ?_) (fun z => absurd hp0 z))
        rw [ep, x2, x3, x4, x6, z_eq (show v.2 0 p < 2 ^ 31 by omega) 0 (by omega)]
        refine ⟨fun _ => ⟨fun z => absurd z b0, fun _ => ⟨fun z => absurd z b1, fun _ => ⟨fun _ => hk _ hx, fun z => absurd b2 z⟩⟩⟩, fun z => absurd z hnp⟩
      · refine s_MO_part_0 LM 299 0 _ _ σm (rI k) (M_find 299 w hm a _ (fun _ => ?_) (fun z => absurd hp0 z))
        rw [ep, y2, y3, y5, z_eq (show v.2 0 p < 2 ^ 31 by omega) 1 (by omega)]
        refine ⟨fun _ => ⟨fun z => absurd z b0, fun _ => ⟨fun z => absurd z b1, fun _ => ⟨fun _ => ⟨v21, hk _ hm⟩, fun z => absurd b2 z⟩⟩⟩, fun z => absurd z hnp⟩
    by_cases b3 : b = 3
    · refine ⟨nI p, v, c, n, L, m, T, rf, im, ok, fun k hk => ?_, fun k hk => ?_⟩
      · refine s_GF_part_0 LX 299 0 _ _ σx (rI k) (X_find 298 w hx a _ (fun _ => ?_) (fun z => absurd hp0 z))
        rw [ep, x2, x3, x4, x6, z_eq (show v.2 0 p < 2 ^ 31 by omega) 0 (by omega)]
        refine ⟨fun _ => ⟨fun z => absurd z b0, fun _ => ⟨fun z => absurd z b1, fun _ => ⟨fun z => absurd z b2, fun _ => ⟨fun _ => hk _ hx, fun z => absurd b3 z⟩⟩⟩⟩, fun z => absurd z hnp⟩
      · refine s_MO_part_0 LM 299 0 _ _ σm (rI k) (M_find 299 w hm a _ (fun _ => ?_) (fun z => absurd hp0 z))
        rw [ep, y2, y3, y5, z_eq (show v.2 0 p < 2 ^ 31 by omega) 1 (by omega)]
        refine ⟨fun _ => ⟨fun z => absurd z b0, fun _ => ⟨fun z => absurd z b1, fun _ => ⟨fun z => absurd z b2, fun _ => ⟨fun _ => hk _ hm, fun z => absurd b3 z⟩⟩⟩⟩, fun z => absurd z hnp⟩
    
    refine ⟨-2, v, c, n, L, m, T, rfU rf 2, im, ok, fun k hk => ?_, fun k hk => ?_⟩
    · refine s_GF_part_0 LX 299 0 _ _ σx (rI k) (X_find 298 w hx a _ (fun _ => ?_) (fun z => absurd hp0 z))
      rw [ep, x2, x3, x4, x6, z_eq (show v.2 0 p < 2 ^ 31 by omega) 0 (by omega)]
      refine ⟨fun _ => ⟨fun z => absurd z b0, fun _ => ⟨fun z => absurd z b1, fun _ => ⟨fun z => absurd z b2, fun _ => ⟨fun z => absurd z b3, fun _ => X_refuse 298 hx (-2) 2 rfl (by omega) _ hk⟩⟩⟩⟩, fun z => absurd z hnp⟩
    · refine s_MO_part_0 LM 299 0 _ _ σm (rI k) (M_find 299 w hm a _ (fun _ => ?_) (fun z => absurd hp0 z))
      rw [ep, y2, y3, y5, z_eq (show v.2 0 p < 2 ^ 31 by omega) 1 (by omega)]
      refine ⟨fun _ => ⟨fun z => absurd z b0, fun _ => ⟨fun z => absurd z b1, fun _ => ⟨fun z => absurd z b2, fun _ => ⟨fun z => absurd z b3, fun _ => M_no 299 wc hm (-2) 2 rfl (by omega) _ hk⟩⟩⟩⟩, fun z => absurd z hnp⟩
  · refine ⟨-1, v, c, n, L, m, T, rfU rf 1, im, ok, fun k hk => ?_, fun k hk => ?_⟩
    · refine s_GF_part_0 LX 299 0 _ _ σx (rI k) ?_
      exact X_find 298 w hx a _ (fun z => absurd z hp0) (fun _ => ⟨fun z => absurd (by decide) z, fun _ => X_refuse 298 hx (-1) 1 rfl (by omega) _ hk⟩)
    · refine s_MO_part_0 LM 299 0 _ _ σm (rI k) ?_
      exact M_find 299 w hm a _ (fun z => absurd z hp0) (fun _ => ⟨fun z => absurd (by decide) z, fun _ => M_no 299 wc hm (-1) 1 rfl (by omega) _ hk⟩)
theorem st_path (a : Int32) : stI RelS y_GF_path y_MO_path [sI a] := by
  refine stI_mk (fun σx σm v c n L m T rf im ok hx hm => ?_)
  have wc := ok.wc
  have w := ok.wv
  have h1 := w.1
  have h20 := w.2.1
  have xs : σx (0 + 1) 6 = nI v.1 := hx.1.1
  have ms : σm 0 6 = nI v.1 := hm.1.1
  have e1 : nI v.1 - 1 = nI (v.1 - 1) := nI_subm (a := v.1) (b := 1) h1
  have no : (a < 0 ∨ ¬ a < nI v.1) → iIn a 0 (nI (v.1 - 1)) = 0 → OUT y_GF_path y_MO_path [sI a] σx σm := by
    intro z e
    refine ⟨-1, v, c, n, L, m, T, rfU rf 1, im, ok, fun k hk => ?_, fun k hk => ?_⟩
    · have go : Jd LX 300 y_GF_path 15 [(0, sR 0 (.inl 5))] [] σx (rI k) := s_GF_path_15 LX 299 0 σx (rI k) (X_refuse 298 hx (-1) 1 rfl (by omega) _ hk)
      refine s_GF_path_0 LX 299 0 _ σx (rI k) ⟨fun _ => go, fun y => ⟨fun u => ?_, fun _ => go⟩⟩
      rw [xs] at u
      rcases z with z | z
      · exact absurd z y
      · exact absurd u z
    · refine s_MO_path_0 LM 299 0 _ σm (rI k) ?_
      rw [ms, e1, e]
      exact ⟨fun _ => M_no 299 wc hm (-1) 1 rfl (by omega) _ hk, fun y => absurd rfl y⟩
  by_cases h0 : a < 0
  · exact no (Or.inl h0) (iIn_neg (lo := 0) h0 (by omega))
  · obtain ⟨x, hxb, rfl⟩ := i32_nI h0
    have e : iIn (nI x) 0 (nI (v.1 - 1)) = if v.1 - 1 < x then 0 else 1 := (iIn_nI (lo := 0) (hi := v.1 - 1) hxb (by omega) (by omega)).trans (by rw [if_neg (by omega)])
    by_cases hp : x < v.1
    · rw [if_neg (by omega)] at e
      refine ⟨nI (v.2 5 x), v, c, n, L, m, T, rf, im, ok, fun k hk => ?_, fun k hk => ?_⟩
      · refine s_GF_path_0 LX 299 0 _ σx (rI k) ⟨fun z => absurd z h0, fun _ => ⟨fun _ => ?_, fun z => ?_⟩⟩
        · rw [hx.1.rd h20 (f := 5) (by omega) hp (a := 0 + 7) rfl]
          exact hk _ hx
        · rw [xs, i32_lt hxb (by omega)] at z
          exact absurd hp z
      · refine s_MO_path_0 LM 299 0 _ σm (rI k) ?_
        rw [ms, e1, e]
        refine ⟨fun z => absurd z (by decide), fun _ => ⟨vinI (by omega) (by omega), ?_⟩⟩
        rw [cl_nI (by omega), show σm (0 + 6) x = nI (v.2 5 x) from (hm.1.2.1 x hp).2.2.2]
        exact hk _ hm
    · rw [if_pos (by omega)] at e
      exact no (Or.inr (by rw [i32_lt hxb (by omega)]; exact hp)) e
theorem st_puts (a b : Int32) : stI RelS y_GF_puts y_MO_puts [sI a, sI b] := by
  refine stI_mk (fun σx σm v c n L m T rf im ok hx hm => ?_)
  have wc := ok.wc
  have w := ok.wv
  have h20 := w.2.1
  by_cases hp0 : findV v a < v.1
  · obtain ⟨p, ep⟩ : ∃ p, findV v a = p := ⟨_, rfl⟩
    have hp := hp0
    rw [ep] at hp
    have hnp : ¬ nI p < 0 := nI_pos (by omega)
    have v21 : vp_in (nI p) 21 := vinI (by omega) (by omega)
    have x6 : rd σx (0 + 6) 20 (nI p) = nI (v.2 4 p) := hx.1.rd h20 (f := 4) (by omega) hp rfl
    have y5 : σm (0 + 5) (Int32.toNatClampNeg (nI p)) = nI (v.2 4 p) := by rw [cl_nI (by omega)]; exact (hm.1.2.1 p hp).2.2.1
    by_cases h0 : b < 0
    · refine ⟨-4, v, c, n, L, m, T, rfU rf 4, im, ok, fun k hk => ?_, fun k hk => ?_⟩
      · refine s_GF_puts_0 LX 299 0 _ _ σx (rI k) (X_find 298 w hx a _ (fun _ => ?_) (fun z => absurd hp0 z))
        rw [ep]
        exact ⟨fun _ => ⟨fun z => absurd h0 z, fun _ => X_refuse 298 hx (-4) 4 rfl (by omega) _ hk⟩, fun z => absurd z hnp⟩
      · refine s_MO_puts_0 LM 299 0 _ _ σm (rI k) (M_find 299 w hm a _ (fun _ => ?_) (fun z => absurd hp0 z))
        rw [ep, show iBd b 0 99 = -4 from iBd_neg (lo := 0) h0 (by omega)]
        exact ⟨fun _ => s_MO_puts_21 LM 299 0 _ _ _ σm (rI k) ⟨fun z => absurd z (by decide), fun _ => M_no 299 wc hm (-4) 4 rfl (by omega) _ hk⟩, fun z => absurd z hnp⟩
    · obtain ⟨x, hxb, rfl⟩ := i32_nI h0
      have eb : iBd (nI x) 0 99 = if 99 < x then -6 else 0 := (iBd_nI (lo := 0) (hi := 99) hxb (by omega) (by omega)).trans (by rw [if_neg (by omega)])
      by_cases h99 : 99 < x
      · rw [if_pos h99] at eb
        refine ⟨-6, v, c, n, L, m, T, rfU rf 6, im, ok, fun k hk => ?_, fun k hk => ?_⟩
        · refine s_GF_puts_0 LX 299 0 _ _ σx (rI k) (X_find 298 w hx a _ (fun _ => ?_) (fun z => absurd hp0 z))
          rw [ep, lit 99, i32_lt (by omega) hxb]
          exact ⟨fun _ => ⟨fun _ => ⟨fun z => absurd h99 z, fun _ => X_refuse 298 hx (-6) 6 rfl (by omega) _ hk⟩, fun z => absurd z h0⟩, fun z => absurd z hnp⟩
        · refine s_MO_puts_0 LM 299 0 _ _ σm (rI k) (M_find 299 w hm a _ (fun _ => ?_) (fun z => absurd hp0 z))
          rw [ep, eb]
          exact ⟨fun _ => s_MO_puts_21 LM 299 0 _ _ _ σm (rI k) ⟨fun z => absurd z (by decide), fun _ => M_no 299 wc hm (-6) 6 rfl (by omega) _ hk⟩, fun z => absurd z hnp⟩
      · rw [if_neg h99] at eb
        have w2 : WFV (fillV v p 0 x) := w.fill hp (by omega) (fun _ => by omega) (fun z => absurd rfl z)
        refine ⟨nI (v.2 4 p), fillV v p 0 x, c, n, L, m, T, rf, im, ⟨w2, ok.2⟩, fun k hk => ?_, fun k hk => ?_⟩
        · refine s_GF_puts_0 LX 299 0 _ _ σx (rI k) (X_find 298 w hx a _ (fun _ => ?_) (fun z => absurd hp0 z))
          rw [ep, lit 99, i32_lt (by omega) hxb, x6]
          refine ⟨fun _ => ⟨fun _ => ⟨fun _ => ?_, fun z => absurd z h99⟩, fun z => absurd z h0⟩, fun z => absurd z hnp⟩
          refine c_TR_fill LX 296 1 w hx.1 hp (kd := 0) (by omega) (by omega) _ (fun σ' g1 g2 => hk _ ?_)
          exact hx.val g1 g2
        · refine s_MO_puts_0 LM 299 0 _ _ σm (rI k) (M_find 299 w hm a _ (fun _ => ?_) (fun z => absurd hp0 z))
          rw [ep, eb]
          refine ⟨fun _ => s_MO_puts_21 LM 299 0 _ _ _ σm (rI k) ⟨fun _ => ⟨v21, ?_⟩, fun z => absurd rfl z⟩, fun z => absurd z hnp⟩
          rw [y5]
          refine c_MO_putsAt LM 296 w hm.1 hp (kd := 0) (by omega) (fun _ => by omega) (fun z => absurd rfl z) _ (fun σ' g1 g2 => hk _ ?_)
          exact hm.val wc g1 g2
  · refine ⟨-1, v, c, n, L, m, T, rfU rf 1, im, ok, fun k hk => ?_, fun k hk => ?_⟩
    · refine s_GF_puts_0 LX 299 0 _ _ σx (rI k) ?_
      exact X_find 298 w hx a _ (fun z => absurd z hp0) (fun _ => ⟨fun z => absurd (by decide) z, fun _ => X_refuse 298 hx (-1) 1 rfl (by omega) _ hk⟩)
    · refine s_MO_puts_0 LM 299 0 _ _ σm (rI k) ?_
      exact M_find 299 w hm a _ (fun z => absurd z hp0) (fun _ => ⟨fun z => absurd (by decide) z, fun _ => s_MO_puts_21 LM 299 0 _ _ _ σm (rI k) ⟨fun z => absurd z (by decide), fun _ => M_no 299 wc hm (-1) 1 rfl (by omega) _ hk⟩⟩)
theorem st_drops (a : Int32) : stI RelS y_GF_drops y_MO_drops [sI a] := by
  refine stI_mk (fun σx σm v c n L m T rf im ok hx hm => ?_)
  have wc := ok.wc
  have w := ok.wv
  have h20 := w.2.1
  by_cases hp0 : findV v a < v.1
  · obtain ⟨p, ep⟩ : ∃ p, findV v a = p := ⟨_, rfl⟩
    have hp := hp0
    rw [ep] at hp
    have hnp : ¬ nI p < 0 := nI_pos (by omega)
    have v21 : vp_in (nI p) 21 := vinI (by omega) (by omega)
    have x6 : rd σx (0 + 6) 20 (nI p) = nI (v.2 4 p) := hx.1.rd h20 (f := 4) (by omega) hp rfl
    have y5 : σm (0 + 5) (Int32.toNatClampNeg (nI p)) = nI (v.2 4 p) := by rw [cl_nI (by omega)]; exact (hm.1.2.1 p hp).2.2.1
    have w2 : WFV (fillV v p 1 0) := w.fill hp (by omega) (fun z => by omega) (fun _ => rfl)
    refine ⟨nI (v.2 4 p), fillV v p 1 0, c, n, L, m, T, rf, im, ⟨w2, ok.2⟩, fun k hk => ?_, fun k hk => ?_⟩
    · refine s_GF_drops_0 LX 299 0 _ σx (rI k) (X_find 298 w hx a _ (fun _ => ?_) (fun z => absurd hp0 z))
      rw [ep, x6]
      refine ⟨fun _ => ?_, fun z => absurd z hnp⟩
      refine c_TR_fill LX 296 1 w hx.1 hp (kd := 1) (x := 0) (by omega) (by omega) _ (fun σ' g1 g2 => hk _ ?_)
      exact hx.val g1 g2
    · refine s_MO_drops_0 LM 299 0 _ σm (rI k) (M_find 299 w hm a _ (fun _ => ?_) (fun z => absurd hp0 z))
      rw [ep, y5]
      refine ⟨fun _ => ⟨v21, ?_⟩, fun z => absurd z hnp⟩
      refine c_MO_putsAt LM 296 w hm.1 hp (kd := 1) (x := 0) (by omega) (fun z => by omega) (fun _ => rfl) _ (fun σ' g1 g2 => hk _ ?_)
      exact hm.val wc g1 g2
  · refine ⟨-1, v, c, n, L, m, T, rfU rf 1, im, ok, fun k hk => ?_, fun k hk => ?_⟩
    · refine s_GF_drops_0 LX 299 0 _ σx (rI k) ?_
      exact X_find 298 w hx a _ (fun z => absurd z hp0) (fun _ => ⟨fun z => absurd (by decide) z, fun _ => X_refuse 298 hx (-1) 1 rfl (by omega) _ hk⟩)
    · refine s_MO_drops_0 LM 299 0 _ σm (rI k) ?_
      exact M_find 299 w hm a _ (fun z => absurd z hp0) (fun _ => ⟨fun z => absurd (by decide) z, fun _ => M_no 299 wc hm (-1) 1 rfl (by omega) _ hk⟩)
