/-! by lot, on the whole -/
theorem lotR_le (v : VT) (c : CT) (w : WFV v) (wc : WFC c) (s0 : Int32) : ∀ i, (lotR v c s0 i).1.1 ≤ 6144 * i ∧ (lotR v c s0 i).1.2 ≤ i
  | 0 => ⟨Nat.le_refl _, Nat.le_refl _⟩
  | i + 1 => by
    obtain ⟨a, b⟩ := lotR_le v c w wc s0 i
    have hl := fl_len wc (lotN_ok (q := (v, (lotR v c s0 i).2)) w 4)
    refine ⟨?_, ?_⟩
    · show (lotR v c s0 i).1.1 + (fl c (lotN (v, (lotR v c s0 i).2) 4).1).1.length ≤ _
      omega
    · show (lotR v c s0 i).1.2 + (if (fl c (lotN (v, (lotR v c s0 i).2) 4).1).1.length = 0 then 1 else 0) ≤ _
      split <;> omega
theorem lotR_z (v : VT) (c : CT) (s0 : Int32) : lotR v c s0 0 = ((0, 0), s0) := rfl
theorem lotR_s (v : VT) (c : CT) (s0 : Int32) (i : Nat) : lotR v c s0 (i + 1) = (((lotR v c s0 i).1.1 + (fl c (lotN (v, (lotR v c s0 i).2) 4).1).1.length, (lotR v c s0 i).1.2 + (if (fl c (lotN (v, (lotR v c s0 i).2) 4).1).1.length = 0 then 1 else 0)), (lotN (v, (lotR v c s0 i).2) 4).2) := rfl
theorem st_lots (a b e0 : Int32) : stI RelS y_GF_lots y_MO_lots [sI a, sI b, sI e0] := by
  refine stI_mk (fun σx σm v c n L m T rf im ok hx hm => ?_)
  have wc := ok.wc
  have w := ok.wv
  have h20 := w.2.1
  by_cases h2 : a < 1
  · have e : iBd a 1 20 = -4 := by
      by_cases z : a < 0
      · exact iBd_neg (lo := 1) z (by omega)
      · obtain ⟨t, ht, rfl⟩ := i32_nI z
        rw [lit 1, i32_lt (by omega) (by omega)] at h2
        have := iBd_nI (lo := 1) (hi := 20) ht (by omega) (by omega)
        rw [if_pos h2] at this
        exact this
    refine ⟨-4, v, c, n, L, m, T, rfU rf 4, im, ok, fun k hk => ?_, fun k hk => ?_⟩
    · exact s_GF_lots_0 LX 299 0 _ _ _ σx (rI k) ⟨fun z => absurd h2 z, fun _ => X_refuse 298 hx (-4) 4 rfl (by omega) _ hk⟩
    · refine s_MO_lots_0 LM 299 0 _ _ _ σm (rI k) ?_
      rw [e]
      exact ⟨fun _ => s_MO_lots_27 LM 299 0 _ _ _ _ σm (rI k) ⟨fun z => absurd z (by decide), fun _ => M_no 299 wc hm (-4) 4 rfl (by omega) _ hk⟩, fun z => absurd z (by decide)⟩
  have ha0 : ¬ a < 0 := fun z => h2 (neg_lt (n := 1) z (by omega))
  obtain ⟨t, ht, rfl⟩ := i32_nI ha0
  have eb : iBd (nI t) 1 20 = if t < 1 then -4 else if 20 < t then -6 else 0 := iBd_nI (lo := 1) (hi := 20) ht (by omega) (by omega)
  have ht2 : ¬ t < 1 := by rw [lit 1, i32_lt (by omega) (by omega)] at h2; exact h2
  rw [if_neg ht2] at eb
  by_cases h3 : 20 < t
  · rw [if_pos h3] at eb
    have h3' : (20 : Int32) < nI t := (i32_lt (a := 20) (by omega) (by omega)).mpr h3
    refine ⟨-6, v, c, n, L, m, T, rfU rf 6, im, ok, fun k hk => ?_, fun k hk => ?_⟩
    · exact s_GF_lots_0 LX 299 0 _ _ _ σx (rI k) ⟨fun _ => ⟨fun z => absurd h3' z, fun _ => X_refuse 298 hx (-6) 6 rfl (by omega) _ hk⟩, fun z => absurd z h2⟩
    · refine s_MO_lots_0 LM 299 0 _ _ _ σm (rI k) ?_
      rw [eb]
      exact ⟨fun _ => s_MO_lots_27 LM 299 0 _ _ _ _ σm (rI k) ⟨fun z => absurd z (by decide), fun _ => M_no 299 wc hm (-6) 6 rfl (by omega) _ hk⟩, fun z => absurd z (by decide)⟩
  rw [if_neg h3] at eb
  have h3' : ¬ (20 : Int32) < nI t := fun z => h3 ((i32_lt (a := 20) (by omega) (by omega)).mp z)
  by_cases h01 : e0 = 0 ∨ e0 = 1
  · obtain ⟨R, eR⟩ : ∃ R, R = lotR v c b := ⟨_, rfl⟩
    have R0 : R 0 = ((0, 0), b) := by rw [eR, lotR_z]
    obtain ⟨U, eU⟩ : ∃ U : Nat → VT × Int32, ∀ i, U i = lotN (v, (R i).2) 4 := ⟨_, fun _ => rfl⟩
    have Rs : ∀ i, R (i + 1) = (((R i).1.1 + (fl c (U i).1).1.length, (R i).1.2 + (if (fl c (U i).1).1.length = 0 then 1 else 0)), (U i).2) := fun i => by
      rw [eU, eR, lotR_s]
    clear eR
    refine ⟨if e0 = 0 then nI (R t).1.1 else nI (R t).1.2, v, c, n, L, m, T, rf, im, ok, fun k hk => ?_, fun k hk => ?_⟩
    · have key := X_lotsGo w wc e0 ht R U eU Rs k hk
      have go : Jd LX 300 y_GF_lots 41 [(0, sR 0 (.inl 5)), (1, sI (nI t)), (2, sI b), (3, sI e0)] [] σx (rI k) := by
        refine s_GF_lots_41 LX 299 0 _ _ _ σx (rI k) ?_
        have st := key t 0 (up σx 0 13 b) (by omega) (hx.kept ⟨fun x a _ _ => up_cell _ _ a, fun i a => up_other _ _ (Or.inr a)⟩) (by rw [R0]; exact up_self _ _ _ _)
        rw [R0] at st
        exact st
      refine s_GF_lots_0 LX 299 0 _ _ _ σx (rI k) ⟨fun _ => ⟨fun _ => ⟨fun _ => go, fun z => ⟨fun _ => go, fun y => ?_⟩⟩, fun z => absurd z h3'⟩, fun z => absurd z h2⟩
      rcases h01 with e | e
      · exact absurd e z
      · exact absurd e y
    · have key := M_lotsGo w wc e0 ht R U eU Rs k hk
      have go : ∀ v4 : Int32, v4 = 0 → Jd LM 300 y_MO_lots 27 [(0, sR 0 (.inl 6)), (1, sI (nI t)), (2, sI b), (3, sI e0), (4, sI v4)] [] σm (rI k) := by
        intro v4 e4
        refine s_MO_lots_27 LM 299 0 _ _ _ _ σm (rI k) ⟨fun _ => ?_, fun z => absurd e4 z⟩
        have st := key t 0 (up σm 0 53 b) (by omega) (hm.kept wc ⟨fun x a _ _ => up_cell _ _ a, fun j hj => by rw [up_cell _ _ (by omega)], fun i _ _ _ _ _ a => up_other _ _ (Or.inr a)⟩) (by rw [R0]; exact up_self _ _ _ _)
        have ez : (if e0 = 0 then nI (R 0).1.1 else nI (R 0).1.2) = 0 := by
          rw [R0]
          split <;> rfl
        rw [ez] at st
        exact st
      refine s_MO_lots_0 LM 299 0 _ _ _ σm (rI k) ?_
      rw [eb]
      exact ⟨fun _ => go 0 rfl, fun _ => ⟨fun _ => go 0 rfl, fun z => absurd z (by rw [(iIn01 e0).1 h01]; decide)⟩⟩
  · have nb0 : ¬ e0 = 0 := fun z => h01 (Or.inl z)
    have nb1 : ¬ e0 = 1 := fun z => h01 (Or.inr z)
    refine ⟨-2, v, c, n, L, m, T, rfU rf 2, im, ok, fun k hk => ?_, fun k hk => ?_⟩
    · exact s_GF_lots_0 LX 299 0 _ _ _ σx (rI k) ⟨fun _ => ⟨fun _ => ⟨fun z => absurd z nb0, fun _ => ⟨fun z => absurd z nb1, fun _ => X_refuse 298 hx (-2) 2 rfl (by omega) _ hk⟩⟩, fun z => absurd z h3'⟩, fun z => absurd z h2⟩
    · refine s_MO_lots_0 LM 299 0 _ _ _ σm (rI k) ?_
      rw [eb]
      exact ⟨fun z => absurd rfl z, fun _ => ⟨fun z => absurd ((iIn01 e0).2 h01) z, fun _ => s_MO_lots_27 LM 299 0 _ _ _ _ σm (rI k) ⟨fun z => absurd z (by decide), fun _ => M_no 299 wc hm (-2) 2 rfl (by omega) _ hk⟩⟩⟩
