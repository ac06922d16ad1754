/-! what is lost, on the whole -/
noncomputable def lsN (v : VT) (c : CT) (t many : Nat) : Nat → Nat
  | 0 => 0
  | j + 1 => lsN v c t many j + (if (fl c (losU v j v.1)).1.length = 0 then (t - 1) ^ (many - pcN j many) else 0)
theorem pw20 {b e : Nat} (hb : b ≤ 20) (he : e ≤ 6) : b ^ e ≤ 64000000 := by
  rcases Nat.eq_zero_or_pos b with z | z
  · rw [z]
    rcases Nat.eq_zero_or_pos e with y | y
    · rw [y]; decide
    · rw [Nat.zero_pow y]; omega
  · exact Nat.le_trans (Nat.pow_le_pow_left hb e) (Nat.le_trans (Nat.pow_le_pow_right (by omega) he) (by decide))
theorem lsN_le (v : VT) (c : CT) {t many : Nat} (ht : t ≤ 20) (hm : many ≤ 6) : ∀ j, lsN v c t many j ≤ 64000000 * j
  | 0 => Nat.le_refl _
  | j + 1 => by
    have h := lsN_le v c ht hm j
    have h2 := pw20 (b := t - 1) (e := many - pcN j many) (by omega) (by omega)
    show lsN v c t many j + (if (fl c (losU v j v.1)).1.length = 0 then (t - 1) ^ (many - pcN j many) else 0) ≤ _
    split <;> omega
theorem st_loss (a b : Int32) : stJ RelS y_GF_loss y_MO_loss [sI a, sI b] := by
  refine stJ_mk (fun σx σm v c n L m T rf im ok hx hm => ?_)
  have wc := ok.wc
  have w := ok.wv
  have h20 := w.2.1
  by_cases h2 : a < 2
  · have e : iBd a 2 20 = -4 := by
      by_cases z : a < 0
      · exact iBd_neg (lo := 2) z (by omega)
      · obtain ⟨t, ht, rfl⟩ := i32_nI z
        rw [lit 2, i32_lt (by omega) (by omega)] at h2
        have := iBd_nI (lo := 2) (hi := 20) ht (by omega) (by omega)
        rw [if_pos h2] at this
        exact this
    refine ⟨4000000000000000000 - Int32.toInt64 (-4), v, c, n, L, m, T, rfU rf 4, im, ok, fun k hk => ?_, fun k hk => ?_⟩
    · exact s_GF_loss_0 LX 299 0 _ _ σx (rJ k) ⟨fun z => absurd h2 z, fun _ => X_refuseLong 297 hx (-4) 4 rfl (by omega) _ hk⟩
    · refine s_MO_loss_0 LM 299 0 _ _ σm (rJ k) ?_
      rw [e]
      exact ⟨fun _ => s_MO_loss_24 LM 299 0 _ _ _ σm (rJ k) ⟨fun z => absurd z (by decide), fun _ => M_lowestOf 299 wc hm (-4) 4 rfl (by omega) _ hk⟩, fun z => absurd z (by decide)⟩
  have ha0 : ¬ a < 0 := fun z => h2 (neg_lt (n := 2) z (by omega))
  obtain ⟨t, ht, rfl⟩ := i32_nI ha0
  have eb : iBd (nI t) 2 20 = if t < 2 then -4 else if 20 < t then -6 else 0 := iBd_nI (lo := 2) (hi := 20) ht (by omega) (by omega)
  have ht2 : ¬ t < 2 := by rw [lit 2, i32_lt (by omega) (by omega)] at h2; exact h2
  rw [if_neg ht2] at eb
  by_cases h3 : 20 < t
  · rw [if_pos h3] at eb
    have h3' : (20 : Int32) < nI t := (i32_lt (a := 20) (by omega) (by omega)).mpr h3
    refine ⟨4000000000000000000 - Int32.toInt64 (-6), v, c, n, L, m, T, rfU rf 6, im, ok, fun k hk => ?_, fun k hk => ?_⟩
    · exact s_GF_loss_0 LX 299 0 _ _ σx (rJ k) ⟨fun _ => ⟨fun z => absurd h3' z, fun _ => X_refuseLong 297 hx (-6) 6 rfl (by omega) _ hk⟩, fun z => absurd z h2⟩
    · refine s_MO_loss_0 LM 299 0 _ _ σm (rJ k) ?_
      rw [eb]
      exact ⟨fun _ => s_MO_loss_24 LM 299 0 _ _ _ σm (rJ k) ⟨fun z => absurd z (by decide), fun _ => M_lowestOf 299 wc hm (-6) 6 rfl (by omega) _ hk⟩, fun z => absurd z (by decide)⟩
  rw [if_neg h3] at eb
  have h3' : ¬ (20 : Int32) < nI t := fun z => h3 ((i32_lt (a := 20) (by omega) (by omega)).mp z)
  by_cases h01 : b = 0 ∨ b = 1
  · obtain ⟨many, em⟩ : ∃ many, (if cntN v v.1 < 6 then cntN v v.1 else 6) = many := ⟨_, rfl⟩
    have hc := cntN_le v v.1
    have hm6 : many ≤ 6 := by rw [← em]; split <;> omega
    have p64 := pw64 hm6
    have e31 : many < 2 ^ 31 := by omega
    have tot := pw20 (b := t) (e := many) (by omega) hm6
    have totp : 0 < t ^ many := Nat.pow_pos (by omega)
    have los := lsN_le v c (t := t) (many := many) (by omega) hm6 (2 ^ many)
    refine ⟨frN b (lsN v c t many (2 ^ many)) (t ^ many), v, c, n, L, m, T, rf, im, ok, fun k hk => ?_, fun k hk => ?_⟩
    · have key : ∀ r j τ, j + r = 2 ^ many → AX τ v c n L m T rf im → Jd LX 300 y_GF_loss 57 [(0, sR 0 (.inl 5)), (1, sI (nI t)), (2, sI b), (3, sI (nI many)), (4, sJ (lN (lsN v c t many j))), (6, sI (nI j))] [] τ (rJ k) := by
        intro r
        induction r with
        | zero =>
          intro j τ hi hxx
          have ej : j = 2 ^ many := by omega
          subst ej
          refine s_GF_loss_57 LX 299 0 _ _ _ _ _ τ (rJ k) ?_
          rw [sh_x many (by omega)]
          refine ⟨fun _ => X_power 299 t many (by omega) (by omega) τ _ ?_, fun z => ?_⟩
          · exact X_fraction 299 (by omega) (by omega) totp b τ _ (hk _ hxx)
          · rw [i32_lt (by omega) (by omega)] at z; omega
        | succ r ih =>
          intro j τ hi hxx
          have hj : j < 2 ^ many := by omega
          have e : lsN v c t many (j + 1) = lsN v c t many j + (if (fl c (losU v j v.1)).1.length = 0 then (t - 1) ^ (many - pcN j many) else 0) := rfl
          obtain ⟨o1, o2, o3⟩ := los_ok w j v.1 (Nat.le_refl _)
          have hl := fl_len wc o1
          have hpc := pcN_le j many
          refine s_GF_loss_57 LX 299 0 _ _ _ _ _ τ (rJ k) ?_
          rw [sh_x many (by omega)]
          refine ⟨fun z => ?_, fun _ => X_losing 295 w hxx hm6 hj _ (fun τ1 g1 g2 => ?_)⟩
          · rw [i32_lt (by omega) (by omega)] at z; omega
          · refine X_gatherT 299 (by omega) wc g2 o1 g1 _ (fun τ2 f1 f2 f3 _ => ?_)
            rw [z_eq (by omega) 0 (by omega)]
            have nx := ih (j + 1) τ2 (by omega) f2
            rw [e] at nx
            refine ⟨fun q => ?_, fun q => X_bits 299 (by omega) τ2 _ ?_⟩
            · refine s_GF_loss_104 LX 299 0 _ _ _ _ _ τ2 (rJ k) ?_
              rw [if_neg q, Nat.add_zero] at nx
              rw [nI_s1]
              exact nx
            · have ep : pcN j 6 = pcN j many := by
                have := pcN_off hj (6 - many)
                rw [show many + (6 - many) = 6 from by omega] at this
                exact this
              rw [ep, nI_subm hpc, show nI t - 1 = nI (t - 1) from nI_subm (b := 1) (by omega)]
              refine X_power 299 (t - 1) (many - pcN j many) (by omega) (by omega) τ2 _ ?_
              refine s_GF_loss_104 LX 299 0 _ _ _ _ _ τ2 (rJ k) ?_
              rw [if_pos q, ← lN_add] at nx
              rw [nI_s1]
              exact nx
      have go : Jd LX 300 y_GF_loss 41 [(0, sR 0 (.inl 5)), (1, sI (nI t)), (2, sI b)] [] σx (rJ k) := by
        refine s_GF_loss_41 LX 299 0 _ _ σx (rJ k) (X_numbers 298 w hx.1 _ ?_)
        have e : (if (6 : Int32) < nI (cntN v v.1) then 6 else nI (cntN v v.1)) = nI many := by
          rw [← em, lit 6]
          simp only [i32_lt (show 6 < 2 ^ 31 by omega) (show cntN v v.1 < 2 ^ 31 by omega)]
          by_cases y : cntN v v.1 < 6
          · rw [if_pos y, if_neg (by omega)]
          · rw [if_neg y]
            by_cases q : 6 < cntN v v.1
            · rw [if_pos q]
            · rw [if_neg q, show cntN v v.1 = 6 from by omega]
        rw [e]
        exact key (2 ^ many) 0 σx (by omega) hx
      refine s_GF_loss_0 LX 299 0 _ _ σx (rJ k) ⟨fun _ => ⟨fun _ => ⟨fun _ => go, fun z => ⟨fun _ => go, fun y => ?_⟩⟩, fun z => absurd z h3'⟩, fun z => absurd z h2⟩
      rcases h01 with e | e
      · exact absurd e z
      · exact absurd e y
    · have key : ∀ r j v9 τ, v9 = nI j → j + r = 2 ^ many → AM τ v c n L m T rf im → Jd LM 300 y_MO_loss 74 [(0, sR 0 (.inl 6)), (1, sI (nI t)), (2, sI b), (4, sI (nI many)), (5, sJ (lN (lsN v c t many j))), (7, sJ (lN (t ^ many))), (9, sI v9)] [] τ (rJ k) := by
        intro r
        induction r with
        | zero =>
          intro j v9 τ e9 hi hmm
          have ej : j = 2 ^ many := by omega
          subst ej
          subst e9
          refine s_MO_loss_74 LM 299 0 _ _ _ _ _ _ τ (rJ k) ?_
          rw [sh_x many (by omega)]
          refine ⟨fun _ => M_partOf 298 (by omega) (by omega) totp b τ _ (hk _ hmm), fun z => ?_⟩
          rw [i32_lt (by omega) (by omega)] at z; omega
        | succ r ih =>
          intro j v9 τ e9 hi hmm
          subst e9
          have hj : j < 2 ^ many := by omega
          have e : lsN v c t many (j + 1) = lsN v c t many j + (if (fl c (losU v j v.1)).1.length = 0 then (t - 1) ^ (many - pcN j many) else 0) := rfl
          obtain ⟨o1, o2, o3⟩ := los_ok w j v.1 (Nat.le_refl _)
          have hl := fl_len wc o1
          have nx := fun τ => ih (j + 1) (nI j + 1) τ (nI_s1 j) (by omega)
          rw [e] at nx
          refine s_MO_loss_74 LM 299 0 _ _ _ _ _ _ τ (rJ k) ?_
          rw [sh_x many (by omega)]
          refine ⟨fun z => ?_, fun _ => ?_⟩
          · rw [i32_lt (by omega) (by omega)] at z; omega
          have key2 : ∀ s i, i + s = many → Jd LM 300 y_MO_loss 89 [(0, sR 0 (.inl 6)), (1, sI (nI t)), (2, sI b), (4, sI (nI many)), (5, sJ (lN (lsN v c t many j))), (7, sJ (lN (t ^ many))), (9, sI (nI j)), (10, sJ (lN ((t - 1) ^ (i - pcN j i)))), (12, sI (nI i))] [] τ (rJ k) := by
            intro s
            induction s with
            | zero =>
              intro i hs
              have ei : i = many := by omega
              refine s_MO_loss_89 LM 299 0 _ _ _ _ _ _ _ _ τ (rJ k) ⟨fun _ => ?_, fun z => ?_⟩
              · rw [ei]
                refine M_minds 297 wc hmm _ (fun τ1 a1 a2 _ => ?_)
                refine M_losing 296 w a1.1 (by omega) _ (fun τ2 b1 b2 => ?_)
                refine M_manyT 291 o1 wc (a1.val wc b1 b2) (a2.kept (b2.1 35 (by omega) (by omega))) _ (fun τ3 c1 c2 c3 _ => ?_)
                rw [z_eq (by omega) 0 (by omega)]
                refine ⟨fun q => ?_, fun q => ?_⟩
                · rw [if_neg q] at nx
                  refine s_MO_loss_150 LM 299 0 _ _ _ _ _ _ _ τ3 (rJ k) (M_forgets 295 w wc c2 c3 _ (fun τ4 e1 _ _ => ?_))
                  rw [show (0 : Int64) = lN 0 from rfl, lN_add]
                  exact nx τ4 e1
                · rw [if_pos q] at nx
                  refine s_MO_loss_150 LM 299 0 _ _ _ _ _ _ _ τ3 (rJ k) (M_forgets 295 w wc c2 c3 _ (fun τ4 e1 _ _ => ?_))
                  rw [lN_add]
                  exact nx τ4 e1
              · rw [i32_lt (by omega) (by omega)] at z; omega
            | succ s ihs =>
              intro i hs
              have nx2 := ihs (i + 1) (by omega)
              have hpc := pcN_le j i
              have e2 : pcN j (i + 1) = pcN j i + (if j.testBit i = true then 1 else 0) := rfl
              rw [e2] at nx2
              refine s_MO_loss_89 LM 299 0 _ _ _ _ _ _ _ _ τ (rJ k) ⟨fun z => ?_, fun _ => ?_⟩
              · rw [i32_lt (by omega) (by omega)] at z; omega
              rw [bit_m (by omega) (by omega)]
              by_cases hb : j.testBit i = true
              · rw [if_pos hb, show i + 1 - (pcN j i + 1) = i - pcN j i from by omega] at nx2
                rw [if_pos hb]
                refine ⟨fun z => absurd z (by decide), fun _ => s_MO_loss_116 LM 299 0 _ _ _ _ _ _ _ _ _ τ (rJ k) ?_⟩
                rw [show (1 : Int64) = lN 1 from rfl, lN_mul, nI_s1, Nat.mul_one]
                exact nx2
              · rw [if_neg hb, show i + 1 - (pcN j i + 0) = i - pcN j i + 1 from by omega, Nat.pow_succ] at nx2
                rw [if_neg hb]
                refine ⟨fun _ => s_MO_loss_116 LM 299 0 _ _ _ _ _ _ _ _ _ τ (rJ k) ?_, fun z => absurd rfl z⟩
                rw [show nI t - 1 = nI (t - 1) from nI_subm (b := 1) (by omega), nI_l (by omega), lN_mul, nI_s1]
                exact nx2
          exact key2 many 0 (by omega)
      have go : ∀ v3 : Int32, v3 = 0 → Jd LM 300 y_MO_loss 24 [(0, sR 0 (.inl 6)), (1, sI (nI t)), (2, sI b), (3, sI v3)] [] σm (rJ k) := by
        intro v3 e3
        refine s_MO_loss_24 LM 299 0 _ _ _ σm (rJ k) ⟨fun _ => M_numbers 299 w hm.1 6 (by omega) _ ?_, fun z => absurd e3 z⟩
        rw [em]
        have key0 : ∀ s i, i + s = many → Jd LM 300 y_MO_loss 51 [(0, sR 0 (.inl 6)), (1, sI (nI t)), (2, sI b), (4, sI (nI many)), (5, sJ 0), (7, sJ (lN (t ^ i))), (9, sI (nI i))] [] σm (rJ k) := by
          intro s
          induction s with
          | zero =>
            intro i hs
            have ei : i = many := by omega
            refine s_MO_loss_51 LM 299 0 _ _ _ _ _ _ σm (rJ k) ⟨fun _ => ?_, fun z => ?_⟩
            · rw [ei]
              exact key (2 ^ many) 0 0 σm rfl (by omega) hm
            · rw [i32_lt (by omega) (by omega)] at z; omega
          | succ s ihs =>
            intro i hs
            refine s_MO_loss_51 LM 299 0 _ _ _ _ _ _ σm (rJ k) ⟨fun z => ?_, fun _ => ?_⟩
            · rw [i32_lt (by omega) (by omega)] at z; omega
            · rw [nI_l (by omega), lN_mul, nI_s1]
              exact ihs (i + 1) (by omega)
        exact key0 many 0 (by omega)
      refine s_MO_loss_0 LM 299 0 _ _ σm (rJ k) ?_
      rw [eb]
      refine ⟨fun _ => go 0 rfl, fun _ => ⟨fun _ => go 0 rfl, fun z => absurd z (by rw [(iIn01 b).1 h01]; decide)⟩⟩
  · have nb0 : ¬ b = 0 := fun z => h01 (Or.inl z)
    have nb1 : ¬ b = 1 := fun z => h01 (Or.inr z)
    refine ⟨4000000000000000000 - Int32.toInt64 (-2), v, c, n, L, m, T, rfU rf 2, im, ok, fun k hk => ?_, fun k hk => ?_⟩
    · exact s_GF_loss_0 LX 299 0 _ _ σx (rJ k) ⟨fun _ => ⟨fun _ => ⟨fun z => absurd z nb0, fun _ => ⟨fun z => absurd z nb1, fun _ => X_refuseLong 297 hx (-2) 2 rfl (by omega) _ hk⟩⟩, fun z => absurd z h3'⟩, fun z => absurd z h2⟩
    · refine s_MO_loss_0 LM 299 0 _ _ σm (rJ k) ?_
      rw [eb]
      exact ⟨fun z => absurd rfl z, fun _ => ⟨fun z => absurd ((iIn01 b).2 h01) z, fun _ => s_MO_loss_24 LM 299 0 _ _ _ σm (rJ k) ⟨fun z => absurd z (by decide), fun _ => M_lowestOf 299 wc hm (-2) 2 rfl (by omega) _ hk⟩⟩⟩
