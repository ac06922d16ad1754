/-! which, judge, count -/
def mP (F : List Nat) (T : Nat → Nat) (i : Nat) : Bool := match F[i]? with
  | some x => decide (x % 100 ≠ T i)
  | none => true
def mist (F : List Nat) (T : Nat → Nat) (m : Nat) : Nat := fst_ (mP F T) m 0
theorem mP_some {F : List Nat} {T : Nat → Nat} {i x : Nat} (h : F[i]? = some x) : mP F T i = decide (x % 100 ≠ T i) := by
  unfold mP
  rw [h]
theorem mP_none {F : List Nat} {T : Nat → Nat} {i : Nat} (h : F.length ≤ i) : mP F T i = true := by
  unfold mP
  rw [List.getElem?_eq_none h]
theorem mist_le (F : List Nat) (T : Nat → Nat) (m : Nat) : mist F T m ≤ m := by
  have := (fst_le (mP F T) m 0).2
  unfold mist
  omega
theorem fst_suc (p : Nat → Bool) (r i : Nat) : fst_ p (r + 1) i = if p i = true then i else fst_ p r (i + 1) := rfl
theorem X_mistold (d : Nat) {σ : sS} {F : List Nat} {u : Nat} {v : VT} {c : CT} {n : Nat} {L : Nat → Nat} {m : Nat} {T : Nat → Nat} {rf : Nat → Int32} {im : Option (VT × CT)} (hx : AX σ v c n L m T rf im) (hm32 : m ≤ 32) (hT : ∀ i, i < m → T i ≤ 99) (hF : FX σ F u) (h6 : F.length ≤ 6144) (hok : okF F) (k : Int32 → sS → Prop) (hk : k (nI (mist F T m)) σ) : CJ LX (d + 2) y_GF_firstMistold [sR 0 (.inl 5)] σ (rI k) := by
  refine s_GF_firstMistold_0 LX (d + 1) 0 σ (rI k) ?_
  have h8 := hx.2.2.2.2.1
  have h65 := hx.2.2.2.2.2.1
  have key : ∀ r i, i + r = m → k (nI (fst_ (mP F T) r i)) σ → Jd LX (d + 2) y_GF_firstMistold 2 [(0, sR 0 (.inl 5)), (1, sI (nI i))] [] σ (rI k) := by
    intro r
    induction r with
    | zero =>
      intro i hi hk2
      have ei : i = m := by omega
      subst ei
      refine s_GF_firstMistold_2 LX (d + 1) 0 _ σ (rI k) ⟨fun _ => ?_, fun z => ?_⟩
      · rw [h8]; exact hk2
      · rw [h8, i32_lt (by omega) (by omega)] at z; omega
    | succ r ih =>
      intro i hi hk2
      have hTi := hT i (by omega)
      rw [fst_suc] at hk2
      refine s_GF_firstMistold_2 LX (d + 1) 0 _ σ (rI k) ⟨fun z => ?_, fun _ => ⟨fun z => ?_, fun z => ?_⟩⟩
      · rw [h8, i32_lt (by omega) (by omega)] at z; omega
      · rw [show σ (0 + 15) 3 = _ from hF.1, i32_lt (by omega) (by omega)] at z
        rw [mP_none (by omega), if_pos rfl] at hk2
        exact hk2
      · rw [show σ (0 + 15) 3 = _ from hF.1, i32_lt (by omega) (by omega)] at z
        obtain ⟨x, x1, x2⟩ := at_some z
        have hxb := hok x x2
        rw [mP_some x1] at hk2
        refine c_GA_codeAt d hF h6 hok x1 _ ?_
        rw [rd_nI (by omega) (by omega), show σ (0 + 65) i = _ from h65 i (by omega), i32_eq (by omega) (by omega)]
        refine ⟨fun y => ?_, fun y => ?_⟩
        · rw [decide_eq_false (fun (z : x % 100 ≠ T i) => z y.symm), if_neg (by decide)] at hk2
          rw [nI_s1]
          exact ih (i + 1) (by omega) hk2
        · rw [decide_eq_true (show x % 100 ≠ T i from fun z => y z.symm), if_pos rfl] at hk2
          exact hk2
  exact key m 0 (by omega) hk
theorem M_coded (d : Nat) {σ : sS} {F : List Nat} {u : Nat} {v : VT} {c : CT} {n : Nat} {L : Nat → Nat} {m : Nat} {T : Nat → Nat} {rf : Nat → Int32} {im : Option (VT × CT)} (hm : AM σ v c n L m T rf im) (hm32 : m ≤ 32) (hT : ∀ i, i < m → T i ≤ 99) (hF : FM σ F u) (h6 : F.length ≤ 6144) (hok : okF F) (k : Int32 → sS → Prop) (h1 : mist F T m = m → k 1 σ) (h0 : mist F T m ≠ m → k 0 σ) : CJ LM d y_MO_isCodedSo [sR 0 (.inl 6)] σ (rI k) := by
  refine s_MO_isCodedSo_0 LM d 0 σ (rI k) ?_
  have h52 := hm.2.2.2.2.1
  have h36 := hm.2.2.2.2.2.1
  have key : ∀ r i, i + r = m → (fst_ (mP F T) r i = m → k 1 σ) → (fst_ (mP F T) r i ≠ m → k 0 σ) → Jd LM d y_MO_isCodedSo 2 [(0, sR 0 (.inl 6)), (1, sI (nI i))] [] σ (rI k) := by
    intro r
    induction r with
    | zero =>
      intro i hi h1 h0
      have ei : i = m := by omega
      subst ei
      refine s_MO_isCodedSo_2 LM d 0 _ σ (rI k) ⟨fun _ => ⟨Or.inr rfl, h1 rfl⟩, fun z => ?_⟩
      rw [h52, i32_lt (by omega) (by omega)] at z; omega
    | succ r ih =>
      intro i hi h1 h0
      have hTi := hT i (by omega)
      rw [fst_suc] at h1 h0
      refine s_MO_isCodedSo_2 LM d 0 _ σ (rI k) ⟨fun z => ?_, fun _ => ⟨fun z => ⟨Or.inl rfl, ?_⟩, fun z => ?_⟩⟩
      · rw [h52, i32_lt (by omega) (by omega)] at z; omega
      · rw [hF.1, i32_lt (by omega) (by omega)] at z
        rw [mP_none (by omega), if_pos rfl] at h0
        exact h0 (by omega)
      · rw [hF.1, i32_lt (by omega) (by omega)] at z
        obtain ⟨x, x1, x2⟩ := at_some z
        have hxb := hok x x2
        rw [mP_some x1] at h1 h0
        refine ⟨vinI (by omega) (by omega), vinI (by omega) (by omega), ?_⟩
        rw [cl_nI (by omega), show σ (0 + 21) i = _ from (hF.2.2 i x x1).2, show σ (0 + 36) i = _ from h36 i (by omega), i32_eq (by omega) (by omega)]
        refine ⟨fun y => ?_, fun y => ⟨Or.inl rfl, ?_⟩⟩
        · rw [decide_eq_false (fun z => z y), if_neg (by decide)] at h1 h0
          rw [nI_s1]
          exact ih (i + 1) (by omega) h1 h0
        · rw [decide_eq_true y, if_pos rfl] at h0
          exact h0 (by omega)
  exact key m 0 (by omega) h1 h0
noncomputable def wb (v : VT) (c : CT) (p : Nat) (T : Nat → Nat) (m : Nat) : Nat → Int32
  | 0 => 0
  | i + 1 => if mist (fl c (fillV v p 0 i)).1 T m = m then wb v c p T m i ||| (1 <<< (nI i &&& 31)) else wb v c p T m i
theorem st_which (a : Int32) : stI RelS y_GF_which y_MO_which [sI a] := by
  refine stI_mk (fun σx σm v c n L m T rf im ok hx hm => ?_)
  have wc := ok.wc
  have w := ok.wv
  obtain ⟨o1, o2, o3, o4, o5, o6, o7⟩ := id ok
  have h20 := w.2.1
  by_cases hp0 : findV v a < v.1
  · obtain ⟨p, ep⟩ : ∃ p, findV v a = p := ⟨_, rfl⟩
    have hp := hp0
    rw [ep] at hp
    have hnp : ¬ nI p < 0 := nI_pos (by omega)
    have w2 : ∀ x, x ≤ 99 → WFV (fillV v p 0 x) := fun x h9 => w.fill hp (by omega) (fun _ => h9) (fun z => absurd rfl z)
    refine ⟨wb v c p T m 16, v, c, n, L, m, T, rf, im, ok, fun k hk => ?_, fun k hk => ?_⟩
    · refine s_GF_which_0 LX 299 0 _ σx (rI k) (X_find 298 w hx a _ (fun _ => ?_) (fun z => absurd hp0 z))
      rw [ep]
      refine ⟨fun _ => X_take 297 w hx _ (fun σ1 a1 a2 _ => ?_), fun z => absurd z hnp⟩
      have key : ∀ r i τ, i + r = 16 → AX τ v c n L m T rf im → TRV τ v p → Jd LX 300 y_GF_which 35 [(0, sR 0 (.inl 5)), (2, sI (nI p)), (3, sI (wb v c p T m i)), (4, sI (nI i))] [] τ (rI k) := by
        intro r
        induction r with
        | zero =>
          intro i τ hi hxx htv
          have : i = 16 := by omega
          subst this
          exact s_GF_which_35 LX 299 0 _ _ _ τ (rI k) ⟨fun _ => hk _ hxx, fun z => absurd z (by decide)⟩
        | succ r ih =>
          intro i τ hi hxx htv
          have e : wb v c p T m (i + 1) = if mist (fl c (fillV v p 0 i)).1 T m = m then wb v c p T m i ||| (1 <<< (nI i &&& 31)) else wb v c p T m i := rfl
          refine s_GF_which_35 LX 299 0 _ _ _ τ (rI k) ⟨fun z => ?_, fun _ => ?_⟩
          · rw [lit 16, i32_lt (by omega) (by omega)] at z; omega
          · refine X_with 299 (by omega) w wc hxx hp htv (by omega) _ (fun τ2 g1 g2 g3 => ?_)
            have hl := fl_len wc (w2 i (by omega))
            have nx := ih (i + 1) τ2 (by omega) g2 g3
            have hml := mist_le (fl c (fillV v p 0 i)).1 T m
            refine X_mistold 297 g2 o5 o6 g1 (by omega) (fl_ok wc (w2 i (by omega))) _ ?_
            rw [g2.2.2.2.2.1, i32_eq (by omega) (by omega)]
            refine ⟨fun z => ?_, fun z => ?_⟩
            · refine s_GF_which_83 LX 299 0 _ _ _ τ2 (rI k) ?_
              rw [e, if_neg z] at nx
              rw [nI_s1]; exact nx
            · refine s_GF_which_83 LX 299 0 _ _ _ τ2 (rI k) ?_
              rw [e, if_pos z] at nx
              rw [nI_s1]; exact nx
      exact key 16 0 σ1 (by omega) a2 ⟨v, a1, w, hp, fun _ => rfl⟩
    · refine s_MO_which_0 LM 299 0 _ σm (rI k) (M_find 299 w hm a _ (fun _ => ?_) (fun z => absurd hp0 z))
      rw [ep]
      refine ⟨fun _ => ?_, fun z => absurd z hnp⟩
      have key : ∀ r i τ, i + r = 16 → AM τ v c n L m T rf im → Jd LM 300 y_MO_which 21 [(0, sR 0 (.inl 6)), (2, sI (nI p)), (3, sI (wb v c p T m i)), (4, sI (nI i))] [] τ (rI k) := by
        intro r
        induction r with
        | zero =>
          intro i τ hi hmm
          have : i = 16 := by omega
          subst this
          exact s_MO_which_21 LM 299 0 _ _ _ τ (rI k) ⟨fun _ => hk _ hmm, fun z => absurd z (by decide)⟩
        | succ r ih =>
          intro i τ hi hmm
          have e : wb v c p T m (i + 1) = if mist (fl c (fillV v p 0 i)).1 T m = m then wb v c p T m i ||| (1 <<< (nI i &&& 31)) else wb v c p T m i := rfl
          refine s_MO_which_21 LM 299 0 _ _ _ τ (rI k) ⟨fun z => ?_, fun _ => ?_⟩
          · rw [lit 16, i32_lt (by omega) (by omega)] at z; omega
          · refine M_with 290 w wc hmm hp (show i ≤ 99 by omega) _ (fun τ2 g1 g2 => ?_)
            have hl := fl_len wc (w2 i (by omega))
            have nx := ih (i + 1) τ2 (by omega) g2
            refine M_coded 299 g2 o5 o6 g1 (by omega) (fl_ok wc (w2 i (by omega))) _ (fun z => ⟨fun y => absurd y (by decide), fun _ => ?_⟩) (fun z => ⟨fun _ => ?_, fun y => absurd rfl y⟩)
            · refine s_MO_which_52 LM 299 0 _ _ _ _ τ2 (rI k) ?_
              rw [e, if_pos z] at nx
              rw [nI_s1]; exact nx
            · refine s_MO_which_52 LM 299 0 _ _ _ _ τ2 (rI k) ?_
              rw [e, if_neg z] at nx
              rw [nI_s1, Int32.or_zero]; exact nx
      exact key 16 0 σm (by omega) hm
  · refine ⟨-1, v, c, n, L, m, T, rfU rf 1, im, ok, fun k hk => ?_, fun k hk => ?_⟩
    · refine s_GF_which_0 LX 299 0 _ σx (rI k) ?_
      exact X_find 298 w hx a _ (fun z => absurd z hp0) (fun _ => ⟨fun z => absurd (by decide) z, fun _ => X_refuse 298 hx (-1) 1 rfl (by omega) _ hk⟩)
    · refine s_MO_which_0 LM 299 0 _ σm (rI k) ?_
      exact M_find 299 w hm a _ (fun z => absurd z hp0) (fun _ => ⟨fun z => absurd (by decide) z, fun _ => M_no 299 wc hm (-1) 1 rfl (by omega) _ hk⟩)
/-- the row is empty -/
theorem AX.norow {σ : sS} {v : VT} {c : CT} {n : Nat} {L : Nat → Nat} {m : Nat} {T : Nat → Nat} {rf : Nat → Int32} {im : Option (VT × CT)} (h : AX σ v c n L m T rf im) : AX (up σ 0 8 0) v c n L 0 T rf im := by
  obtain ⟨h1, h2, h3, h4, h5, h6, h7, h8, h9⟩ := h
  have u : ∀ y, y ≠ 0 → (up σ 0 8 0) y = σ y := fun y a => up_cell _ _ a
  have u0 : ∀ i, i ≠ 8 → (up σ 0 8 0) 0 i = σ 0 i := fun i hi => up_other _ _ (Or.inr hi)
  refine ⟨h1.kept (fun y a b => u y (by omega)), h2.kept (fun y a b => u y (by omega)), by rw [u0 6 (by omega)]; exact h3, fun i hi => by rw [u 64 (by omega)]; exact h4 i hi, by rw [up_self]; rfl, fun i hi => absurd hi (Nat.not_lt_zero _), fun i hi => by rw [u 66 (by omega)]; exact h7 i hi, fun e => by rw [u0 12 (by omega)]; exact h8 e, fun v' c' e => ?_⟩
  obtain ⟨a1, a2, a3⟩ := h9 v' c' e
  exact ⟨by rw [u0 12 (by omega)]; exact a1, a2.kept (fun y a b => u y (by omega)), a3.kept (fun y a b => u y (by omega))⟩
theorem AM.norow {σ : sS} {v : VT} {c : CT} {n : Nat} {L : Nat → Nat} {m : Nat} {T : Nat → Nat} {rf : Nat → Int32} {im : Option (VT × CT)} (wc : WFC c) (h : AM σ v c n L m T rf im) : AM (up σ 0 52 0) v c n L 0 T rf im := by
  obtain ⟨h1, h2, h3, h4, h5, h6, h7, h8, h9⟩ := h
  have u : ∀ y, y ≠ 0 → (up σ 0 52 0) y = σ y := fun y a => up_cell _ _ a
  have u0 : ∀ i, i ≠ 52 → (up σ 0 52 0) 0 i = σ 0 i := fun i hi => up_other _ _ (Or.inr hi)
  refine ⟨h1.kept (u0 6 (by omega)) (fun y a b => u y (by omega)), h2.kept wc (fun i a b => u0 i (by omega)) (fun y a b => u y (by omega)), by rw [u0 42 (by omega)]; exact h3, fun i hi => by rw [u 29 (by omega)]; exact h4 i hi, by rw [up_self]; rfl, fun i hi => absurd hi (Nat.not_lt_zero _), fun i hi => by rw [u 1 (by omega)]; exact h7 i hi, fun e => by rw [u0 48 (by omega)]; exact h8 e, fun v' c' e => ?_⟩
  obtain ⟨a1, ⟨R, a2, a4⟩, R2, a3, a5⟩ := h9 v' c' e
  exact ⟨by rw [u0 48 (by omega)]; exact a1, ⟨R, a2.same (fun j _ hj => by rw [u 35 (by omega)]), a4⟩, R2, a3.same (fun j _ hj => by rw [u 35 (by omega)]), a5⟩
theorem st_judge : stI RelS y_GF_judge y_MO_judge [] := by
  refine stI_mk (fun σx σm v c n L m T rf im ok hx hm => ?_)
  have wc := ok.wc
  have w := ok.wv
  obtain ⟨o1, o2, o3, o4, o5, o6, o7⟩ := id ok
  have hl := fl_len wc w
  have hok := fl_ok wc w
  obtain ⟨F, eF⟩ : ∃ F, (fl c v).1 = F := ⟨_, rfl⟩
  rw [eF] at hl hok
  have hml := mist_le F T m
  have hmF : mist F T m ≤ F.length := by
    rcases Nat.lt_or_ge F.length (mist F T m) with z | z
    · have := fst_no (mP F T) m 0 F.length (Nat.zero_le _) z
      rw [mP_none (Nat.le_refl _)] at this
      cases this
    · exact z
  refine ⟨if mist F T m < m then nI (mist F T m) else if m < F.length then nI m else -9, v, c, n, L, 0, T, rf, im, ⟨o1, o2, o3, o4, by omega, fun i hi => absurd hi (Nat.not_lt_zero _), o7⟩, fun k hk => ?_, fun k hk => ?_⟩
  · refine s_GF_judge_0 LX 299 0 σx (rI k) (X_gather 299 (by omega) w wc hx _ (fun σ' g1 g2 g3 => ?_))
    rw [eF] at g1 ⊢
    refine X_mistold 297 g2 o5 o6 g1 (by omega) hok _ ?_
    rw [g2.2.2.2.2.1, i32_eq (by omega) (by omega)]
    have go34 : (mist F T m < m ∨ mist F T m ≠ F.length) → Jd LX 300 y_GF_judge 34 [(0, sR 0 (.inl 5)), (2, sI (nI (mist F T m)))] [] σ' (rI k) := by
      intro z
      refine s_GF_judge_34 LX 299 0 _ σ' (rI k) ?_
      refine s_GF_judge_35 LX 299 0 _ _ σ' (rI k) ⟨fun _ => ?_, fun y => absurd rfl y⟩
      by_cases y : mist F T m < m
      · rw [if_pos y] at hk
        exact hk _ g2.norow
      · have e : mist F T m = m := by omega
        rw [if_neg y, if_pos (by omega)] at hk
        rw [e]
        exact hk _ g2.norow
    refine ⟨fun z => go34 (Or.inl (by omega)), fun z => ?_⟩
    rw [i32_eq (by omega) (by omega)]
    refine ⟨fun y => go34 (Or.inr y), fun y => ?_⟩
    refine s_GF_judge_35 LX 299 0 _ _ σ' (rI k) ⟨fun u => absurd u (by decide), fun _ => ?_⟩
    rw [if_neg (by omega), if_neg (by omega)] at hk
    exact hk _ g2.norow
  · have h52 := hm.2.2.2.2.1
    have h36 := hm.2.2.2.2.2.1
    refine s_MO_judge_0 LM 299 0 σm (rI k) ?_
    rw [h52]
    refine M_finds 292 w wc (hm.norow wc) _ (fun σ' g1 g2 g3 => ?_)
    rw [eF] at g1
    have r36 : ∀ i, i < m → σ' 36 i = nI (T i) := fun i hi => by rw [g3.1 36 (by omega) (by omega), up_cell _ _ (by omega)]; exact h36 i hi
    have key : ∀ r i, i + r = m → (∀ σ'', AM σ'' v c n L 0 T rf im → k (if fst_ (mP F T) r i < m then nI (fst_ (mP F T) r i) else if m < F.length then nI m else -9) σ'') → Jd LM 300 y_MO_judge 16 [(0, sR 0 (.inl 6)), (1, sI (nI m)), (2, sI (nI i))] [] σ' (rI k) := by
      intro r
      induction r with
      | zero =>
        intro i hi hk
        have ei : i = m := by omega
        subst ei
        have e0 : fst_ (mP F T) 0 i = i := rfl
        rw [e0, if_neg (Nat.lt_irrefl _)] at hk
        refine s_MO_judge_16 LM 299 0 _ _ σ' (rI k) ⟨fun _ => ⟨fun y => ?_, fun y => ?_⟩, fun z => ?_⟩
        · rw [g1.1, i32_lt (by omega) (by omega)] at y
          rw [if_neg y] at hk; exact hk _ g2
        · rw [g1.1, i32_lt (by omega) (by omega)] at y
          rw [if_pos y] at hk; exact hk _ g2
        · rw [i32_lt (by omega) (by omega)] at z; omega
      | succ r ih =>
        intro i hi hk
        have hTi := o6 i (by omega)
        rw [fst_suc] at hk
        refine s_MO_judge_16 LM 299 0 _ _ σ' (rI k) ⟨fun z => ?_, fun _ => ⟨fun z => ?_, fun z => ?_⟩⟩
        · rw [i32_lt (by omega) (by omega)] at z; omega
        · rw [g1.1, i32_lt (by omega) (by omega)] at z
          rw [mP_none (by omega), if_pos rfl, if_pos (by omega)] at hk
          exact hk _ g2
        · rw [g1.1, i32_lt (by omega) (by omega)] at z
          obtain ⟨x, x1, x2⟩ := at_some z
          have hxb := hok x x2
          rw [mP_some x1] at hk
          refine ⟨vinI (by omega) (by omega), vinI (by omega) (by omega), ?_⟩
          rw [cl_nI (by omega), show σ' (0 + 21) i = _ from (g1.2.2 i x x1).2, show σ' (0 + 36) i = _ from r36 i (by omega), i32_eq (by omega) (by omega)]
          refine ⟨fun y => ?_, fun y => ?_⟩
          · rw [decide_eq_false (fun z => z y), if_neg (show ¬ false = true by decide)] at hk
            rw [nI_s1]
            exact ih (i + 1) (by omega) hk
          · rw [decide_eq_true y, if_pos (show true = true from rfl), if_pos (by omega)] at hk
            exact hk _ g2
    exact key m 0 (by omega) hk
theorem st_count (a : Int32) : stI RelS y_GF_count y_MO_count [sI a] := by
  refine stI_mk (fun σx σm v c n L m T rf im ok hx hm => ?_)
  have wc := ok.wc
  have w := ok.wv
  have h20 := w.2.1
  have x7 := hx.2.2.2.2.2.2.1
  have m7 := hm.2.2.2.2.2.2.1
  -- none of the small ones
  have big : (¬ a = 0 ∧ ¬ a = 1 ∧ ¬ a = 2 ∧ ¬ a = 3 ∧ ¬ a = 4 ∧ ¬ a = 5 ∧ ¬ a = 6 ∧ ¬ a = 7) → ∀ r : Int32, (∀ k : Int32 → sS → Prop, k r σx → ((a < 11 → (rI k) (some (sI (-9))) σx) ∧ (¬ a < 11 → (((16 : Int32) < a → (rI k) (some (sI (-9))) σx) ∧ (¬ (16 : Int32) < a → (rI k) (some (sI (rd σx (0 + 66) 7 (a - 10)))) σx))))) → (∀ k : Int32 → sS → Prop, k r σm → ((iIn a 11 16) = 0 → k (-9) σm) ∧ (¬ (iIn a 11 16) = 0 → (vp_in (a - 10) 7 ∧ (rI k) (some (sI (σm (0 + 1) (Int32.toNatClampNeg (a - 10))))) σm))) → OUT y_GF_count y_MO_count [sI a] σx σm := by
    rintro ⟨n0, n1, n2, n3, n4, n5, n6, n7⟩ r gx gm
    refine ⟨r, v, c, n, L, m, T, rf, im, ok, fun k hk => ?_, fun k hk => ?_⟩
    · exact s_GF_count_0 LX 299 0 _ σx (rI k) ⟨fun z => absurd z n0, fun _ => ⟨fun z => absurd z n1, fun _ => ⟨fun z => absurd z n2, fun _ => ⟨fun z => absurd z n3, fun _ => ⟨fun z => absurd z n4, fun _ => ⟨fun z => absurd z n5, fun _ => ⟨fun z => absurd z n6, fun _ => ⟨fun z => absurd z n7, fun _ => gx k (hk _ hx)⟩⟩⟩⟩⟩⟩⟩⟩
    · obtain ⟨g0, g1⟩ := gm k (hk _ hm)
      exact s_MO_count_0 LM 299 0 _ σm (rI k) ⟨fun e => ⟨fun z => absurd z n0, fun _ => ⟨fun z => absurd z n1, fun _ => ⟨fun z => absurd z n2, fun _ => ⟨fun z => absurd z n3, fun _ => ⟨fun z => absurd z n4, fun _ => ⟨fun z => absurd z n5, fun _ => ⟨fun z => absurd z n6, fun _ => ⟨fun z => absurd z n7, fun _ => g0 e⟩⟩⟩⟩⟩⟩⟩⟩, g1⟩
  by_cases h0 : a < 0
  · have ne : ∀ j : Nat, j < 2 ^ 31 → ¬ a = nI j := fun j hj e => by rw [e] at h0; exact absurd h0 (nI_pos hj)
    have ei : iIn a 11 16 = 0 := iIn_neg (lo := 11) h0 (by omega)
    refine big ⟨ne 0 (by omega), ne 1 (by omega), ne 2 (by omega), ne 3 (by omega), ne 4 (by omega), ne 5 (by omega), ne 6 (by omega), ne 7 (by omega)⟩ (-9) (fun k hk => ⟨fun _ => hk, fun z => absurd (neg_lt (n := 11) h0 (by omega)) z⟩) (fun k hk => ⟨fun _ => hk, fun z => absurd ei z⟩)
  · obtain ⟨x, hxb, rfl⟩ := i32_nI h0
    have ei : iIn (nI x) 11 16 = if x < 11 then 0 else if 16 < x then 0 else 1 := iIn_nI (lo := 11) (hi := 16) hxb (by omega) (by omega)
    have c11 : nI x < 11 ↔ x < 11 := i32_lt (b := 11) hxb (by omega)
    have c16 : (16 : Int32) < nI x ↔ 16 < x := i32_lt (a := 16) (by omega) hxb
    by_cases h8 : x < 8
    · rw [if_pos (by omega)] at ei
      have eq := fun j (hj : j < 2 ^ 31) => z_eq hxb j hj
      -- one of the small ones
      rcases (show x = 0 ∨ x = 1 ∨ x = 2 ∨ x = 3 ∨ x = 4 ∨ x = 5 ∨ x = 6 ∨ x = 7 by omega) with rfl | rfl | rfl | rfl | rfl | rfl | rfl | rfl
      · refine ⟨nI v.1, v, c, n, L, m, T, rf, im, ok, fun k hk => ?_, fun k hk => ?_⟩
        · refine s_GF_count_0 LX 299 0 _ σx (rI k) ⟨fun _ => ?_, fun z => absurd rfl z⟩
          rw [show σx (0 + 1) 6 = nI v.1 from hx.1.1]; exact hk _ hx
        · refine s_MO_count_0 LM 299 0 _ σm (rI k) ⟨fun _ => ⟨fun _ => ?_, fun z => absurd rfl z⟩, fun z => absurd ei z⟩
          rw [show σm 0 6 = nI v.1 from hm.1.1]; exact hk _ hm
      · refine ⟨nI (cM c), v, c, n, L, m, T, rf, im, ok, fun k hk => ?_, fun k hk => ?_⟩
        · refine s_GF_count_0 LX 299 0 _ σx (rI k) ⟨fun z => absurd z (by decide), fun _ => ⟨fun _ => ?_, fun z => absurd rfl z⟩⟩
          rw [show σx (0 + 16) 13 = nI (cM c) from hx.2.1.1]; exact hk _ hx
        · refine s_MO_count_0 LM 299 0 _ σm (rI k) ⟨fun _ => ⟨fun z => absurd z (by decide), fun _ => ⟨fun _ => ?_, fun z => absurd rfl z⟩⟩, fun z => absurd ei z⟩
          rw [show σm 0 20 = nI (cM c) from hm.2.1.1]; exact hk _ hm
      · refine ⟨nI (fl c v).1.length, v, c, n, L, m, T, rf, im, ok, fun k hk => ?_, fun k hk => ?_⟩
        · exact s_GF_count_0 LX 299 0 _ σx (rI k) ⟨fun z => absurd z (by decide), fun _ => ⟨fun z => absurd z (by decide), fun _ => ⟨fun _ => X_gather 299 (by omega) w wc hx _ (fun σ' g1 g2 g3 => hk _ g2), fun z => absurd rfl z⟩⟩⟩
        · exact s_MO_count_0 LM 299 0 _ σm (rI k) ⟨fun _ => ⟨fun z => absurd z (by decide), fun _ => ⟨fun z => absurd z (by decide), fun _ => ⟨fun _ => M_many 291 w wc hm _ (fun σ' g1 g2 g3 => hk _ g2), fun z => absurd rfl z⟩⟩⟩, fun z => absurd ei z⟩
      · refine ⟨nI (cntN v v.1), v, c, n, L, m, T, rf, im, ok, fun k hk => ?_, fun k hk => ?_⟩
        · exact s_GF_count_0 LX 299 0 _ σx (rI k) ⟨fun z => absurd z (by decide), fun _ => ⟨fun z => absurd z (by decide), fun _ => ⟨fun z => absurd z (by decide), fun _ => ⟨fun _ => X_numbers 298 w hx.1 _ (hk _ hx), fun z => absurd rfl z⟩⟩⟩⟩
        · refine s_MO_count_0 LM 299 0 _ σm (rI k) ⟨fun _ => ⟨fun z => absurd z (by decide), fun _ => ⟨fun z => absurd z (by decide), fun _ => ⟨fun z => absurd z (by decide), fun _ => ⟨fun _ => M_numbers 299 w hm.1 20 (by omega) _ ?_, fun z => absurd rfl z⟩⟩⟩⟩, fun z => absurd ei z⟩
          have hc := cntN_le v v.1
          have e : (if cntN v v.1 < 20 then cntN v v.1 else 20) = cntN v v.1 := by split <;> omega
          rw [e]
          exact hk _ hm
      · refine ⟨nI (maxP v v.1), v, c, n, L, m, T, rf, im, ok, fun k hk => ?_, fun k hk => ?_⟩
        · exact s_GF_count_0 LX 299 0 _ σx (rI k) ⟨fun z => absurd z (by decide), fun _ => ⟨fun z => absurd z (by decide), fun _ => ⟨fun z => absurd z (by decide), fun _ => ⟨fun z => absurd z (by decide), fun _ => ⟨fun _ => X_greatest 298 w hx.1 _ (hk _ hx), fun z => absurd rfl z⟩⟩⟩⟩⟩
        · exact s_MO_count_0 LM 299 0 _ σm (rI k) ⟨fun _ => ⟨fun z => absurd z (by decide), fun _ => ⟨fun z => absurd z (by decide), fun _ => ⟨fun z => absurd z (by decide), fun _ => ⟨fun z => absurd z (by decide), fun _ => ⟨fun _ => M_greatest 299 w hm.1 _ (hk _ hm), fun z => absurd rfl z⟩⟩⟩⟩⟩, fun z => absurd ei z⟩
      · refine ⟨nI (fl c v).2, v, c, n, L, m, T, rf, im, ok, fun k hk => ?_, fun k hk => ?_⟩
        · refine s_GF_count_0 LX 299 0 _ σx (rI k) ⟨fun z => absurd z (by decide), fun _ => ⟨fun z => absurd z (by decide), fun _ => ⟨fun z => absurd z (by decide), fun _ => ⟨fun z => absurd z (by decide), fun _ => ⟨fun z => absurd z (by decide), fun _ => ⟨fun _ => X_gather 299 (by omega) w wc hx _ (fun σ' g1 g2 g3 => ?_), fun z => absurd rfl z⟩⟩⟩⟩⟩⟩
          rw [show σ' (0 + 15) 4 = _ from g1.2.1]; exact hk _ g2
        · refine s_MO_count_0 LM 299 0 _ σm (rI k) ⟨fun _ => ⟨fun z => absurd z (by decide), fun _ => ⟨fun z => absurd z (by decide), fun _ => ⟨fun z => absurd z (by decide), fun _ => ⟨fun z => absurd z (by decide), fun _ => ⟨fun z => absurd z (by decide), fun _ => ⟨fun _ => s_MO_waits_0 LM 298 0 σm (rI _) (M_finds 291 w wc hm _ (fun σ' g1 g2 g3 => ?_)), fun z => absurd rfl z⟩⟩⟩⟩⟩⟩, fun z => absurd ei z⟩
          rw [g1.2.1]; exact hk _ g2
      · refine ⟨nI m, v, c, n, L, m, T, rf, im, ok, fun k hk => ?_, fun k hk => ?_⟩
        · refine s_GF_count_0 LX 299 0 _ σx (rI k) ⟨fun z => absurd z (by decide), fun _ => ⟨fun z => absurd z (by decide), fun _ => ⟨fun z => absurd z (by decide), fun _ => ⟨fun z => absurd z (by decide), fun _ => ⟨fun z => absurd z (by decide), fun _ => ⟨fun z => absurd z (by decide), fun _ => ⟨fun _ => ?_, fun z => absurd rfl z⟩⟩⟩⟩⟩⟩⟩
          rw [hx.2.2.2.2.1]; exact hk _ hx
        · refine s_MO_count_0 LM 299 0 _ σm (rI k) ⟨fun _ => ⟨fun z => absurd z (by decide), fun _ => ⟨fun z => absurd z (by decide), fun _ => ⟨fun z => absurd z (by decide), fun _ => ⟨fun z => absurd z (by decide), fun _ => ⟨fun z => absurd z (by decide), fun _ => ⟨fun z => absurd z (by decide), fun _ => ⟨fun _ => ?_, fun z => absurd rfl z⟩⟩⟩⟩⟩⟩⟩, fun z => absurd ei z⟩
          rw [hm.2.2.2.2.1]; exact hk _ hm
      · refine ⟨nI n, v, c, n, L, m, T, rf, im, ok, fun k hk => ?_, fun k hk => ?_⟩
        · refine s_GF_count_0 LX 299 0 _ σx (rI k) ⟨fun z => absurd z (by decide), fun _ => ⟨fun z => absurd z (by decide), fun _ => ⟨fun z => absurd z (by decide), fun _ => ⟨fun z => absurd z (by decide), fun _ => ⟨fun z => absurd z (by decide), fun _ => ⟨fun z => absurd z (by decide), fun _ => ⟨fun z => absurd z (by decide), fun _ => ⟨fun _ => ?_, fun z => absurd rfl z⟩⟩⟩⟩⟩⟩⟩⟩
          rw [hx.2.2.1]; exact hk _ hx
        · refine s_MO_count_0 LM 299 0 _ σm (rI k) ⟨fun _ => ⟨fun z => absurd z (by decide), fun _ => ⟨fun z => absurd z (by decide), fun _ => ⟨fun z => absurd z (by decide), fun _ => ⟨fun z => absurd z (by decide), fun _ => ⟨fun z => absurd z (by decide), fun _ => ⟨fun z => absurd z (by decide), fun _ => ⟨fun z => absurd z (by decide), fun _ => ⟨fun _ => ?_, fun z => absurd rfl z⟩⟩⟩⟩⟩⟩⟩⟩, fun z => absurd ei z⟩
          rw [hm.2.2.1]; exact hk _ hm
    · have ne : ∀ j : Nat, j < 8 → ¬ nI x = nI j := fun j hj e => by have := nI_inj' e hxb (by omega); omega
      have small := big ⟨ne 0 (by omega), ne 1 (by omega), ne 2 (by omega), ne 3 (by omega), ne 4 (by omega), ne 5 (by omega), ne 6 (by omega), ne 7 (by omega)⟩
      by_cases h11 : x < 11
      · rw [if_pos h11] at ei
        exact small (-9) (fun k hk => ⟨fun _ => hk, fun z => absurd (c11.mpr h11) z⟩) (fun k hk => ⟨fun _ => hk, fun z => absurd ei z⟩)
      · rw [if_neg h11] at ei
        by_cases h16 : 16 < x
        · rw [if_pos h16] at ei
          exact small (-9) (fun k hk => ⟨fun z => absurd (c11.mp z) h11, fun _ => ⟨fun _ => hk, fun z => absurd (c16.mpr h16) z⟩⟩) (fun k hk => ⟨fun _ => hk, fun z => absurd ei z⟩)
        · rw [if_neg h16] at ei
          have e10 : nI x - 10 = nI (x - 10) := nI_subm (a := x) (b := 10) (by omega)
          refine small (rf (x - 10)) (fun k hk => ⟨fun z => absurd (c11.mp z) h11, fun _ => ⟨fun z => absurd (c16.mp z) h16, fun _ => ?_⟩⟩) (fun k hk => ⟨fun z => absurd z (by rw [ei]; decide), fun _ => ⟨?_, ?_⟩⟩)
          · rw [e10, rd_nI (by omega) (by omega), show σx (0 + 66) (x - 10) = _ from x7 (x - 10) (by omega)]
            exact hk
          · rw [e10]; exact vinI (by omega) (by omega)
          · rw [e10, cl_nI (by omega), show σm (0 + 1) (x - 10) = _ from m7 (x - 10) (by omega)]
            exact hk
