/-! told letters, the image -/
theorem stI_mk2 {yx ym : sY} {as : List sv} (h : ∀ σx σm v c n L m T rf im, OKS v c n L m T im → AX σx v c n L m T rf im → AM σm v c n L m T rf im → ∃ (r : Int32), ∃ v' c' n' L' m' T' rf' im', (∀ k : Int32 → sS → Prop, (∀ σ', OKS v' c' n' L' m' T' im' → AX σ' v' c' n' L' m' T' rf' im' → k r σ') → CJ LX 300 yx (sR 0 (.inl 5) :: as) σx (rI k)) ∧ (∀ k : Int32 → sS → Prop, (∀ σ', AM σ' v' c' n' L' m' T' rf' im' → k r σ') → CJ LM 300 ym (sR 0 (.inl 6) :: as) σm (rI k))) : stI RelS yx ym as := by
  rintro σx σm ⟨v, c, n, L, m, T, rf, im, ok, hx, hm⟩
  obtain ⟨r, v', c', n', L', m', T', rf', im', h1, h2⟩ := h σx σm v c n L m T rf im ok hx hm
  exact ⟨r, fun σ => OKS v' c' n' L' m' T' im' ∧ AX σ v' c' n' L' m' T' rf' im', fun σ => AM σ v' c' n' L' m' T' rf' im', h1 _ (fun σ' o g => ⟨rfl, o, g⟩), h2 _ (fun σ' g => ⟨rfl, g⟩), fun σ σ' p q => ⟨v', c', n', L', m', T', rf', im', p.1, p.2, q⟩⟩
theorem st_value : stI RelS y_GF_value y_MO_value [] := by
  refine stI_mk2 (fun σx σm v c n L m T rf im ok hx hm => ?_)
  have wc := ok.wc
  have w := ok.wv
  obtain ⟨o1, o2, o3, o4, o5, o6, o7⟩ := id ok
  have hLx : ∀ i, i < n → σx 64 i = nI (L i) ∧ L i < 256 := fun i hi => ⟨hx.2.2.2.1 i hi, o4 i hi⟩
  have hLm : ∀ i, i < n → σm 29 i = nI (L i) ∧ L i < 256 := fun i hi => ⟨hm.2.2.2.1 i hi, o4 i hi⟩
  -- what else stays
  have keepX : ∀ {σ' : sS} {v' : VT}, XV σ' 1 v' → σ' 0 6 = 0 → (∀ i, i ≠ 6 → σ' 0 i = σx 0 i) → (∀ x, 8 ≤ x → (x < 38 ∨ 47 ≤ x) → σ' x = σx x) → AX σ' v' c 0 L m T rf im := by
    intro σ' v' g1 g6 g0 gx
    obtain ⟨h1, h2, h3, h4, h5, h6, h7, h8, h9⟩ := hx
    refine ⟨g1, h2.kept (fun y a b => gx y (by omega) (by omega)), by rw [g6]; rfl, fun i hi => absurd hi (Nat.not_lt_zero _), by rw [g0 8 (by omega)]; exact h5, fun i hi => by rw [gx 65 (by omega) (by omega)]; exact h6 i hi, fun i hi => by rw [gx 66 (by omega) (by omega)]; exact h7 i hi, fun e => by rw [g0 12 (by omega)]; exact h8 e, fun v' c' e => ?_⟩
    obtain ⟨a1, a2, a3⟩ := h9 v' c' e
    exact ⟨by rw [g0 12 (by omega)]; exact a1, a2.kept (fun y a b => gx y (by omega) (by omega)), a3.kept (fun y a b => gx y (by omega) (by omega))⟩
  have keepM : ∀ {σ' : sS} {v' : VT}, MV σ' v' → mFr σm σ' → (∀ c, 7 ≤ c → c < 20 → σ' c = σm c) → (∀ i, 20 ≤ i → i < 23 → σ' 0 i = σm 0 i) → AM σ' v' c 0 L m T rf im := by
    intro σ' v' g1 g2 g3 g4
    obtain ⟨h1, h2, h3, h4, h5, h6, h7, h8, h9⟩ := hm
    obtain ⟨f1, f2, f3, f4⟩ := g2
    refine ⟨g1, h2.kept wc (fun i a b => g4 i a b) (fun y a b => g3 y a b), by rw [f4]; rfl, fun i hi => absurd hi (Nat.not_lt_zero _), by rw [f3 52 (by omega) (by omega) (by omega) (by omega) (by omega) (by omega)]; exact h5, fun i hi => by rw [f1 36 (by omega) (by omega) (by omega)]; exact h6 i hi, fun i hi => by rw [f1 1 (by omega) (by omega) (by omega)]; exact h7 i hi, fun e => by rw [f3 48 (by omega) (by omega) (by omega) (by omega) (by omega) (by omega)]; exact h8 e, fun v' c' e => ?_⟩
    obtain ⟨a1, ⟨R, a2, a4⟩, R2, a3, a5⟩ := h9 v' c' e
    exact ⟨by rw [f3 48 (by omega) (by omega) (by omega) (by omega) (by omega) (by omega)]; exact a1, ⟨R, a2.same (fun j _ hj => f2 j (by omega)), a4⟩, R2, a3.same (fun j _ hj => f2 j (by omega)), a5⟩
  cases hv : (vtold L n).2 with
  | none =>
    refine ⟨(vtold L n).1, v, c, 0, L, m, T, rf, im, fun k hk => ?_, fun k hk => ?_⟩
    · refine c_GF_value LX 293 n L o3 hx.2.2.1 hLx k (fun σ' _ g6 g0 gx => hk _ ⟨o1, o2, by omega, fun i hi => absurd hi (Nat.not_lt_zero _), o5, o6, o7⟩ ?_) (fun v' σ' z => absurd (hv.symm.trans z) (by simp))
      exact keepX (hx.1.kept (fun y a b => gx y (by omega) (by omega))) g6 g0 (fun x a b => gx x (by omega) b)
    · refine c_MO_value LM 293 n L o3 hm.2.2.1 hLm w hm.1 k (fun σ' _ g1 g2 g3 g4 => hk _ (keepM g1 g2 g3 g4)) (fun v' σ' z => absurd (hv.symm.trans z) (by simp))
  | some v2 =>
    refine ⟨(vtold L n).1, v2, c, 0, L, m, T, rf, im, fun k hk => ?_, fun k hk => ?_⟩
    · refine c_GF_value LX 293 n L o3 hx.2.2.1 hLx k (fun σ' z => absurd (hv.symm.trans z) (by simp)) (fun v' σ' z w' g1 g6 g0 gx => ?_)
      have e : v2 = v' := Option.some.inj (hv.symm.trans z)
      subst e
      exact hk _ ⟨w', o2, by omega, fun i hi => absurd hi (Nat.not_lt_zero _), o5, o6, o7⟩ (keepX g1 g6 g0 gx)
    · refine c_MO_value LM 293 n L o3 hm.2.2.1 hLm w hm.1 k (fun σ' z => absurd (hv.symm.trans z) (by simp)) (fun v' σ' z w' g1 g2 g3 g4 => hk _ ?_)
      have e : v2 = v' := Option.some.inj (hv.symm.trans z)
      subst e
      exact keepM g1 g2 g3 g4
theorem st_check : stI RelS y_GF_check y_MO_check [] := by
  refine stI_mk2 (fun σx σm v c n L m T rf im ok hx hm => ?_)
  have wc := ok.wc
  have w := ok.wv
  obtain ⟨o1, o2, o3, o4, o5, o6, o7⟩ := id ok
  have hLx : ∀ i, i < n → σx 64 i = nI (L i) ∧ L i < 256 := fun i hi => ⟨hx.2.2.2.1 i hi, o4 i hi⟩
  have hLm : ∀ i, i < n → σm 29 i = nI (L i) ∧ L i < 256 := fun i hi => ⟨hm.2.2.2.1 i hi, o4 i hi⟩
  -- what else stays
  have keepX : ∀ {σ' : sS} {c' : CT}, XC σ' 16 c' → σ' 0 6 = 0 → (∀ i, i ≠ 6 → σ' 0 i = σx 0 i) → (∀ x, x ≠ 0 → (x < 16 ∨ 30 ≤ x) → (x < 47 ∨ 64 ≤ x) → σ' x = σx x) → AX σ' v c' 0 L m T rf im := by
    intro σ' c' g1 g6 g0 gx
    obtain ⟨h1, h2, h3, h4, h5, h6, h7, h8, h9⟩ := hx
    refine ⟨h1.kept (fun y a b => gx y (by omega) (by omega) (by omega)), g1, by rw [g6]; rfl, fun i hi => absurd hi (Nat.not_lt_zero _), by rw [g0 8 (by omega)]; exact h5, fun i hi => by rw [gx 65 (by omega) (by omega) (by omega)]; exact h6 i hi, fun i hi => by rw [gx 66 (by omega) (by omega) (by omega)]; exact h7 i hi, fun e => by rw [g0 12 (by omega)]; exact h8 e, fun v' c' e => ?_⟩
    obtain ⟨a1, a2, a3⟩ := h9 v' c' e
    exact ⟨by rw [g0 12 (by omega)]; exact a1, a2.kept (fun y a b => gx y (by omega) (by omega) (by omega)), a3.kept (fun y a b => gx y (by omega) (by omega) (by omega))⟩
  have keepM : ∀ {σ' : sS} {c' : CT}, MC σ' c' → mFc σm σ' → AM σ' v c' 0 L m T rf im := by
    intro σ' c' g1 g2
    obtain ⟨h1, h2, h3, h4, h5, h6, h7, h8, h9⟩ := hm
    obtain ⟨f1, f2, f3, f4⟩ := g2
    refine ⟨h1.kept (f3 6 (by omega) (by omega) (by omega) (by omega) (by omega)) (fun y a b => f1 y (by omega) (by omega) (by omega)), g1, by rw [f4]; rfl, fun i hi => absurd hi (Nat.not_lt_zero _), by rw [f3 52 (by omega) (by omega) (by omega) (by omega) (by omega)]; exact h5, fun i hi => by rw [f1 36 (by omega) (by omega) (by omega)]; exact h6 i hi, fun i hi => by rw [f1 1 (by omega) (by omega) (by omega)]; exact h7 i hi, fun e => by rw [f3 48 (by omega) (by omega) (by omega) (by omega) (by omega)]; exact h8 e, fun v' c' e => ?_⟩
    obtain ⟨a1, ⟨R, a2, a4⟩, R2, a3, a5⟩ := h9 v' c' e
    exact ⟨by rw [f3 48 (by omega) (by omega) (by omega) (by omega) (by omega)]; exact a1, ⟨R, a2.same (fun j _ hj => f2 j (by omega)), a4⟩, R2, a3.same (fun j _ hj => f2 j (by omega)), a5⟩
  cases hv : (ctold L n).2 with
  | none =>
    refine ⟨(ctold L n).1, v, c, 0, L, m, T, rf, im, fun k hk => ?_, fun k hk => ?_⟩
    · refine c_GF_check LX 293 n L o3 hx.2.2.1 hLx k (fun σ' _ g6 g0 gx => hk _ ⟨o1, o2, by omega, fun i hi => absurd hi (Nat.not_lt_zero _), o5, o6, o7⟩ ?_) (fun v' σ' z => absurd (hv.symm.trans z) (by simp))
      exact keepX (hx.2.1.kept (fun y a b => gx y (by omega) (by omega))) g6 g0 (fun x a b c => gx x a c)
    · refine c_MO_check LM 293 n L o3 hm.2.2.1 hLm wc hm.2.1 k (fun σ' _ g1 g2 => hk _ (keepM g1 g2)) (fun v' σ' z => absurd (hv.symm.trans z) (by simp))
  | some c2 =>
    refine ⟨(ctold L n).1, v, c2, 0, L, m, T, rf, im, fun k hk => ?_, fun k hk => ?_⟩
    · refine c_GF_check LX 293 n L o3 hx.2.2.1 hLx k (fun σ' z => absurd (hv.symm.trans z) (by simp)) (fun v' σ' z w' g1 g6 g0 gx => ?_)
      have e : c2 = v' := Option.some.inj (hv.symm.trans z)
      subst e
      exact hk _ ⟨o1, w', by omega, fun i hi => absurd hi (Nat.not_lt_zero _), o5, o6, o7⟩ (keepX g1 g6 g0 gx)
    · refine c_MO_check LM 293 n L o3 hm.2.2.1 hLm wc hm.2.1 k (fun σ' z => absurd (hv.symm.trans z) (by simp)) (fun v' σ' z w' g1 g2 => hk _ ?_)
      have e : c2 = v' := Option.some.inj (hv.symm.trans z)
      subst e
      exact keepM g1 g2
theorem st_image : stI RelS y_GF_image y_MO_image [] := by
  refine stI_mk (fun σx σm v c n L m T rf im ok hx hm => ?_)
  have wc := ok.wc
  have w := ok.wv
  obtain ⟨o1, o2, o3, o4, o5, o6, o7⟩ := id ok
  refine ⟨nI v.1, v, c, n, L, m, T, rf, some (v, c), ⟨o1, o2, o3, o4, o5, o6, fun v' c' e => by cases e; exact ⟨o1, o2⟩⟩, fun k hk => ?_, fun k hk => ?_⟩
  · obtain ⟨h1, h2, h3, h4, h5, h6, h7, h8, h9⟩ := hx
    refine s_GF_image_0 LX 299 0 σx (rI k) ?_
    refine c_TR_take LX 297 67 1 (Or.inl (by omega)) w.2.1 h1 _ (fun σ1 a1 a2 => ?_)
    refine c_PL_take LX 297 74 16 (Or.inl (by omega)) wc (h2.kept (fun x a b => a2 x (by omega))) _ (fun σ2 b1 b2 => ⟨Or.inr rfl, ?_⟩)
    have g : ∀ x, x ≠ 0 → x < 67 → (up σ2 0 12 1) x = σx x := fun x a b => by rw [up_cell _ _ a, b2 x (by omega), a2 x (by omega)]
    have g0 : ∀ i, i ≠ 12 → (up σ2 0 12 1) 0 i = σx 0 i := fun i hi => by rw [up_other _ _ (Or.inr hi), b2 0 (by omega), a2 0 (by omega)]
    have x1 : (up σ2 0 12 1) (0 + 1) 6 = nI v.1 := by rw [g 1 (by omega) (by omega)]; exact h1.1
    rw [x1]
    refine hk _ ⟨h1.kept (fun x a b => g x (by omega) (by omega)), h2.kept (fun x a b => g x (by omega) (by omega)), by rw [g0 6 (by omega)]; exact h3, fun i hi => by rw [g 64 (by omega) (by omega)]; exact h4 i hi, by rw [g0 8 (by omega)]; exact h5, fun i hi => by rw [g 65 (by omega) (by omega)]; exact h6 i hi, fun i hi => by rw [g 66 (by omega) (by omega)]; exact h7 i hi, fun e => (by cases e), fun v' c' e => ?_⟩
    cases e
    exact ⟨up_self _ _ _ _, a1.kept (fun x a b => by rw [up_cell _ _ (by omega), b2 x (by omega)]), b1.kept (fun x a b => up_cell _ _ (by omega))⟩
  · obtain ⟨h1, h2, h3, h4, h5, h6, h7, h8, h9⟩ := hm
    refine s_MO_image_0 LM 299 0 σm (rI k) ⟨Or.inr rfl, ?_⟩
    have u : ∀ x, x ≠ 0 → (up σm 0 48 1) x = σm x := fun x a => up_cell _ _ a
    have u0 : ∀ i, i ≠ 48 → (up σm 0 48 1) 0 i = σm 0 i := fun i hi => up_other _ _ (Or.inr hi)
    refine c_MO_keepV LM 298 0 (by omega) _ (fun σ1 a1 a2 a3 a4 => ?_)
    refine c_MO_keepC LM 298 0 (by omega) _ (fun σ2 b1 b2 b3 b4 => ?_)
    have g : ∀ x, x ≠ 0 → x ≠ 35 → σ2 x = σm x := fun x a b => by rw [b4 x a b, a4 x a b, u x a]
    have g0 : ∀ i, i ≠ 48 → i ≠ 49 → i ≠ 50 → σ2 0 i = σm 0 i := fun i a b c => by rw [b3 i b c, a3 i b c, u0 i a]
    have x6 : σ2 0 6 = nI v.1 := by rw [g0 6 (by omega) (by omega) (by omega)]; exact h1.1
    rw [x6]
    refine hk _ ⟨h1.kept (g0 6 (by omega) (by omega) (by omega)) (fun x a b => g x (by omega) (by omega)), h2.kept wc (fun i a b => g0 i (by omega) (by omega) (by omega)) (fun x a b => g x (by omega) (by omega)), by rw [g0 42 (by omega) (by omega) (by omega)]; exact h3, fun i hi => by rw [g 29 (by omega) (by omega)]; exact h4 i hi, by rw [g0 52 (by omega) (by omega) (by omega)]; exact h5, fun i hi => by rw [g 36 (by omega) (by omega)]; exact h6 i hi, fun i hi => by rw [g 1 (by omega) (by omega)]; exact h7 i hi, fun e => (by cases e), fun v' c' e => ?_⟩
    cases e
    refine ⟨?_, ⟨_, KV.same (b := 0) a1 (fun j _ hj => b2 j (by omega)), ?_⟩, ⟨_, b1, ?_⟩⟩
    · rw [b3 48 (by omega) (by omega), a3 48 (by omega) (by omega), up_self]
    · exact h1.mb.kept (u0 6 (by omega)) (fun x a b => u x (by omega))
    · exact h2.kept wc (fun i a b => by rw [a3 i (by omega) (by omega), u0 i (by omega)]) (fun x a b => by rw [a4 x (by omega) (by omega), u x (by omega)])
theorem st_on : stI RelS y_GF_on y_MO_on [] := by
  refine stI_mk (fun σx σm v c n L m T rf im ok hx hm => ?_)
  have wc := ok.wc
  have w := ok.wv
  obtain ⟨o1, o2, o3, o4, o5, o6, o7⟩ := id ok
  cases im with
  | none =>
    refine ⟨-3, v, c, n, L, m, T, rfU rf 3, none, ok, fun k hk => ?_, fun k hk => ?_⟩
    · refine s_GF_on_0 LX 299 0 σx (rI k) ⟨fun z => absurd (hx.2.2.2.2.2.2.2.1 rfl) z, fun _ => X_refuse 298 hx (-3) 3 rfl (by omega) _ hk⟩
    · refine s_MO_on_0 LM 299 0 σm (rI k) ⟨fun z => absurd (hm.2.2.2.2.2.2.2.1 rfl) z, fun _ => M_no 299 wc hm (-3) 3 rfl (by omega) _ hk⟩
  | some q =>
    obtain ⟨v2, c2⟩ := q
    obtain ⟨w2, wc2⟩ := o7 v2 c2 rfl
    refine ⟨nI v2.1, v2, c2, n, L, m, T, rf, some (v2, c2), ⟨w2, wc2, o3, o4, o5, o6, o7⟩, fun k hk => ?_, fun k hk => ?_⟩
    · obtain ⟨h1, h2, h3, h4, h5, h6, h7, h8, h9⟩ := hx
      obtain ⟨a1, a2, a3⟩ := h9 v2 c2 rfl
      refine s_GF_on_0 LX 299 0 σx (rI k) ⟨fun _ => ?_, fun z => by rw [a1] at z; exact absurd z (by decide)⟩
      refine c_TR_take LX 297 1 67 (Or.inr (by omega)) w2.2.1 a2 _ (fun σ1 b1 b2 => ?_)
      refine c_PL_take LX 297 16 74 (Or.inr (by omega)) wc2 (a3.kept (fun x a b => b2 x (by omega))) _ (fun σ2 d1 d2 => ?_)
      have g : ∀ x, (x < 1 ∨ 8 ≤ x) → (x < 16 ∨ 30 ≤ x) → σ2 x = σx x := fun x a b => by rw [d2 x (by omega), b2 x (by omega)]
      have x1 : σ2 (0 + 1) 6 = nI v2.1 := by rw [d2 1 (by omega)]; exact b1.1
      rw [x1]
      refine hk _ ⟨b1.kept (fun x a b => d2 x (by omega)), d1, by rw [g 0 (by omega) (by omega)]; exact h3, fun i hi => by rw [g 64 (by omega) (by omega)]; exact h4 i hi, by rw [g 0 (by omega) (by omega)]; exact h5, fun i hi => by rw [g 65 (by omega) (by omega)]; exact h6 i hi, fun i hi => by rw [g 66 (by omega) (by omega)]; exact h7 i hi, fun e => (by cases e), fun v' c' e => ?_⟩
      cases e
      exact ⟨by rw [g 0 (by omega) (by omega)]; exact a1, a2.kept (fun x a b => g x (by omega) (by omega)), a3.kept (fun x a b => g x (by omega) (by omega))⟩
    · obtain ⟨h1, h2, h3, h4, h5, h6, h7, h8, h9⟩ := hm
      obtain ⟨a1, ⟨R, a2, a4⟩, R2, a3, a5⟩ := h9 v2 c2 rfl
      refine s_MO_on_0 LM 299 0 σm (rI k) ⟨fun _ => ?_, fun z => by rw [a1] at z; exact absurd z (by decide)⟩
      refine c_MO_loadV LM 296 0 (by omega) w2 (R := R) a2 a4 _ (fun σ1 b1 b2 b3 => ?_)
      refine c_MO_loadC LM 298 0 (by omega) (R := R2) (KC.same (b := 0) a3 (fun j _ hj => by rw [b3 35 (by omega) (by omega)])) _ (fun σ2 d1 d2 d3 d4 => ?_)
      have g : ∀ x, x ≠ 0 → (x < 2 ∨ 6 < x) → (x < 7 ∨ 19 < x) → σ2 x = σm x := fun x a b c => by rw [d4 x a c, b3 x a b]
      have g0 : ∀ i, i ≠ 6 → (i < 20 ∨ 23 ≤ i) → i ≠ 49 → i ≠ 50 → σ2 0 i = σm 0 i := fun i a b c d => by rw [d3 i b c d, b2 i a c d]
      have x6 : σ2 0 6 = nI v2.1 := by rw [d3 6 (by omega) (by omega) (by omega)]; exact b1.1
      rw [x6]
      refine hk _ ⟨b1.kept (d3 6 (by omega) (by omega) (by omega)) (fun x a b => d4 x (by omega) (by omega)), a5.on wc2 d2 d1, by rw [g0 42 (by omega) (by omega) (by omega) (by omega)]; exact h3, fun i hi => by rw [g 29 (by omega) (by omega) (by omega)]; exact h4 i hi, by rw [g0 52 (by omega) (by omega) (by omega) (by omega)]; exact h5, fun i hi => by rw [g 36 (by omega) (by omega) (by omega)]; exact h6 i hi, fun i hi => by rw [g 1 (by omega) (by omega) (by omega)]; exact h7 i hi, fun e => (by cases e), fun v' c' e => ?_⟩
      cases e
      exact ⟨by rw [g0 48 (by omega) (by omega) (by omega) (by omega)]; exact a1, ⟨R, a2.same (fun j _ _ => by rw [g 35 (by omega) (by omega) (by omega)]), a4⟩, R2, a3.same (fun j _ _ => by rw [g 35 (by omega) (by omega) (by omega)]), a5⟩
