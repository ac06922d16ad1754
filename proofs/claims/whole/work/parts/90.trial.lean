/-! what would be -/
theorem fill_fill {v : VT} (w : WFV v) {p : Nat} (hp : p < v.1) (k x k' x' : Nat) : fillV (fillV v p k x) p k' x' = fillV v p k' x' := by
  have hs := (w.2.2.1 p hp).1
  have e1 : (fillV v p k x).2 4 p = 1 := by
    show fS (v.2 4) p p = 1
    unfold fS
    simp only [mp_le (Nat.le_refl p)]
    rw [if_pos ⟨Nat.le_refl _, by omega⟩]
    omega
  have em : ∀ y, mp p (1 - 1) y = y := fun y => by
    unfold mp
    split <;> omega
  have e4 : ∀ y, (fillV v p k x).2 4 y = fS (v.2 4) p y := fun y => rfl
  refine Prod.ext ?_ (funext fun f => funext fun y => ?_)
  · show (fillV v p k x).1 - ((fillV v p k x).2 4 p - 1) = v.1 - (v.2 4 p - 1)
    rw [e1]
    rfl
  · match f with
    | 0 =>
      show (if y = p then k' else (fillV v p k x).2 0 (mp p ((fillV v p k x).2 4 p - 1) y)) = (if y = p then k' else v.2 0 (mp p (v.2 4 p - 1) y))
      rw [e1, em]
      by_cases e : y = p
      · rw [if_pos e, if_pos e]
      · rw [if_neg e, if_neg e]
        exact if_neg e
    | 1 =>
      show (if y = p then x' else (fillV v p k x).2 1 (mp p ((fillV v p k x).2 4 p - 1) y)) = (if y = p then x' else v.2 1 (mp p (v.2 4 p - 1) y))
      rw [e1, em]
      by_cases e : y = p
      · rw [if_pos e, if_pos e]
      · rw [if_neg e, if_neg e]
        exact if_neg e
    | 2 =>
      show (if y = p then 0 else (fillV v p k x).2 2 (mp p ((fillV v p k x).2 4 p - 1) y)) = (if y = p then 0 else v.2 2 (mp p (v.2 4 p - 1) y))
      rw [e1, em]
      by_cases e : y = p
      · rw [if_pos e, if_pos e]
      · rw [if_neg e, if_neg e]
        exact if_neg e
    | 4 =>
      show fS ((fillV v p k x).2 4) p y = fS (v.2 4) p y
      have : fS ((fillV v p k x).2 4) p y = (fillV v p k x).2 4 y := by
        unfold fS
        simp only [e1, em]
        split <;> rfl
      rw [this]
      rfl
    | 3 =>
      show (fillV v p k x).2 3 (mp p ((fillV v p k x).2 4 p - 1) y) = v.2 3 (mp p (v.2 4 p - 1) y)
      rw [e1, em]; rfl
    | f + 5 =>
      show (fillV v p k x).2 (f + 5) (mp p ((fillV v p k x).2 4 p - 1) y) = v.2 (f + 5) (mp p (v.2 4 p - 1) y)
      rw [e1, em]; rfl
/-- the trial tree: what fills p next is as if it filled the value -/
def TRV (σ : sS) (v : VT) (p : Nat) : Prop := ∃ u, XV σ 8 u ∧ WFV u ∧ p < u.1 ∧ ∀ x, fillV u p 0 x = fillV v p 0 x
theorem fill_in {v : VT} (w : WFV v) {p k x : Nat} (hp : p < v.1) : p < (fillV v p k x).1 := by
  have := w.2.2.1 p hp
  show p < v.1 - (v.2 4 p - 1)
  omega
theorem X_take (d : Nat) {σ : sS} {v : VT} {c : CT} {n : Nat} {L : Nat → Nat} {m : Nat} {T : Nat → Nat} {rf : Nat → Int32} {im : Option (VT × CT)} (w : WFV v) (hx : AX σ v c n L m T rf im) (k : sS → Prop) (hk : ∀ σ', XV σ' 8 v → AX σ' v c n L m T rf im → σ' 0 = σ 0 → k σ') : CJ LX (d + 2) y_TR_take [sR (0 + 8) (.inl 3), sR (0 + 1) (.inl 3)] σ (rN k) := by
  refine c_TR_take LX d 8 1 (Or.inl (by omega)) w.2.1 hx.1 k (fun σ' g1 g2 => hk σ' g1 (hx.kept ⟨fun x a b c => g2 x (by omega), fun i _ => by rw [g2 0 (by omega)]⟩) (g2 0 (by omega)))
theorem X_fill (d : Nat) {σ : sS} {v u : VT} {c : CT} {n : Nat} {L : Nat → Nat} {m : Nat} {T : Nat → Nat} {rf : Nat → Int32} {im : Option (VT × CT)} (hx : AX σ v c n L m T rf im) (wu : WFV u) (hu : XV σ 8 u) {p kd x : Nat} (hp : p < u.1) (hk1 : kd ≤ 1) (hx9 : x ≤ 99) (k : sS → Prop) (hk : ∀ σ', XV σ' 8 (fillV u p kd x) → AX σ' v c n L m T rf im → σ' 0 = σ 0 → k σ') : CJ LX (d + 3) y_TR_fill [sR (0 + 8) (.inl 3), sI (nI p), sI (nI kd), sI (nI x)] σ (rN k) := by
  refine c_TR_fill LX d 8 wu hu hp hk1 hx9 k (fun σ' g1 g2 => hk σ' g1 (hx.kept ⟨fun x a b c => g2 x (by omega), fun i _ => by rw [g2 0 (by omega)]⟩) (g2 0 (by omega)))
theorem X_gatherT (D : Nat) (hD : 141 ≤ D) {σ : sS} {v u : VT} {c : CT} {n : Nat} {L : Nat → Nat} {m : Nat} {T : Nat → Nat} {rf : Nat → Int32} {im : Option (VT × CT)} (wc : WFC c) (hx : AX σ v c n L m T rf im) (wu : WFV u) (hu : XV σ 8 u) (k : Int32 → sS → Prop) (hk : ∀ σ', FX σ' (fl c u).1 (fl c u).2 → AX σ' v c n L m T rf im → XV σ' 8 u → σ' 0 = σ 0 → k (nI (fl c u).1.length) σ') : CJ LX D y_GA_gather [sR (0 + 15) (.inl 1), sR (0 + 8) (.inl 3)] σ (rI k) := by
  refine CJ.mono (c_GA_gather LX 8 wu wc (by omega) rfl hu hx.2.1 k (fun σ' g1 g2 => ?_)) hD
  have f : xF σ σ' := ⟨fun x a b d => g2 x (by omega) (by omega), fun i _ => by rw [g2 0 (by omega) (by omega)]⟩
  exact hk σ' g1 (hx.kept f) (hu.kept (fun x a b => g2 x (by omega) (by omega))) (g2 0 (by omega) (by omega))
/-- a number put into the trial, and what is found -/
theorem X_with (D : Nat) (hD : 141 ≤ D) {σ : sS} {v : VT} {c : CT} {n : Nat} {L : Nat → Nat} {m : Nat} {T : Nat → Nat} {rf : Nat → Int32} {im : Option (VT × CT)} (w : WFV v) (wc : WFC c) (hx : AX σ v c n L m T rf im) {p x : Nat} (hp : p < v.1) (ht : TRV σ v p) (hx9 : x ≤ 99) (k : Int32 → sS → Prop) (hk : ∀ σ', FX σ' (fl c (fillV v p 0 x)).1 (fl c (fillV v p 0 x)).2 → AX σ' v c n L m T rf im → TRV σ' v p → k (nI (fl c (fillV v p 0 x)).1.length) σ') : CJ LX D y_TR_fill [sR (0 + 8) (.inl 3), sI (nI p), sI 0, sI (nI x)] σ (rN fun σ1 => CJ LX D y_GA_gather [sR (0 + 15) (.inl 1), sR (0 + 8) (.inl 3)] σ1 (rI k)) := by
  obtain ⟨u, u1, u2, u3, u4⟩ := ht
  have w2 : WFV (fillV v p 0 x) := w.fill hp (by omega) (fun _ => hx9) (fun z => absurd rfl z)
  refine CJ.mono (X_fill 138 hx u2 u1 u3 (kd := 0) (by omega) hx9 _ (fun σ1 g1 g2 g3 => ?_)) hD
  rw [u4] at g1
  exact X_gatherT D hD wc g2 w2 g1 k (fun σ2 h1 h2 h3 _ => hk σ2 h1 h2 ⟨_, h3, w2, fill_in w hp, fun y => fill_fill w hp 0 x 0 y⟩)
/-! the reference minds, and forgets -/
theorem AM.val2 {σ σ' : sS} {v v2 : VT} {c : CT} {n : Nat} {L : Nat → Nat} {m : Nat} {T : Nat → Nat} {rf : Nat → Int32} {im : Option (VT × CT)} (wc : WFC c) (h : AM σ v c n L m T rf im) (g1 : MV σ' v2) (g0 : ∀ i, i ≠ 6 → i ≠ 49 → i ≠ 50 → σ' 0 i = σ 0 i) (gx : ∀ x, x ≠ 0 → (x < 2 ∨ 6 < x) → σ' x = σ x) : AM σ' v2 c n L m T rf im := by
  obtain ⟨h1, h2, h3, h4, h5, h6, h7, h8, h9⟩ := h
  refine ⟨g1, h2.kept wc (fun i a b => g0 i (by omega) (by omega) (by omega)) (fun y a b => gx y (by omega) (by omega)), by rw [g0 42 (by omega) (by omega) (by omega)]; exact h3, fun i hi => by rw [gx 29 (by omega) (by omega)]; exact h4 i hi, by rw [g0 52 (by omega) (by omega) (by omega)]; exact h5, fun i hi => by rw [gx 36 (by omega) (by omega)]; exact h6 i hi, fun i hi => by rw [gx 1 (by omega) (by omega)]; exact h7 i hi, fun e => by rw [g0 48 (by omega) (by omega) (by omega)]; exact h8 e, fun v' c' e => ?_⟩
  obtain ⟨a1, ⟨R, a2, a4⟩, R2, a3, a5⟩ := h9 v' c' e
  exact ⟨by rw [g0 48 (by omega) (by omega) (by omega)]; exact a1, ⟨R, a2.same (fun j _ _ => by rw [gx 35 (by omega) (by omega)]), a4⟩, R2, a3.same (fun j _ _ => by rw [gx 35 (by omega) (by omega)]), a5⟩
def MND (σ : sS) (v0 : VT) : Prop := ∃ R, KV σ 920 R ∧ MB R v0
theorem MND.kept {σ σ' : sS} {v0 : VT} (h : MND σ v0) (e : σ' 35 = σ 35) : MND σ' v0 := by
  obtain ⟨R, a, b⟩ := h
  exact ⟨R, a.same (fun j _ _ => by rw [e]), b⟩
theorem M_minds (d : Nat) {σ : sS} {v : VT} {c : CT} {n : Nat} {L : Nat → Nat} {m : Nat} {T : Nat → Nat} {rf : Nat → Int32} {im : Option (VT × CT)} (wc : WFC c) (hm : AM σ v c n L m T rf im) (k : sS → Prop) (hk : ∀ σ', AM σ' v c n L m T rf im → MND σ' v → σ' 0 53 = σ 0 53 → k σ') : CJ LM (d + 2) y_MO_minds [sR 0 (.inl 6)] σ (rN k) := by
  refine s_MO_minds_0 LM (d + 1) 0 σ (rN k) ?_
  refine c_MO_keepV LM d 2 (by omega) _ (fun σ' a1 a2 a3 a4 => hk σ' (hm.kept wc ⟨fun x a b c => a4 x a (by omega), fun j hj => a2 j (by omega), fun i a b c d e f => a3 i d e⟩) ⟨σ, a1, hm.1.mb⟩ (a3 53 (by omega) (by omega)))
theorem M_forgets (d : Nat) {σ : sS} {v v0 : VT} {c : CT} {n : Nat} {L : Nat → Nat} {m : Nat} {T : Nat → Nat} {rf : Nat → Int32} {im : Option (VT × CT)} (w0 : WFV v0) (wc : WFC c) (hm : AM σ v c n L m T rf im) (hn : MND σ v0) (k : sS → Prop) (hk : ∀ σ', AM σ' v0 c n L m T rf im → (∀ F u, FM σ F u → FM σ' F u) → σ' 0 53 = σ 0 53 → k σ') : CJ LM (d + 4) y_MO_forgets [sR 0 (.inl 6)] σ (rN k) := by
  obtain ⟨R, a, b⟩ := hn
  refine s_MO_forgets_0 LM (d + 3) 0 σ (rN k) ?_
  refine c_MO_loadV LM d 2 (by omega) w0 (R := R) a b _ (fun σ' b1 b2 b3 => hk σ' (hm.val2 wc b1 b2 b3) (fun F u h => ⟨by rw [b2 33 (by omega) (by omega) (by omega)]; exact h.1, by rw [b2 34 (by omega) (by omega) (by omega)]; exact h.2.1, fun i x hx => by rw [b3 20 (by omega) (by omega), b3 21 (by omega) (by omega)]; exact h.2.2 i x hx⟩) (b2 53 (by omega) (by omega) (by omega)))
theorem M_put (d : Nat) {σ : sS} {v v0 : VT} {c : CT} {n : Nat} {L : Nat → Nat} {m : Nat} {T : Nat → Nat} {rf : Nat → Int32} {im : Option (VT × CT)} (w : WFV v) (wc : WFC c) (hm : AM σ v c n L m T rf im) (hn : MND σ v0) {p kd x : Nat} (hp : p < v.1) (hk1 : kd ≤ 1) (h0 : kd = 0 → x ≤ 99) (h1 : kd ≠ 0 → x = 0) (k : sS → Prop) (hk : ∀ σ', AM σ' (fillV v p kd x) c n L m T rf im → MND σ' v0 → σ' 0 53 = σ 0 53 → k σ') : CJ LM (d + 3) y_MO_putsAt [sR 0 (.inl 6), sI (nI p), sI (nI kd), sI (nI x)] σ (rN k) := by
  refine c_MO_putsAt LM d w hm.1 hp hk1 h0 h1 k (fun σ' g1 g2 => hk σ' (hm.val wc g1 g2) (hn.kept (g2.1 35 (by omega) (by omega))) (g2.2 53 (by omega)))
theorem M_manyT (d : Nat) {σ : sS} {v v0 : VT} {c : CT} {n : Nat} {L : Nat → Nat} {m : Nat} {T : Nat → Nat} {rf : Nat → Int32} {im : Option (VT × CT)} (w : WFV v) (wc : WFC c) (hm : AM σ v c n L m T rf im) (hn : MND σ v0) (k : Int32 → sS → Prop) (hk : ∀ σ', FM σ' (fl c v).1 (fl c v).2 → AM σ' v c n L m T rf im → MND σ' v0 → σ' 0 53 = σ 0 53 → k (nI (fl c v).1.length) σ') : CJ LM (d + 8) y_MO_manyNow [sR 0 (.inl 6)] σ (rI k) := by
  refine M_many d w wc hm k (fun σ' g1 g2 g3 => hk σ' g1 g2 (hn.kept (g3.1 35 (by omega) (by omega))) (g3.2 53 (by omega) (by omega) (by omega)))
theorem M_with (d : Nat) {σ : sS} {v : VT} {c : CT} {n : Nat} {L : Nat → Nat} {m : Nat} {T : Nat → Nat} {rf : Nat → Int32} {im : Option (VT × CT)} (w : WFV v) (wc : WFC c) (hm : AM σ v c n L m T rf im) {p x : Nat} (hp : p < v.1) (hx9 : x ≤ 99) (k : Int32 → sS → Prop) (hk : ∀ σ', FM σ' (fl c (fillV v p 0 x)).1 (fl c (fillV v p 0 x)).2 → AM σ' v c n L m T rf im → k (nI (fl c (fillV v p 0 x)).1.length) σ') : CJ LM (d + 9) y_MO_faultsWith [sR 0 (.inl 6), sI (nI p), sI (nI x)] σ (rI k) := by
  have w2 : WFV (fillV v p 0 x) := w.fill hp (by omega) (fun _ => hx9) (fun z => absurd rfl z)
  refine s_MO_faultsWith_0 LM (d + 8) 0 _ _ σ (rI k) ?_
  refine M_minds (d + 6) wc hm _ (fun σ1 a1 a2 _ => ?_)
  refine M_put (d + 5) w wc a1 a2 hp (kd := 0) (by omega) (fun _ => hx9) (fun z => absurd rfl z) _ (fun σ2 b1 b2 _ => ?_)
  refine M_manyT d w2 wc b1 b2 _ (fun σ3 c1 c2 c3 _ => ?_)
  exact M_forgets (d + 4) w wc c2 c3 _ (fun σ4 e1 e2 _ => hk σ4 (e2 _ _ c1) e1)
theorem st_without (a : Int32) : stI RelS y_GF_without y_MO_without [sI a] := by
  refine stI_mk (fun σx σm v c n L m T rf im ok hx hm => ?_)
  have wc := ok.wc
  have w := ok.wv
  have h20 := w.2.1
  by_cases hp0 : findV v a < v.1
  · obtain ⟨p, ep⟩ : ∃ p, findV v a = p := ⟨_, rfl⟩
    have hp := hp0
    rw [ep] at hp
    have hnp : ¬ nI p < 0 := nI_pos (by omega)
    by_cases p0 : p = 0
    · refine ⟨-3, v, c, n, L, m, T, rfU rf 3, im, ok, fun k hk => ?_, fun k hk => ?_⟩
      · refine s_GF_without_0 LX 299 0 _ σx (rI k) (X_find 298 w hx a _ (fun _ => ?_) (fun z => absurd hp0 z))
        rw [ep, z_eq (by omega) 0 (by omega)]
        exact ⟨fun _ => ⟨fun z => absurd p0 z, fun _ => X_refuse 298 hx (-3) 3 rfl (by omega) _ hk⟩, fun z => absurd z hnp⟩
      · refine s_MO_without_0 LM 299 0 _ σm (rI k) (M_find 299 w hm a _ (fun _ => ?_) (fun z => absurd hp0 z))
        rw [ep, z_eq (by omega) 0 (by omega)]
        exact ⟨fun _ => ⟨fun z => absurd p0 z, fun _ => s_MO_without_24 LM 299 0 _ _ σm (rI k) ⟨fun z => absurd z (by decide), fun _ => M_no 299 wc hm (-3) 3 rfl (by omega) _ hk⟩⟩, fun z => absurd z hnp⟩
    · have w2 : WFV (outV v p) := w.out hp (by omega)
      refine ⟨nI (fl c (outV v p)).1.length, v, c, n, L, m, T, rf, im, ok, fun k hk => ?_, fun k hk => ?_⟩
      · refine s_GF_without_0 LX 299 0 _ σx (rI k) (X_find 298 w hx a _ (fun _ => ?_) (fun z => absurd hp0 z))
        rw [ep, z_eq (by omega) 0 (by omega)]
        refine ⟨fun _ => ⟨fun _ => ?_, fun z => absurd z p0⟩, fun z => absurd z hnp⟩
        refine X_take 297 w hx _ (fun σ1 a1 a2 _ => ?_)
        refine c_TR_leaveOut LX 296 8 w a1 hp (by omega) _ (fun σ2 b1 b2 => ?_)
        have x2 := a2.kept (σ' := σ2) ⟨fun x a b c => b2 x (by omega), fun i _ => by rw [b2 0 (by omega)]⟩
        exact X_gatherT 299 (by omega) wc x2 w2 b1 _ (fun σ3 c1 c2 _ _ => hk _ c2)
      · refine s_MO_without_0 LM 299 0 _ σm (rI k) (M_find 299 w hm a _ (fun _ => ?_) (fun z => absurd hp0 z))
        rw [ep, z_eq (by omega) 0 (by omega)]
        refine ⟨fun _ => ⟨fun _ => s_MO_without_24 LM 299 0 _ _ σm (rI k) ⟨fun _ => ?_, fun z => absurd rfl z⟩, fun z => absurd z p0⟩, fun z => absurd z hnp⟩
        refine M_minds 297 wc hm _ (fun σ1 a1 a2 _ => ?_)
        refine c_MO_leavesOut LM 296 w a1.1 hp (by omega) _ (fun σ2 b1 b2 => ?_)
        refine M_manyT 291 w2 wc (a1.val wc b1 b2) (a2.kept (b2.1 35 (by omega) (by omega))) _ (fun σ3 c1 c2 c3 _ => ?_)
        exact M_forgets 295 w wc c2 c3 _ (fun σ4 e1 e2 _ => hk _ e1)
  · refine ⟨-1, v, c, n, L, m, T, rfU rf 1, im, ok, fun k hk => ?_, fun k hk => ?_⟩
    · refine s_GF_without_0 LX 299 0 _ σx (rI k) ?_
      exact X_find 298 w hx a _ (fun z => absurd z hp0) (fun _ => ⟨fun z => absurd (by decide) z, fun _ => X_refuse 298 hx (-1) 1 rfl (by omega) _ hk⟩)
    · refine s_MO_without_0 LM 299 0 _ σm (rI k) ?_
      exact M_find 299 w hm a _ (fun z => absurd z hp0) (fun _ => ⟨fun z => absurd (by decide) z, fun _ => s_MO_without_24 LM 299 0 _ _ σm (rI k) ⟨fun z => absurd z (by decide), fun _ => M_no 299 wc hm (-1) 1 rfl (by omega) _ hk⟩⟩)
