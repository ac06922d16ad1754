/-! digits and paths from kinds and spans -/
/-- the part that holds y -/
def pa (S : Nat → Nat) (y : Nat) : Nat → Nat
  | 0 => 0
  | q + 1 => if y < q + S q then q else pa S y q
theorem pa_lt (S : Nat → Nat) (y : Nat) : ∀ m, pa S y m ≤ m - 1
  | 0 => Nat.le_refl _
  | q + 1 => by
    unfold pa
    split
    · omega
    · have := pa_lt S y q; omega
theorem pa_eq {n : Nat} {K S : Nat → Nat} (h : T1 n K S) {q k : Nat} (hq : q < n) (hk : k < K q) : pa S (ch S q k) (ch S q k) = q := by
  have h1 := (h q hq).2.2.2 k hk
  have h2 := ch_gt S q k
  have h3 := ch_part h hq hk
  have key : ∀ m, q < m → m ≤ ch S q k → pa S (ch S q k) m = q := by
    intro m
    induction m with
    | zero => intro h4; omega
    | succ m ih =>
      intro h4 h5
      unfold pa
      by_cases e : m = q
      · subst e; rw [if_pos h1]
      · have := ch_out h hq (show m < n by omega) (by omega) (by omega) k (by omega)
        rw [if_neg (by omega)]
        exact ih (by omega) (by omega)
  exact key _ h2 (Nat.le_refl _)
theorem ch_big {n : Nat} {K S : Nat → Nat} (h : T1 n K S) {q : Nat} (hq : q < n) : ∀ k, k ≤ K q → q + 1 + k ≤ ch S q k
  | 0, _ => Nat.le_refl _
  | k + 1, hk => by
    have := ch_big h hq k (by omega)
    have := ch_inc h hq (show k < K q by omega)
    omega
/-- which one in q it is -/
def ixk (S : Nat → Nat) (q y : Nat) : Nat := fst_ (fun k => decide (ch S q k = y)) 20 0
theorem ixk_eq {n : Nat} {K S : Nat → Nat} (h : T1 n K S) (hn : n ≤ 20) {q k : Nat} (hq : q < n) (hk : k < K q) : ixk S q (ch S q k) = k := by
  have h1 := ch_big h hq k (by omega)
  have h2 := ch_part h hq hk
  have h3 : ixk S q (ch S q k) ≤ k := by
    rcases Nat.lt_or_ge k (ixk S q (ch S q k)) with z | z
    · have := fst_no (fun j => decide (ch S q j = ch S q k)) 20 0 k (Nat.zero_le _) z
      simp at this
    · exact z
  have h4 := fst_at (fun j => decide (ch S q j = ch S q k)) 20 0 (show ixk S q (ch S q k) < 0 + 20 by omega)
  exact ch_inj h hq (by show ixk S q (ch S q k) ≤ _; omega) (by omega) (of_decide_eq_true h4)
def lkD (v : VT) (y : Nat) : Nat := if y = 0 then 0 else if v.2 0 (pa (v.2 4) y y) = 3 then 6 + ixk (v.2 4) (pa (v.2 4) y y) y else v.2 3 y
def lkR (v : VT) : Nat → Nat → Nat
  | 0, _ => 0
  | m + 1, y => if y = 0 then 0 else 10 * lkR v m (pa (v.2 4) y y) + lkD v y
theorem lkR_any (v : VT) : ∀ m m' y, y ≤ m → y ≤ m' → lkR v m y = lkR v m' y
  | 0, 0, y, _, _ => rfl
  | 0, m' + 1, y, h, _ => by
    have : y = 0 := by omega
    subst this
    rfl
  | m + 1, 0, y, _, h => by
    have : y = 0 := by omega
    subst this
    rfl
  | m + 1, m' + 1, y, h1, h2 => by
    unfold lkR
    by_cases e : y = 0
    · rw [if_pos e, if_pos e]
    · have := pa_lt (v.2 4) y y
      rw [if_neg e, if_neg e, lkR_any v m m' _ (by omega) (by omega)]
/-- the value with its digits and paths -/
def lnk (v : VT) : VT := (v.1, fun f y => match f with
  | 3 => lkD v y
  | 5 => lkR v y y
  | f => v.2 f y)
def WFP (v : VT) : Prop := 1 ≤ v.1 ∧ v.1 ≤ 20 ∧ T1 v.1 (v.2 2) (v.2 4) ∧ v.2 4 0 = v.1 ∧ v.2 6 0 = 0 ∧ ∀ p, p < v.1 →
  v.2 0 p ≤ 3 ∧ (v.2 0 p = 0 → v.2 1 p ≤ 99) ∧ (v.2 0 p ≠ 0 → v.2 1 p = 0) ∧ (v.2 0 p ≤ 1 → v.2 2 p = 0) ∧ (v.2 0 p = 3 → v.2 2 p ≤ 4) ∧ v.2 6 p ≤ 4 ∧
  (∀ k, k < v.2 2 p → (v.2 0 p = 2 → 1 ≤ v.2 3 (kch v p k) ∧ v.2 3 (kch v p k) ≤ 5 ∧ ∀ j, j < v.2 2 p → v.2 3 (kch v p j) = v.2 3 (kch v p k) → j = k) ∧ v.2 6 (kch v p k) = v.2 6 p + 1)
theorem lkD_rec {v : VT} (h : WFP v) {p k : Nat} (hp : p < v.1) (hk : k < v.2 2 p) (h2 : v.2 0 p = 2) : lkD v (kch v p k) = v.2 3 (kch v p k) := by
  have hg := ch_gt (v.2 4) p k
  have e := pa_eq h.2.2.1 hp hk
  show (if ch (v.2 4) p k = 0 then 0 else if v.2 0 (pa (v.2 4) (ch (v.2 4) p k) (ch (v.2 4) p k)) = 3 then _ else v.2 3 (ch (v.2 4) p k)) = v.2 3 (ch (v.2 4) p k)
  rw [if_neg (by omega), e, if_neg (by omega)]
theorem WFP.lnk {v : VT} (h : WFP v) : WFV (lnk v) := by
  obtain ⟨w1, w2, w3, w4, w5, w6⟩ := id h
  refine ⟨w1, w2, w3, w4, rfl, w5, rfl, fun p hp => ?_⟩
  obtain ⟨a1, a2, a3, a4, a5, a6, a7⟩ := w6 p hp
  refine ⟨a1, a2, a3, a4, a5, a6, fun k hk => ?_⟩
  obtain ⟨b1, b2⟩ := a7 k hk
  have hg := ch_gt (v.2 4) p k
  have e := pa_eq w3 hp hk
  have ei := ixk_eq w3 w2 hp hk
  refine ⟨fun h3 => ?_, fun h2 => ?_, ?_, b2⟩
  · show (if ch (v.2 4) p k = 0 then 0 else if v.2 0 (pa (v.2 4) (ch (v.2 4) p k) (ch (v.2 4) p k)) = 3 then 6 + ixk (v.2 4) (pa (v.2 4) (ch (v.2 4) p k) (ch (v.2 4) p k)) (ch (v.2 4) p k) else _) = 6 + k
    have h3 : v.2 0 p = 3 := h3
    rw [if_neg (by omega), e, if_pos h3, ei]
  · obtain ⟨c1, c2, c3⟩ := b1 h2
    refine ⟨?_, ?_, fun j hj he => ?_⟩
    · show 1 ≤ lkD v (kch v p k)
      rw [lkD_rec h hp hk h2]; exact c1
    · show lkD v (kch v p k) ≤ 5
      rw [lkD_rec h hp hk h2]; exact c2
    · have he : lkD v (kch v p j) = lkD v (kch v p k) := he
      rw [lkD_rec h hp hj h2, lkD_rec h hp hk h2] at he
      exact c3 j hj he
  · show lkR v (ch (v.2 4) p k) (ch (v.2 4) p k) = 10 * lkR v p p + lkD v (ch (v.2 4) p k)
    obtain ⟨m, hm⟩ : ∃ m, ch (v.2 4) p k = m + 1 := ⟨ch (v.2 4) p k - 1, by omega⟩
    have e1 : lkR v (ch (v.2 4) p k) (ch (v.2 4) p k) = 10 * lkR v m (pa (v.2 4) (ch (v.2 4) p k) (ch (v.2 4) p k)) + lkD v (ch (v.2 4) p k) := by
      conv => lhs; rw [hm]
      show (if m + 1 = 0 then 0 else 10 * lkR v m (pa (v.2 4) (m + 1) (m + 1)) + lkD v (m + 1)) = _
      rw [if_neg (by omega), ← hm]
    rw [e1, e, lkR_any v m p p (by omega) (Nat.le_refl _)]
/-- the value without the part r of the holder P -/
def outV0 (v : VT) (r P : Nat) : VT := (v.1 - v.2 4 r, fun f y => match f with
  | 2 => oK (v.2 2) (v.2 4) r P y
  | 4 => oS (v.2 4) r y
  | f => v.2 f (mq r (v.2 4 r) y))
def outV (v : VT) (r : Nat) : VT := lnk (outV0 v r (pa (v.2 4) r r))
theorem out_kid {v : VT} (h : WFV v) {r P j : Nat} (hr : r < v.1) (hP : P < v.1) (hj : j < v.2 2 P) (hPr : kch v P j = r) {y k : Nat} (hy : y < v.1 - v.2 4 r) (hk : k < oK (v.2 2) (v.2 4) r P y) :
    ∃ k', k' < v.2 2 (mq r (v.2 4 r) y) ∧ mq r (v.2 4 r) (kch (outV0 v r P) y k) = kch v (mq r (v.2 4 r) y) k' ∧ mq r (v.2 4 r) y < v.1 ∧ (k' = k ∨ (y = P ∧ k' = k + 1 ∧ j ≤ k)) ∧ (y = P → k' = if k < j then k else k + 1) := by
  have hT := h.2.2.1
  have hs := (hT r hr).1
  have hg := ch_gt (v.2 4) P j
  have hPr' : ch (v.2 4) P j = r := hPr
  by_cases e : y = P
  · subst e
    obtain ⟨c1, c2⟩ := out_chP hT hr hP hj hPr
    have eK : oK (v.2 2) (v.2 4) r y y = v.2 2 y - 1 := by unfold oK; rw [if_pos rfl]
    rw [eK] at hk
    have ey : mq r (v.2 4 r) y = y := mq_lt (by omega)
    rw [ey]
    rcases Nat.lt_or_ge k j with z | z
    · refine ⟨k, by omega, ?_, hP, Or.inl rfl, fun _ => by rw [if_pos z]⟩
      show mq r (v.2 4 r) (ch (oS (v.2 4) r) y k) = ch (v.2 4) y k
      rw [c1 k (by omega)]
      have := ch_smono hT hP z (by omega)
      exact mq_lt (by omega)
    · refine ⟨k + 1, by omega, ?_, hP, Or.inr ⟨rfl, rfl, z⟩, fun _ => by rw [if_neg (by omega)]⟩
      show mq r (v.2 4 r) (ch (oS (v.2 4) r) y k) = ch (v.2 4) y (k + 1)
      have e3 : k = (k + 1) - 1 := by omega
      rw [e3, c2 (k + 1) (by omega) (by omega), Nat.add_sub_cancel]
      have h5 := ch_smono hT hP (show j < k + 1 by omega) (by omega)
      have h6 := ch_out hT hP hr (by omega) (by omega) (k + 1) (by omega)
      exact mq_um h6 (by omega)
  · have eK : oK (v.2 2) (v.2 4) r P y = v.2 2 (mq r (v.2 4 r) y) := by unfold oK; rw [if_neg e]
    rw [eK] at hk
    obtain ⟨x, hx⟩ : ∃ x, x = mq r (v.2 4 r) y := ⟨_, rfl⟩
    have hcase : (y < r ∧ x = y) ∨ (r ≤ y ∧ x = y + v.2 4 r) := by
      rcases Nat.lt_or_ge y r with z | z
      · exact Or.inl ⟨z, by rw [hx, mq_lt z]⟩
      · exact Or.inr ⟨z, by rw [hx, mq_ge z]⟩
    have hxn : x < v.1 := by omega
    have hxin : ¬ (r < x ∧ x < r + v.2 4 r) := by omega
    have hxr : x ≠ r := by omega
    have hxP : x ≠ P := by omega
    rw [← hx] at hk ⊢
    refine ⟨k, hk, ?_, hxn, Or.inl rfl, fun z => absurd z e⟩
    have hc := out_ch hT hr hP hj hPr hxn hxin hxr hxP k (by omega)
    have hum : um r (v.2 4 r) x = y := by rw [hx, um_mq hs]
    rw [hum] at hc
    show mq r (v.2 4 r) (ch (oS (v.2 4) r) y k) = ch (v.2 4) x k
    rw [hc]
    have h6 := ch_out hT hxn hr hxin hxr k (by omega)
    exact mq_um h6 (fun z => hxP (par1 hT hxn hP hk hj (z.trans hPr'.symm)).1)
theorem WFV.out0 {v : VT} (h : WFV v) {r P j : Nat} (hr : r < v.1) (hP : P < v.1) (hj : j < v.2 2 P) (hPr : kch v P j = r) : WFP (outV0 v r P) := by
  obtain ⟨w1, w2, w3, w4, w5, w6, w60, w7⟩ := id h
  have hs := w3 r hr
  have hg : P < r := by have := ch_gt (v.2 4) P j; show P < r; rw [← hPr]; exact this
  have e0 : mq r (v.2 4 r) 0 = 0 := mq_lt (by omega)
  refine ⟨?_, ?_, out_T1 w3 hr hP hj hPr, ?_, ?_, fun y hy => ?_⟩
  · show 1 ≤ v.1 - v.2 4 r; omega
  · show v.1 - v.2 4 r ≤ 20; omega
  · show oS (v.2 4) r 0 = v.1 - v.2 4 r
    have := oS_um (S := v.2 4) (r := r) (x := 0) (by omega) (by omega)
    rw [um_le (by omega)] at this
    rw [this, if_pos ⟨by omega, by omega⟩]
    omega
  · show v.2 6 (mq r (v.2 4 r) 0) = 0
    rw [e0]; exact w6
  · have hy : y < v.1 - v.2 4 r := hy
    obtain ⟨x, hx⟩ : ∃ x, x = mq r (v.2 4 r) y := ⟨_, rfl⟩
    have hcase : (y < r ∧ x = y) ∨ (r ≤ y ∧ x = y + v.2 4 r) := by
      rcases Nat.lt_or_ge y r with z | z
      · exact Or.inl ⟨z, by rw [hx, mq_lt z]⟩
      · exact Or.inr ⟨z, by rw [hx, mq_ge z]⟩
    have hxn : x < v.1 := by omega
    have hxP : y = P → x = P := by intro z; omega
    obtain ⟨b1, b2, b3, b4, b5, b6, b7⟩ := w7 x hxn
    have a0 : (outV0 v r P).2 0 y = v.2 0 x := by show v.2 0 (mq r (v.2 4 r) y) = _; rw [← hx]
    have a1 : (outV0 v r P).2 1 y = v.2 1 x := by show v.2 1 (mq r (v.2 4 r) y) = _; rw [← hx]
    have a6 : (outV0 v r P).2 6 y = v.2 6 x := by show v.2 6 (mq r (v.2 4 r) y) = _; rw [← hx]
    have a2 : (outV0 v r P).2 2 y ≤ v.2 2 x := by
      show oK (v.2 2) (v.2 4) r P y ≤ _
      unfold oK
      by_cases z : y = P
      · rw [if_pos z, ← hxP z]; omega
      · rw [if_neg z, ← hx]; exact Nat.le_refl _
    rw [a0, a1, a6]
    refine ⟨b1, b2, b3, fun z => by have := b4 z; omega, fun z => by have := b5 z; omega, b6, fun k hk => ?_⟩
    obtain ⟨k1, q1, q2, q3, q4, q5⟩ := out_kid h hr hP hj hPr hy hk
    rw [← hx] at q1 q2
    obtain ⟨c1, c2, c3, c4⟩ := b7 k1 q1
    refine ⟨fun h2 => ⟨?_, ?_, fun i hi he => ?_⟩, ?_⟩
    · show 1 ≤ v.2 3 (mq r (v.2 4 r) (kch (outV0 v r P) y k))
      rw [q2]; exact (c2 h2).1
    · show v.2 3 (mq r (v.2 4 r) (kch (outV0 v r P) y k)) ≤ 5
      rw [q2]; exact (c2 h2).2.1
    · obtain ⟨k2, r1, r2, r3, r4, r5⟩ := out_kid h hr hP hj hPr hy hi
      rw [← hx] at r1 r2
      have he : v.2 3 (mq r (v.2 4 r) (kch (outV0 v r P) y i)) = v.2 3 (mq r (v.2 4 r) (kch (outV0 v r P) y k)) := he
      rw [q2, r2] at he
      have := (c2 h2).2.2 k2 r1 he
      by_cases z : y = P
      · have z1 := q5 z
        have z2 := r5 z
        split at z1 <;> split at z2 <;> omega
      · rcases q4 with q4 | q4
        · rcases r4 with r4 | r4
          · omega
          · exact absurd r4.1 z
        · exact absurd q4.1 z
    · show v.2 6 (mq r (v.2 4 r) (kch (outV0 v r P) y k)) = v.2 6 x + 1
      rw [q2]; exact c4
/-- the holder of a part -/
theorem WFV.hold {v : VT} (h : WFV v) {r : Nat} (hr : r < v.1) (h0 : 0 < r) : ∃ P j, P < r ∧ P < v.1 ∧ j < v.2 2 P ∧ kch v P j = r ∧ pa (v.2 4) r r = P := by
  obtain ⟨q, k, h1, h2, h3⟩ := par h.2.2.1 (by have := h.2.2.2.1; omega) hr h0
  refine ⟨q, k, h1, by omega, h2, h3, ?_⟩
  have := pa_eq h.2.2.1 (show q < v.1 by omega) h2
  rw [h3] at this
  exact this
theorem WFV.out {v : VT} (h : WFV v) {r : Nat} (hr : r < v.1) (h0 : 0 < r) : WFV (outV v r) := by
  obtain ⟨P, j, h1, h2, h3, h4, h5⟩ := h.hold hr h0
  unfold outV
  rw [h5]
  exact (h.out0 hr h2 h3 h4).lnk
/-- paths tell parts apart -/
theorem WFV.road1 {v : VT} (h : WFV v) : ∀ n p q, p < n → q < n → p < v.1 → q < v.1 → v.2 5 p = v.2 5 q → p = q := by
  have root : ∀ q, q < v.1 → 0 < q → 1 ≤ v.2 5 q := by
    intro q hq h0
    obtain ⟨P, j, h1, h2, h3, h4, h5⟩ := h.hold hq h0
    have h6 := ((h.2.2.2.2.2.2.2 P h2).2.2.2.2.2.2 j h3).2.2.1
    have h7 := h.dig h2 h3
    rw [h4] at h6 h7
    omega
  have r0 := h.2.2.2.2.1
  intro n
  induction n with
  | zero => intro p q hp; omega
  | succ n ih =>
    intro p q hp hq hpv hqv e
    by_cases e1 : p = 0
    · by_cases e2 : q = 0
      · omega
      · have := root q hqv (by omega)
        subst e1
        omega
    · by_cases e2 : q = 0
      · have := root p hpv (by omega)
        subst e2
        omega
      · obtain ⟨P, i, h1, h2, h3, h4, h5⟩ := h.hold hpv (by omega)
        obtain ⟨Q, j, g1, g2, g3, g4, g5⟩ := h.hold hqv (by omega)
        have h6 := ((h.2.2.2.2.2.2.2 P h2).2.2.2.2.2.2 i h3).2.2.1
        have h7 := h.dig h2 h3
        have g6 := ((h.2.2.2.2.2.2.2 Q g2).2.2.2.2.2.2 j g3).2.2.1
        have g7 := h.dig g2 g3
        rw [h4] at h6 h7
        rw [g4] at g6 g7
        have := ih P Q (by omega) (by omega) h2 g2 (by omega)
        subst this
        have e3 : i = j := h.dig1 h2 h3 g3 (by rw [h4, g4]; omega)
        subst e3
        omega
theorem findV_road {v : VT} (h : WFV v) {p : Nat} (hp : p < v.1) : findV v (nI (v.2 5 p)) = p := by
  have hr := fun q (hq : q < v.1) => h.road4 hq
  have h1 : findV v (nI (v.2 5 p)) ≤ p := by
    rcases Nat.lt_or_ge p (findV v (nI (v.2 5 p))) with z | z
    · have := fst_no (fun q => decide (nI (v.2 5 q) = nI (v.2 5 p))) v.1 0 p (Nat.zero_le _) z
      simp at this
    · exact z
  have h2 := fst_at (fun q => decide (nI (v.2 5 q) = nI (v.2 5 p))) v.1 0 (show findV v (nI (v.2 5 p)) < 0 + v.1 by omega)
  have h2 : nI (v.2 5 (findV v (nI (v.2 5 p)))) = nI (v.2 5 p) := of_decide_eq_true h2
  rw [i32_eq (by have := hr _ (show findV v (nI (v.2 5 p)) < v.1 by omega); omega) (by have := hr p hp; omega)] at h2
  exact h.road1 v.1 _ _ (by omega) hp (by omega) hp h2
