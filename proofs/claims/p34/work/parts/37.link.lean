/-! digits and paths from kinds and spans -/
/-- the part that holds y -/
def pa (S : Nat → Nat) (y : Nat) : Nat → Nat
  | 0 => 0
  | q + 1 => if y < q + S q then q else pa S y q
theorem pa_lt (S : Nat → Nat) (y : Nat) : ∀ m, pa S y m ≤ m - 1
  | 0 => Nat.le_refl _
  | q + 1 => by
    unfold pa
    split
    · omega
    · have := pa_lt S y q; omega
theorem pa_eq {n : Nat} {K S : Nat → Nat} (h : T1 n K S) {q k : Nat} (hq : q < n) (hk : k < K q) : pa S (ch S q k) (ch S q k) = q := by
  have h1 := (h q hq).2.2.2 k hk
  have h2 := ch_gt S q k
  have h3 := ch_part h hq hk
  have key : ∀ m, q < m → m ≤ ch S q k → pa S (ch S q k) m = q := by
    intro m
    induction m with
    | zero => intro h4; omega
    | succ m ih =>
      intro h4 h5
      unfold pa
      by_cases e : m = q
      · subst e; rw [if_pos h1]
      · have := ch_out h hq (show m < n by omega) (by omega) (by omega) k (by omega)
        rw [if_neg (by omega)]
        exact ih (by omega) (by omega)
  exact key _ h2 (Nat.le_refl _)
theorem ch_big {n : Nat} {K S : Nat → Nat} (h : T1 n K S) {q : Nat} (hq : q < n) : ∀ k, k ≤ K q → q + 1 + k ≤ ch S q k
  | 0, _ => Nat.le_refl _
  | k + 1, hk => by
    have := ch_big h hq k (by omega)
    have := ch_inc h hq (show k < K q by omega)
    omega
/-- which one in q it is -/
def ixk (S : Nat → Nat) (q y : Nat) : Nat := fst_ (fun k => decide (ch S q k = y)) 20 0
theorem ixk_eq {n : Nat} {K S : Nat → Nat} (h : T1 n K S) (hn : n ≤ 20) {q k : Nat} (hq : q < n) (hk : k < K q) : ixk S q (ch S q k) = k := by
  have h1 := ch_big h hq k (by omega)
  have h2 := ch_part h hq hk
  have h3 : ixk S q (ch S q k) ≤ k := by
    rcases Nat.lt_or_ge k (ixk S q (ch S q k)) with z | z
    · have := fst_no (fun j => decide (ch S q j = ch S q k)) 20 0 k (Nat.zero_le _) z
      simp at this
    · exact z
  have h4 := fst_at (fun j => decide (ch S q j = ch S q k)) 20 0 (show ixk S q (ch S q k) < 0 + 20 by omega)
  exact ch_inj h hq (by show ixk S q (ch S q k) ≤ _; omega) (by omega) (of_decide_eq_true h4)
def lkD (v : VT) (y : Nat) : Nat := if y = 0 then 0 else if v.2 0 (pa (v.2 4) y y) = 3 then 6 + ixk (v.2 4) (pa (v.2 4) y y) y else v.2 3 y
def lkR (v : VT) : Nat → Nat → Nat
  | 0, _ => 0
  | m + 1, y => if y = 0 then 0 else 10 * lkR v m (pa (v.2 4) y y) + lkD v y
theorem lkR_any (v : VT) : ∀ m m' y, y ≤ m → y ≤ m' → lkR v m y = lkR v m' y
  | 0, 0, y, _, _ => rfl
  | 0, m' + 1, y, h, _ => by
    have : y = 0 := by omega
    subst this
    rfl
  | m + 1, 0, y, _, h => by
    have : y = 0 := by omega
    subst this
    rfl
  | m + 1, m' + 1, y, h1, h2 => by
    unfold lkR
    by_cases e : y = 0
    · rw [if_pos e, if_pos e]
    · have := pa_lt (v.2 4) y y
      rw [if_neg e, if_neg e, lkR_any v m m' _ (by omega) (by omega)]
/-- the value with its digits and paths -/
def lnk (v : VT) : VT := (v.1, fun f y => match f with
  | 3 => lkD v y
  | 5 => lkR v y y
  | f => v.2 f y)
def WFP (v : VT) : Prop := 1 ≤ v.1 ∧ v.1 ≤ 20 ∧ T1 v.1 (v.2 2) (v.2 4) ∧ v.2 4 0 = v.1 ∧ v.2 6 0 = 0 ∧ ∀ p, p < v.1 →
  v.2 0 p ≤ 3 ∧ (v.2 0 p = 0 → v.2 1 p ≤ 99) ∧ (v.2 0 p ≠ 0 → v.2 1 p = 0) ∧ (v.2 0 p ≤ 1 → v.2 2 p = 0) ∧ (v.2 0 p = 3 → v.2 2 p ≤ 4) ∧ v.2 6 p ≤ 4 ∧
  (∀ k, k < v.2 2 p → (v.2 0 p = 2 → 1 ≤ v.2 3 (kch v p k) ∧ v.2 3 (kch v p k) ≤ 5 ∧ ∀ j, j < v.2 2 p → v.2 3 (kch v p j) = v.2 3 (kch v p k) → j = k) ∧ v.2 6 (kch v p k) = v.2 6 p + 1)
theorem lkD_rec {v : VT} (h : WFP v) {p k : Nat} (hp : p < v.1) (hk : k < v.2 2 p) (h2 : v.2 0 p = 2) : lkD v (kch v p k) = v.2 3 (kch v p k) := by
  have hg := ch_gt (v.2 4) p k
  have e := pa_eq h.2.2.1 hp hk
  show (if ch (v.2 4) p k = 0 then 0 else if v.2 0 (pa (v.2 4) (ch (v.2 4) p k) (ch (v.2 4) p k)) = 3 then _ else v.2 3 (ch (v.2 4) p k)) = v.2 3 (ch (v.2 4) p k)
  rw [if_neg (by omega), e, if_neg (by omega)]
theorem WFP.lnk {v : VT} (h : WFP v) : WFV (lnk v) := by
  obtain ⟨w1, w2, w3, w4, w5, w6⟩ := id h
  refine ⟨w1, w2, w3, w4, rfl, w5, rfl, fun p hp => ?_⟩
  obtain ⟨a1, a2, a3, a4, a5, a6, a7⟩ := w6 p hp
  refine ⟨a1, a2, a3, a4, a5, a6, fun k hk => ?_⟩
  obtain ⟨b1, b2⟩ := a7 k hk
  have hg := ch_gt (v.2 4) p k
  have e := pa_eq w3 hp hk
  have ei := ixk_eq w3 w2 hp hk
  refine ⟨fun h3 => ?_, fun h2 => ?_, ?_, b2⟩
  · show (if ch (v.2 4) p k = 0 then 0 else if v.2 0 (pa (v.2 4) (ch (v.2 4) p k) (ch (v.2 4) p k)) = 3 then 6 + ixk (v.2 4) (pa (v.2 4) (ch (v.2 4) p k) (ch (v.2 4) p k)) (ch (v.2 4) p k) else _) = 6 + k
    have h3 : v.2 0 p = 3 := h3
    rw [if_neg (by omega), e, if_pos h3, ei]
  · obtain ⟨c1, c2, c3⟩ := b1 h2
    refine ⟨?_, ?_, fun j hj he => ?_⟩
    · show 1 ≤ lkD v (kch v p k)
      rw [lkD_rec h hp hk h2]; exact c1
    · show lkD v (kch v p k) ≤ 5
      rw [lkD_rec h hp hk h2]; exact c2
    · have he : lkD v (kch v p j) = lkD v (kch v p k) := he
      rw [lkD_rec h hp hj h2, lkD_rec h hp hk h2] at he
      exact c3 j hj he
  · show lkR v (ch (v.2 4) p k) (ch (v.2 4) p k) = 10 * lkR v p p + lkD v (ch (v.2 4) p k)
    obtain ⟨m, hm⟩ : ∃ m, ch (v.2 4) p k = m + 1 := ⟨ch (v.2 4) p k - 1, by omega⟩
    have e1 : lkR v (ch (v.2 4) p k) (ch (v.2 4) p k) = 10 * lkR v m (pa (v.2 4) (ch (v.2 4) p k) (ch (v.2 4) p k)) + lkD v (ch (v.2 4) p k) := by
      conv => lhs; rw [hm]
      show (if m + 1 = 0 then 0 else 10 * lkR v m (pa (v.2 4) (m + 1) (m + 1)) + lkD v (m + 1)) = _
      rw [if_neg (by omega), ← hm]
    rw [e1, e, lkR_any v m p p (by omega) (Nat.le_refl _)]
/-- the holder of a part -/
theorem WFV.hold {v : VT} (h : WFV v) {r : Nat} (hr : r < v.1) (h0 : 0 < r) : ∃ P j, P < r ∧ P < v.1 ∧ j < v.2 2 P ∧ kch v P j = r ∧ pa (v.2 4) r r = P := by
  obtain ⟨q, k, h1, h2, h3⟩ := par h.2.2.1 (by have := h.2.2.2.1; omega) hr h0
  refine ⟨q, k, h1, by omega, h2, h3, ?_⟩
  have := pa_eq h.2.2.1 (show q < v.1 by omega) h2
  rw [h3] at this
  exact this
