/-! the same values: ways down by digits (the last digit first) -/
def kidO (v : VT) (q d : Nat) : Option Nat := if kidV v q (nI d) < v.2 2 q then some (kch v q (kidV v q (nI d))) else none
def wk (v : VT) (a : Nat) : List Nat → Option Nat
  | [] => some a
  | d :: l => (wk v a l).bind (fun q => kidO v q d)
def wv (n : Nat) : List Nat → Nat
  | [] => n
  | d :: l => 10 * wv n l + d
def dgs (l : List Nat) : Prop := ∀ d ∈ l, 1 ≤ d ∧ d ≤ 9
theorem dgs_cons {d : Nat} {l : List Nat} (h : dgs (d :: l)) : (1 ≤ d ∧ d ≤ 9) ∧ dgs l := ⟨h d List.mem_cons_self, fun e he => h e (List.mem_cons_of_mem _ he)⟩
theorem wv_le (n : Nat) : ∀ l, n ≤ wv n l
  | [] => Nat.le_refl _
  | d :: l => by
    have := wv_le n l
    show n ≤ 10 * wv n l + d
    omega
theorem wv_lt (n : Nat) {d : Nat} (hd : 1 ≤ d) (l : List Nat) : n < wv n (d :: l) := by
  have := wv_le n l
  show n < 10 * wv n l + d
  omega
theorem wv_inj (n : Nat) : ∀ l l', dgs l → dgs l' → wv n l = wv n l' → l = l'
  | [], [], _, _, _ => rfl
  | [], d :: l, _, h, e => by
    have := wv_lt n (dgs_cons h).1.1 l
    have e : n = wv n (d :: l) := e
    omega
  | d :: l, [], h, _, e => by
    have := wv_lt n (dgs_cons h).1.1 l
    have e : wv n (d :: l) = n := e
    omega
  | d :: l, d' :: l', h, h', e => by
    have h1 := dgs_cons h
    have h2 := dgs_cons h'
    have e : 10 * wv n l + d = 10 * wv n l' + d' := e
    have e1 : d = d' := by omega
    have e2 : wv n l = wv n l' := by omega
    rw [e1, wv_inj n l l' h1.2 h2.2 e2]
theorem kidV_eq {v : VT} (w : WFV v) {q k : Nat} (hq : q < v.1) (hk : k < v.2 2 q) : kidV v q (nI (v.2 3 (kch v q k))) = k := by
  have hd := w.dig hq hk
  have h1 : kidV v q (nI (v.2 3 (kch v q k))) ≤ k := by
    rcases Nat.lt_or_ge k (kidV v q (nI (v.2 3 (kch v q k)))) with z | z
    · have := fst_no (fun j => decide (nI (v.2 3 (kch v q j)) = nI (v.2 3 (kch v q k)))) (v.2 2 q) 0 k (Nat.zero_le _) z
      simp at this
    · exact z
  have h2 := fst_at (fun j => decide (nI (v.2 3 (kch v q j)) = nI (v.2 3 (kch v q k)))) (v.2 2 q) 0 (show kidV v q (nI (v.2 3 (kch v q k))) < 0 + v.2 2 q by omega)
  have h2 : nI (v.2 3 (kch v q (kidV v q (nI (v.2 3 (kch v q k)))))) = nI (v.2 3 (kch v q k)) := of_decide_eq_true h2
  have hd2 := w.dig hq (show kidV v q (nI (v.2 3 (kch v q k))) < v.2 2 q by omega)
  rw [i32_eq (by omega) (by omega)] at h2
  exact w.dig1 hq (by omega) hk h2
theorem kidO_eq {v : VT} (w : WFV v) {q k : Nat} (hq : q < v.1) (hk : k < v.2 2 q) : kidO v q (v.2 3 (kch v q k)) = some (kch v q k) := by
  unfold kidO
  rw [kidV_eq w hq hk, if_pos hk]
theorem kidO_some {v : VT} (w : WFV v) {q d c : Nat} (hq : q < v.1) (hd : d < 2 ^ 31) (h : kidO v q d = some c) : ∃ k, k < v.2 2 q ∧ c = kch v q k ∧ v.2 3 c = d := by
  unfold kidO at h
  split at h
  · rename_i hk
    refine ⟨_, hk, (Option.some.inj h).symm, ?_⟩
    have h2 := fst_at (fun j => decide (nI (v.2 3 (kch v q j)) = nI d)) (v.2 2 q) 0 (show kidV v q (nI d) < 0 + v.2 2 q by omega)
    have h2 : nI (v.2 3 (kch v q (kidV v q (nI d)))) = nI d := of_decide_eq_true h2
    have hd2 := w.dig hq hk
    rw [i32_eq (by omega) hd] at h2
    rw [← Option.some.inj h]
    exact h2
  · cases h
theorem kidO_nI {v : VT} (w : WFV v) {q d c : Nat} (hq : q < v.1) (h : kidO v q d = some c) : ∃ k, k < v.2 2 q ∧ c = kch v q k ∧ nI (v.2 3 c) = nI d := by
  unfold kidO at h
  split at h
  · rename_i hk
    refine ⟨_, hk, (Option.some.inj h).symm, ?_⟩
    have h2 := fst_at (fun j => decide (nI (v.2 3 (kch v q j)) = nI d)) (v.2 2 q) 0 (show kidV v q (nI d) < 0 + v.2 2 q by omega)
    rw [← Option.some.inj h]
    exact of_decide_eq_true h2
  · cases h
/-- what a way is -/
theorem wk_fact {v : VT} (w : WFV v) {a : Nat} (ha : a < v.1) : ∀ l i, dgs l → wk v a l = some i → i < v.1 ∧ a ≤ i ∧ i < a + v.2 4 a ∧ v.2 5 i = wv (v.2 5 a) l ∧ v.2 6 i = v.2 6 a + l.length
  | [], i, _, h => by
    have : a = i := Option.some.inj h
    subst this
    have := w.sp20 ha
    exact ⟨ha, Nat.le_refl _, by omega, rfl, rfl⟩
  | d :: l, i, hd, h => by
    have hd1 := dgs_cons hd
    obtain ⟨q, hq, hc⟩ := Option.bind_eq_some_iff.mp h
    obtain ⟨b1, b2, b3, b4, b5⟩ := wk_fact w ha l q hd1.2 hq
    obtain ⟨k, hk, rfl, e⟩ := kidO_some w b1 (by omega) hc
    have hl := w.kchlt b1 hk
    obtain ⟨c1, c2, c3, c4⟩ := (w.2.2.2.2.2.2.2 q b1).2.2.2.2.2.2 k hk
    have h1 := (w.2.2.1 q b1).2.2.2 k hk
    have h2 : kch v q k < q + v.2 4 q := h1
    have h3 : q + v.2 4 q ≤ a + v.2 4 a := by
      by_cases z : q = a
      · subst z; exact Nat.le_refl _
      · exact lam' w.2.2.1 ha (by omega) b3
    refine ⟨hl.2, by omega, by omega, ?_, ?_⟩
    · show v.2 5 (kch v q k) = 10 * wv (v.2 5 a) l + d
      rw [c3, b4, e]
    · rw [c4, b5, List.length_cons]; omega
/-- every part in a has its way -/
theorem wk_sur {v : VT} (w : WFV v) : ∀ (n a i : Nat), v.2 4 a ≤ n → a < v.1 → a ≤ i → i < a + v.2 4 a → ∃ l, dgs l ∧ wk v a l = some i := by
  have app : ∀ (a c d : Nat) (l : List Nat), kidO v a d = some c → wk v a (l ++ [d]) = wk v c l := by
    intro a c d l h
    induction l with
    | nil => show (some a).bind (fun q => kidO v q d) = some c; exact h
    | cons e l ih =>
      show (wk v a (l ++ [d])).bind (fun q => kidO v q e) = (wk v c l).bind (fun q => kidO v q e)
      rw [ih]
  intro n
  induction n with
  | zero =>
    intro a i h1 h2 h3 h4
    have := w.sp20 h2
    omega
  | succ n ih =>
    intro a i h1 h2 h3 h4
    by_cases e : i = a
    · exact ⟨[], fun d hd => absurd hd List.not_mem_nil, by rw [e]; rfl⟩
    · obtain ⟨j, hj, c1, c2⟩ := ch_find1 w.2.2.1 h2 (show a < i by omega) h4
      have hl := w.kchlt h2 hj
      have hin : kch v a j + v.2 4 (kch v a j) ≤ a + v.2 4 a := ch_in w.2.2.1 h2 (k := j + 1) (by omega)
      obtain ⟨l, hd, hw⟩ := ih (kch v a j) i (by omega) hl.2 c1 c2
      refine ⟨l ++ [v.2 3 (kch v a j)], fun d hd2 => ?_, ?_⟩
      · rcases List.mem_append.mp hd2 with z | z
        · exact hd d z
        · rw [List.mem_singleton] at z
          subst z
          exact w.dig h2 hj
      · rw [app a _ _ l (kidO_eq w h2 hj)]
        exact hw
theorem wk_app (v : VT) {a c d : Nat} (l : List Nat) (h : kidO v a d = some c) : wk v a (l ++ [d]) = wk v c l := by
  induction l with
  | nil => show (some a).bind (fun q => kidO v q d) = some c; exact h
  | cons e l ih =>
    show (wk v a (l ++ [d])).bind (fun q => kidO v q e) = (wk v c l).bind (fun q => kidO v q e)
    rw [ih]
theorem wk_app0 (v : VT) {a d : Nat} (l : List Nat) (h : kidO v a d = none) : wk v a (l ++ [d]) = none := by
  induction l with
  | nil => show (some a).bind (fun q => kidO v q d) = none; exact h
  | cons e l ih =>
    show (wk v a (l ++ [d])).bind (fun q => kidO v q e) = none
    rw [ih]; rfl
def eq3 (v : VT) (i j : Nat) : Prop := v.2 0 i = v.2 0 j ∧ v.2 1 i = v.2 1 j ∧ v.2 2 i = v.2 2 j
def sameV (v : VT) (a b : Nat) : Prop := ∀ l i, dgs l → wk v a l = some i → ∃ j, wk v b l = some j ∧ eq3 v i j
theorem dgs_app {l : List Nat} {d : Nat} (h : dgs l) (hd : 1 ≤ d ∧ d ≤ 9) : dgs (l ++ [d]) := by
  intro x hx
  rcases List.mem_append.mp hx with z | z
  · exact h x z
  · rw [List.mem_singleton] at z
    subst z
    exact hd
theorem sameV_step {v : VT} (w : WFV v) {a b : Nat} (ha : a < v.1) (hb : b < v.1) : sameV v a b ↔ eq3 v a b ∧ ∀ k, k < v.2 2 a → kidV v b (nI (v.2 3 (kch v a k))) < v.2 2 b ∧ sameV v (kch v a k) (kch v b (kidV v b (nI (v.2 3 (kch v a k))))) := by
  constructor
  · intro h
    refine ⟨?_, fun k hk => ?_⟩
    · obtain ⟨j, hj, he⟩ := h [] a (fun d hd => absurd hd List.not_mem_nil) rfl
      have : b = j := Option.some.inj hj
      subst this
      exact he
    · have hd := w.dig ha hk
      have hko := kidO_eq w ha hk
      obtain ⟨j, hj, he⟩ := h [v.2 3 (kch v a k)] (kch v a k) (fun d hd2 => by rw [List.mem_singleton] at hd2; subst hd2; exact hd) hko
      have hj : kidO v b (v.2 3 (kch v a k)) = some j := hj
      have hlt : kidV v b (nI (v.2 3 (kch v a k))) < v.2 2 b := by
        unfold kidO at hj
        split at hj
        · assumption
        · cases hj
      have hc : kidO v b (v.2 3 (kch v a k)) = some (kch v b (kidV v b (nI (v.2 3 (kch v a k))))) := by unfold kidO; rw [if_pos hlt]
      refine ⟨hlt, fun l i hl hi => ?_⟩
      have := h (l ++ [v.2 3 (kch v a k)]) i (dgs_app hl hd) (by rw [wk_app v l hko]; exact hi)
      rw [wk_app v l hc] at this
      exact this
  · rintro ⟨h1, h2⟩ l i hl hi
    rcases List.eq_nil_or_concat l with rfl | ⟨l', d, rfl⟩
    · have : a = i := Option.some.inj hi
      subst this
      exact ⟨b, rfl, h1⟩
    · rw [List.concat_eq_append] at hl hi ⊢
      have hd := hl d (List.mem_append.mpr (Or.inr (List.mem_singleton.mpr rfl)))
      have hl' : dgs l' := fun x hx => hl x (List.mem_append.mpr (Or.inl hx))
      cases hc : kidO v a d with
      | none => rw [wk_app0 v l' hc] at hi; cases hi
      | some c =>
        rw [wk_app v l' hc] at hi
        obtain ⟨k, hk, rfl, e⟩ := kidO_some w ha (by omega) hc
        obtain ⟨q1, q2⟩ := h2 k hk
        rw [e] at q1 q2
        have hc2 : kidO v b d = some (kch v b (kidV v b (nI d))) := by unfold kidO; rw [if_pos q1]
        rw [wk_app v l' hc2]
        exact q2 l' i hl' hi
theorem sameV_sym {v : VT} (w : WFV v) {a b : Nat} (ha : a < v.1) (hb : b < v.1) (h : sameV v a b) : sameV v b a := by
  intro l
  induction l with
  | nil =>
    intro j _ hj
    have : b = j := Option.some.inj hj
    subst this
    obtain ⟨j, hj, he⟩ := h [] a (fun d hd => absurd hd List.not_mem_nil) rfl
    have : b = j := Option.some.inj hj
    subst this
    exact ⟨a, rfl, he.1.symm, he.2.1.symm, he.2.2.symm⟩
  | cons d l ih =>
    intro j hl hj
    have hl1 := dgs_cons hl
    obtain ⟨q', hq', hc'⟩ := Option.bind_eq_some_iff.mp hj
    obtain ⟨q, hq, e3⟩ := ih q' hl1.2 hq'
    obtain ⟨f1, -⟩ := wk_fact w ha l q hl1.2 hq
    obtain ⟨f1', -⟩ := wk_fact w hb l q' hl1.2 hq'
    obtain ⟨j0, hj0, rfl, ej⟩ := kidO_some w f1' (by omega) hc'
    cases hc : kidO v q d with
    | some c =>
      have hwc : wk v a (d :: l) = some c := by show (wk v a l).bind _ = _; rw [hq]; exact hc
      obtain ⟨j', hj', e4⟩ := h (d :: l) c hl hwc
      rw [hj] at hj'
      have := Option.some.inj hj'
      subst this
      exact ⟨c, hwc, e4.1.symm, e4.2.1.symm, e4.2.2.symm⟩
    | none =>
      exfalso
      -- every part in q has a partner in q' with its digit, and none has d
      have part : ∀ k, ∃ m, k < v.2 2 q → m < v.2 2 q' ∧ v.2 3 (kch v q' m) = v.2 3 (kch v q k) := by
        intro k
        by_cases hk : k < v.2 2 q
        · have hdk := w.dig f1 hk
          have hwc : wk v a (v.2 3 (kch v q k) :: l) = some (kch v q k) := by show (wk v a l).bind _ = _; rw [hq]; exact kidO_eq w f1 hk
          have hdl : dgs (v.2 3 (kch v q k) :: l) := fun x hx => by
            rcases List.mem_cons.mp hx with rfl | hx
            · exact hdk
            · exact hl1.2 x hx
          obtain ⟨j', hj', e4⟩ := h _ _ hdl hwc
          have hj' : (wk v b l).bind (fun x => kidO v x (v.2 3 (kch v q k))) = some j' := hj'
          obtain ⟨q2, hq2, hc2⟩ := Option.bind_eq_some_iff.mp hj'
          rw [hq'] at hq2
          have := Option.some.inj hq2
          subst this
          obtain ⟨m, hm, e5, e6⟩ := kidO_some w f1' (by omega) hc2
          exact ⟨m, fun _ => ⟨hm, by rw [← e5]; exact e6⟩⟩
        · exact ⟨0, fun z => absurd z hk⟩
      obtain ⟨F, hF⟩ := Classical.axiomOfChoice part
      have hno : ∀ k, k < v.2 2 q → v.2 3 (kch v q k) ≠ d := by
        intro k hk z
        have := kidO_eq w f1 hk
        rw [z, hc] at this
        cases this
      have := fb_holes' (v.2 2 q') (v.2 2 q + 1) (fun i => if i < v.2 2 q then F i else j0) (fun i hi => by
        show (if i < v.2 2 q then F i else j0) < v.2 2 q'
        split
        · rename_i z; exact (hF i z).1
        · exact hj0) (fun i j hi hj hij => by
        show (if i < v.2 2 q then F i else j0) ≠ (if j < v.2 2 q then F j else j0)
        rw [if_pos (show i < v.2 2 q by omega)]
        have g1 := (hF i (by omega)).2
        by_cases z : j < v.2 2 q
        · rw [if_pos z]
          intro e
          have g2 := (hF j z).2
          rw [← e, g1] at g2
          have := w.dig1 f1 (by omega) z g2
          omega
        · rw [if_neg z]
          intro e
          rw [e, ej] at g1
          exact hno i (by omega) g1.symm)
      have := e3.2.2
      omega
theorem sameV_le {v : VT} (w : WFV v) {a b : Nat} (ha : a < v.1) (hb : b < v.1) (h : sameV v a b) : v.2 4 a ≤ v.2 4 b := by
  have part : ∀ x, ∃ y, x < v.2 4 a → y < v.2 4 b ∧ ∃ l, dgs l ∧ wk v a l = some (a + x) ∧ wk v b l = some (b + y) := by
    intro x
    by_cases hx : x < v.2 4 a
    · obtain ⟨l, hl, hw⟩ := wk_sur w _ a (a + x) (Nat.le_refl _) ha (by omega) (by omega)
      obtain ⟨j, hj, -⟩ := h l _ hl hw
      obtain ⟨-, g1, g2, -⟩ := wk_fact w hb l j hl hj
      exact ⟨j - b, fun _ => ⟨by omega, l, hl, hw, by rw [hj]; congr 1; omega⟩⟩
    · exact ⟨0, fun z => absurd z hx⟩
  obtain ⟨F, hF⟩ := Classical.axiomOfChoice part
  refine fb_holes' _ _ F (fun i hi => (hF i hi).1) (fun i j hi hj hij e => ?_)
  obtain ⟨-, l, hl, h1, h2⟩ := hF i hi
  obtain ⟨-, l', hl', h1', h2'⟩ := hF j hj
  rw [e] at h2
  obtain ⟨-, -, -, g1, -⟩ := wk_fact w hb l _ hl h2
  obtain ⟨-, -, -, g2, -⟩ := wk_fact w hb l' _ hl' h2'
  have := wv_inj _ l l' hl hl' (by rw [← g1, ← g2])
  subst this
  rw [h1] at h1'
  have := Option.some.inj h1'
  omega
theorem sameV_span {v : VT} (w : WFV v) {a b : Nat} (ha : a < v.1) (hb : b < v.1) (h : sameV v a b) : v.2 4 a = v.2 4 b := Nat.le_antisymm (sameV_le w ha hb h) (sameV_le w hb ha (sameV_sym w ha hb h))
