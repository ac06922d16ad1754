/-! the reference: what is found -/
def FM (σ : sS) (L : List Nat) (w : Nat) : Prop := σ 0 33 = nI L.length ∧ σ 0 34 = nI w ∧ ∀ i x, L[i]? = some x → σ 20 i = nI (x / 100) ∧ σ 21 i = nI (x % 100)
def fdK (σ σ' : sS) : Prop := (∀ x, x ≠ 0 → x ≠ 20 → x ≠ 21 → σ' x = σ x) ∧ ∀ i, i ≠ 33 → i ≠ 34 → σ' 0 i = σ 0 i
theorem fdK.refl (σ : sS) : fdK σ σ := ⟨fun _ _ _ _ => rfl, fun _ _ _ => rfl⟩
theorem fdK.trans {σ σ1 σ2 : sS} (h : fdK σ σ1) (g : fdK σ1 σ2) : fdK σ σ2 := ⟨fun c a b e => by rw [g.1 c a b e, h.1 c a b e], fun i a b => by rw [g.2 i a b, h.2 i a b]⟩
def GM (σ : sS) (v : VT) (c : CT) : Prop := MV σ v ∧ MC σ c
theorem GM.kept {σ σ' : sS} {v : VT} {c : CT} (wc : WFC c) (h : GM σ v c) (hk : fdK σ σ') : GM σ' v c := ⟨h.1.kept (hk.2 6 (by omega) (by omega)) (fun x a b => hk.1 x (by omega) (by omega) (by omega)), h.2.kept wc (fun i a b => hk.2 i (by omega) (by omega)) (fun x a b => hk.1 x (by omega) (by omega) (by omega))⟩
theorem up_at (σ : sS) (a k : Nat) (x : Int32) (c i : Nat) : up σ a k x c i = if c = a then (if i = k then x else σ c i) else σ c i := by
  by_cases h : c = a
  · subst h
    rw [if_pos rfl]
    by_cases h2 : i = k
    · subst h2; rw [if_pos rfl, up_self]
    · rw [if_neg h2, up_other _ _ (Or.inr h2)]
  · rw [if_neg h, up_cell _ _ h]
theorem c_MO_finds (Y : List kd) (d : Nat) {σ : sS} {L : List Nat} {w : Nat} (hf : FM σ L w) (hl : L.length < 16384) (pt cd : Nat) (hcd : cd < 100) (k : sS → Prop) (hk : ∀ σ', FM σ' (L ++ [100 * pt + cd]) w → fdK σ σ' → k σ') : CJ Y d y_MO_finds [sR 0 (.inl 6), sI (nI pt), sI (nI cd)] σ (rN k) := by
  have v1 : vp_in (σ 0 33) 16384 := by rw [hf.1]; exact vinI hl (by omega)
  refine s_MO_finds_0 Y d 0 _ _ σ (rN k) ⟨v1, by rw [up_cell _ _ (by omega)]; exact v1, ?_⟩
  rw [up_cell _ _ (show (0 : Nat) ≠ 0 + 21 by omega), up_cell _ _ (show (0 : Nat) ≠ 0 + 20 by omega), hf.1, cl_nI (by omega), nI_s1]
  refine hk _ ⟨?_, ?_, fun i x hx => ?_⟩ ⟨fun c a b e => ?_, fun i a b => ?_⟩
  · rw [up_self, List.length_append]; rfl
  · rw [up_other _ _ (Or.inr (by omega)), up_cell _ _ (by omega), up_cell _ _ (by omega)]; exact hf.2.1
  · rw [up_cell _ _ (show (20 : Nat) ≠ 0 by omega), up_cell _ _ (show (21 : Nat) ≠ 0 by omega), up_cell _ _ (show (20 : Nat) ≠ 0 + 21 by omega)]
    rcases snoc_get hx with ⟨h1, h2⟩ | ⟨rfl, rfl⟩
    · rw [up_other _ _ (Or.inr (by omega)), up_other _ _ (Or.inr (by omega)), up_cell _ _ (by omega)]
      exact hf.2.2 i x h2
    · refine ⟨?_, ?_⟩
      · have : (100 * pt + cd) / 100 = pt := by omega
        rw [this]
        exact up_self σ 20 _ _
      · have : (100 * pt + cd) % 100 = cd := by omega
        rw [this]
        exact up_self _ 21 _ _
  · rw [up_cell _ _ a, up_cell _ _ (by omega), up_cell _ _ (by omega)]
  · rw [up_other _ _ (Or.inr a), up_cell _ _ (by omega), up_cell _ _ (by omega)]
theorem FM.wait {σ : sS} {L : List Nat} {w : Nat} (h : FM σ L w) : FM (up σ 0 34 (nI (w + 1))) L (w + 1) ∧ fdK σ (up σ 0 34 (nI (w + 1))) :=
  ⟨⟨by rw [up_other _ _ (Or.inr (by omega))]; exact h.1, up_self _ _ _ _, fun i x hx => by rw [up_cell _ _ (by omega), up_cell _ _ (by omega)]; exact h.2.2 i x hx⟩, ⟨fun c a b e => up_cell _ _ a, fun i a b => up_other _ _ (Or.inr b)⟩⟩
theorem c_MO_isBelow (Y : List kd) (d b : Nat) (hb : b < 2 ^ 31) (σ : sS) (k : Int32 → sS → Prop) : ∀ n r, r < 2 ^ 31 → r / 10 ^ n ≤ b → k (if blw n r b then 1 else 0) σ → CJ Y d y_MO_isBelow [sI (nI r), sI (nI b)] σ (rI k) := by
  have key : ∀ n r, r < 2 ^ 31 → r / 10 ^ n ≤ b → k (if blw n r b then 1 else 0) σ → Jd Y d y_MO_isBelow 2 [(1, sI (nI b)), (2, sI (nI r))] [] σ (rI k) := by
    have fin : ∀ r, r < 2 ^ 31 → ¬ b < r → k (if decide (r = b) then 1 else 0) σ → Jd Y d y_MO_isBelow 2 [(1, sI (nI b)), (2, sI (nI r))] [] σ (rI k) := by
      intro r hr hn hk
      refine s_MO_isBelow_2 Y d _ _ σ (rI k) ⟨fun _ => ⟨fun hne => ⟨Or.inl rfl, ?_⟩, fun he => ⟨Or.inr rfl, ?_⟩⟩, fun h => absurd ((i32_lt hb hr).mp h) hn⟩
      · rw [i32_eq hr hb] at hne
        rw [decide_eq_false hne] at hk
        exact hk
      · rw [i32_eq hr hb] at he
        rw [decide_eq_true he] at hk
        exact hk
    intro n
    induction n with
    | zero =>
      intro r hr hd hk
      rw [Nat.pow_zero, Nat.div_one] at hd
      exact fin r hr (by omega) hk
    | succ n ih =>
      intro r hr hd hk
      have e : blw (n + 1) r b = if b < r then blw n (r / 10) b else decide (r = b) := rfl
      rw [e] at hk
      by_cases h : b < r
      · rw [if_pos h] at hk
        refine s_MO_isBelow_2 Y d _ _ σ (rI k) ⟨fun hn => absurd ((i32_lt hb hr).mpr h) hn, fun _ => ⟨by decide, ?_⟩⟩
        rw [show (10 : Int32) = nI 10 from rfl, nI_div _ _ hr (by omega)]
        refine ih (r / 10) (by omega) ?_ hk
        rw [Nat.div_div_eq_div_mul, ← Nat.pow_succ']
        exact hd
      · rw [if_neg h] at hk
        exact fin r hr h hk
  intro n r hr hd hk
  exact s_MO_isBelow_0 Y d _ _ σ (rI k) (key n r hr hd hk)
theorem c_MO_isAnyBelow (Y : List kd) (d : Nat) {σ : sS} {A M : List Nat} {w : Nat} (hf : FM σ (A ++ M) w) (hl : (A ++ M).length ≤ 16384) (hok : okF M) (b : Nat) (hb : b < 2 ^ 31) (k : Int32 → sS → Prop) (hk : k (if anyB M b then 1 else 0) σ) : CJ Y (d + 1) y_MO_isAnyBelow [sR 0 (.inl 6), sI (nI A.length), sI (nI b)] σ (rI k) := by
  refine s_MO_isAnyBelow_0 Y d 0 _ _ σ (rI k) ?_
  have key : ∀ (M : List Nat) (A : List Nat), FM σ (A ++ M) w → (A ++ M).length ≤ 16384 → okF M → k (if anyB M b then 1 else 0) σ → Jd Y (d + 1) y_MO_isAnyBelow 2 [(0, sR 0 (.inl 6)), (2, sI (nI b)), (3, sI (nI A.length))] [] σ (rI k) := by
    intro M
    induction M with
    | nil =>
      intro A hf hl hok hk
      rw [List.append_nil] at hf hl
      refine s_MO_isAnyBelow_2 Y d 0 _ _ σ (rI k) ⟨fun _ => ⟨Or.inl rfl, hk⟩, fun h => ?_⟩
      rw [hf.1, i32_lt (by omega) (by omega)] at h
      omega
    | cons f M ih =>
      intro A hf hl hok hk
      have hll : (A ++ f :: M).length = A.length + M.length + 1 := by rw [List.length_append, List.length_cons]; omega
      have hg : (A ++ f :: M)[A.length]? = some f := by rw [List.getElem?_append_right (Nat.le_refl _), Nat.sub_self]; rfl
      have hfx := hok f List.mem_cons_self
      have ecb : anyB (f :: M) b = (blw 6 (f / 100) b || anyB M b) := List.any_cons
      have ef : A ++ f :: M = A ++ [f] ++ M := by rw [List.append_assoc]; rfl
      have nx := ih (A ++ [f])
      rw [← ef, show (A ++ [f]).length = A.length + 1 from by rw [List.length_append]; rfl] at nx
      refine s_MO_isAnyBelow_2 Y d 0 _ _ σ (rI k) ⟨fun h => ?_, fun _ => ⟨vinI (by omega) (by omega), ?_⟩⟩
      · rw [hf.1, i32_lt (by omega) (by omega)] at h
        omega
      · rw [cl_nI (by omega), show σ (0 + 20) A.length = _ from (hf.2.2 _ _ hg).1]
        refine c_MO_isBelow Y d b hb σ _ 6 _ (by omega) ?_ ?_
        · have : f / 100 / 10 ^ 6 = 0 := by omega
          omega
        · rw [ecb] at hk
          cases hbl : blw 6 (f / 100) b with
          | true =>
            rw [hbl] at hk
            exact ⟨fun h => absurd h (by decide), fun _ => ⟨Or.inr rfl, hk⟩⟩
          | false =>
            rw [hbl] at hk
            refine ⟨fun _ => ?_, fun h => absurd rfl h⟩
            rw [nI_s1]
            exact nx hf hl (fun y hy => hok y (List.mem_cons_of_mem _ hy)) hk
  exact key M A hf hl hok hk
theorem cnt_mono (p : Nat → Bool) {a b : Nat} (h : a ≤ b) : cnt p a ≤ cnt p b := by
  induction b with
  | zero =>
    have : a = 0 := by omega
    subst this
    exact Nat.le_refl _
  | succ b ih =>
    by_cases e : a = b + 1
    · subst e; exact Nat.le_refl _
    · exact Nat.le_trans (ih (by omega)) (Nat.le_add_right _ _)
theorem cnt_lt (p : Nat → Bool) {a b : Nat} (h : a < b) (hp : p a = true) : cnt p a < cnt p b := by
  have h1 := cnt_mono p (show a + 1 ≤ b by omega)
  have h2 : cnt p (a + 1) = cnt p a + 1 := by
    show cnt p a + (if p a then 1 else 0) = _
    rw [hp]; rfl
  omega
theorem cnt_ex (p : Nat → Bool) {k : Nat} : ∀ n, k < cnt p n → ∃ f, f < n ∧ p f = true ∧ cnt p f = k
  | 0, h => absurd h (Nat.not_lt_zero _)
  | n + 1, h => by
    have e : cnt p (n + 1) = cnt p n + (if p n then 1 else 0) := rfl
    rw [e] at h
    rcases Nat.lt_or_ge k (cnt p n) with z | z
    · obtain ⟨f, a, b, c⟩ := cnt_ex p n z
      exact ⟨f, by omega, b, c⟩
    · cases hp : p n with
      | true =>
        rw [hp] at h
        have h : k < cnt p n + 1 := h
        exact ⟨n, by omega, hp, by omega⟩
      | false =>
        rw [hp] at h
        have h : k < cnt p n + 0 := h
        omega
/-- the fields' rows against the children of a check of a record -/
theorem WFC.fld {c : CT} (wc : WFC c) {q f : Nat} (hq : q < cM c) (hs : cF c 0 q = 123) (hf : f < cN c) (ho : cO c f = q) : cK c f < cF c 10 q := by
  have h := (wc.2.2.2.2.2.2.2.2.1 q hq hs).2.2
  rw [← h]
  unfold cK
  rw [ho]
  exact cnt_lt _ hf (by simp [ho])
theorem WFC.fldEx {c : CT} (wc : WFC c) {q k : Nat} (hq : q < cM c) (hs : cF c 0 q = 123) (hk : k < cF c 10 q) : ∃ f, f < cN c ∧ cO c f = q ∧ cK c f = k := by
  have h := (wc.2.2.2.2.2.2.2.2.1 q hq hs).2.2
  rw [← h] at hk
  obtain ⟨f, a, b, e⟩ := cnt_ex _ _ hk
  have b := of_decide_eq_true b
  refine ⟨f, a, b, ?_⟩
  unfold cK
  rw [b]
  exact e
theorem c_MO_isToldField (Y : List kd) (d : Nat) {c : CT} (wc : WFC c) {σ : sS} (hc : MC σ c) {q dg : Nat} (hq : q < cM c) (hs : cF c 0 q = 123) (h5 : dg ≤ 5) (k : Int32 → sS → Prop) (hk : k (if kno c q dg then 1 else 0) σ) : CJ Y d y_MO_isToldField [sR 0 (.inl 6), sI (nI q), sI (nI dg)] σ (rI k) := by
  have hn := wc.2.2.2.1
  have hm := wc.2.1
  refine s_MO_isToldField_0 Y d 0 _ _ σ (rI k) ?_
  have key : ∀ m i, i + m = cN c → (∀ f, f < i → cO c f = q → cF c 4 (cch c q (cK c f)) ≠ dg) → Jd Y d y_MO_isToldField 2 [(0, sR 0 (.inl 6)), (1, sI (nI q)), (2, sI (nI dg)), (3, sI (nI i))] [] σ (rI k) := by
    intro m
    induction m with
    | zero =>
      intro i hi hno
      refine s_MO_isToldField_2 Y d 0 _ _ _ σ (rI k) ⟨fun _ => ⟨Or.inl rfl, ?_⟩, fun h => ?_⟩
      · have : kno c q dg = false := pB_f (fun ⟨kk, h1, h2⟩ => by
          obtain ⟨f, a, b, e⟩ := wc.fldEx hq hs h1
          refine hno f (by omega) b ?_
          rw [e]
          exact h2)
        rw [this] at hk
        exact hk
      · rw [hc.2.1, i32_lt (by omega) (by omega)] at h
        omega
    | succ m ih =>
      intro i hi hno
      have hiN : i < cN c := by omega
      obtain ⟨e12, e13, -, -⟩ := hc.2.2.2.2.1 i hiN
      have ho := wc.2.2.2.2.2.2.2.2.2.2 i hiN
      have hkk := wc.fld ho.1 ho.2 hiN rfl
      have hcc : cch c (cO c i) (cK c i) < cM c := ch_part wc.2.2.2.2.1 ho.1 hkk
      have hdg := (wc.2.2.2.2.2.2.2.1 _ hcc).2.2.2.1
      have vi : vp_in (nI i) 25 := vinI (by omega) (by omega)
      have nx : (cO c i = q → cF c 4 (cch c q (cK c i)) ≠ dg) → Jd Y d y_MO_isToldField 32 [(0, sR 0 (.inl 6)), (1, sI (nI q)), (2, sI (nI dg)), (3, sI (nI i))] [] σ (rI k) := by
        intro h
        refine s_MO_isToldField_32 Y d 0 _ _ _ σ (rI k) ?_
        rw [nI_s1]
        refine ih (i + 1) (by omega) (fun f hf => ?_)
        by_cases z : f = i
        · subst z; exact h
        · exact hno f (by omega)
      refine s_MO_isToldField_2 Y d 0 _ _ _ σ (rI k) ⟨fun h => ?_, fun _ => ⟨vi, ?_⟩⟩
      · rw [hc.2.1, i32_lt (by omega) (by omega)] at h
        omega
      · rw [cl_nI (by omega), show σ (0 + 12) i = _ from e12, show σ (0 + 13) i = _ from e13, i32_eq (by omega) (by omega), i32_eq (by omega) (by omega)]
        refine ⟨fun h => nx (fun z => absurd z h), fun h => ⟨vi, fun h2 => nx (fun z => by rw [← z]; exact h2), fun h2 => ⟨Or.inr rfl, ?_⟩⟩⟩
        have : kno c q dg = true := pB_t ⟨cK c i, by rw [← h]; exact hkk, by rw [← h]; exact h2⟩
        rw [this] at hk
        exact hk
  exact key (cN c) 0 (by omega) (fun f hf => absurd hf (Nat.not_lt_zero _))
theorem c_MO_fieldAt (Y : List kd) (d : Nat) {c : CT} (wc : WFC c) {σ : sS} (hc : MC σ c) {q j : Nat} (hq : q < cM c) (hs : cF c 0 q = 123) (hj : j ≤ cF c 10 q) (k : Int32 → sS → Prop) (h1 : ∀ f, f < cN c → cO c f = q → cK c f = j → k (nI f) σ) (h0 : j = cF c 10 q → k (-9) σ) : CJ Y d y_MO_fieldAt [sR 0 (.inl 6), sI (nI q), sI (nI j)] σ (rI k) := by
  have hn := wc.2.2.2.1
  have hm := wc.2.1
  have hcnt := (wc.2.2.2.2.2.2.2.2.1 q hq hs).2.2
  have hK24 : cF c 10 q ≤ 24 := by
    have h1 := (wc.2.2.2.2.1 q hq)
    have := ch_big wc.2.2.2.2.1 hq (cF c 10 q) (Nat.le_refl _)
    omega
  refine s_MO_fieldAt_0 Y d 0 _ _ σ (rI k) ?_
  have key : ∀ m i l, i + m = cN c → l + cnt (fun g => decide (cO c g = q)) i = j → Jd Y d y_MO_fieldAt 5 [(0, sR 0 (.inl 6)), (1, sI (nI q)), (3, sI (nI l)), (4, sI (nI i))] [] σ (rI k) := by
    intro m
    induction m with
    | zero =>
      intro i l hi hl
      refine s_MO_fieldAt_5 Y d 0 _ _ _ σ (rI k) ⟨fun _ => h0 ?_, fun h => ?_⟩
      · have : i = cN c := by omega
        rw [this, hcnt] at hl
        omega
      · rw [hc.2.1, i32_lt (by omega) (by omega)] at h
        omega
    | succ m ih =>
      intro i l hi hl
      have hiN : i < cN c := by omega
      obtain ⟨e12, -⟩ := hc.2.2.2.2.1 i hiN
      have ho := wc.2.2.2.2.2.2.2.2.2.2 i hiN
      have ec : cnt (fun g => decide (cO c g = q)) (i + 1) = cnt (fun g => decide (cO c g = q)) i + (if decide (cO c i = q) then 1 else 0) := rfl
      refine s_MO_fieldAt_5 Y d 0 _ _ _ σ (rI k) ⟨fun h => ?_, fun _ => ⟨vinI (by omega) (by omega), ?_⟩⟩
      · rw [hc.2.1, i32_lt (by omega) (by omega)] at h
        omega
      · rw [cl_nI (by omega), show σ (0 + 12) i = _ from e12, i32_eq (by omega) (by omega)]
        refine ⟨fun h => ⟨fun hne => ?_, fun he => h1 i hiN h ?_⟩, fun h => ?_⟩
        · rw [z_eq (by omega) 0 (by omega)] at hne
          refine s_MO_fieldAt_38 Y d 0 _ _ _ σ (rI k) ?_
          have e1 : nI l + -1 = nI (l - 1) := by
            rw [show (nI l + -1 : Int32) = nI l - 1 from by rw [Int32.sub_eq_add_neg], show (1 : Int32) = nI 1 from rfl, nI_subm (by omega)]
          rw [e1, nI_s1]
          refine ih (i + 1) (l - 1) (by omega) ?_
          rw [ec, decide_eq_true h, if_pos rfl]
          omega
        · rw [z_eq (by omega) 0 (by omega)] at he
          unfold cK
          rw [h]
          omega
        · refine s_MO_fieldAt_38 Y d 0 _ _ _ σ (rI k) ?_
          rw [nI_s1]
          refine ih (i + 1) l (by omega) ?_
          rw [ec, decide_eq_false h]
          exact hl
  exact key (cN c) 0 j (by omega) rfl
