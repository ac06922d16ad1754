/-! the class's Gatherer: what is found -/
def FX (σ : sS) (L : List Nat) (w : Nat) : Prop := σ 15 3 = nI L.length ∧ σ 15 4 = nI w ∧ ∀ i x, L[i]? = some x → σ 37 i = nI x
def xK (σ σ' : sS) : Prop := (∀ c, c ≠ 15 → c ≠ 37 → σ' c = σ c) ∧ ∀ i, i ≠ 3 → i ≠ 4 → σ' 15 i = σ 15 i
theorem xK.refl (σ : sS) : xK σ σ := ⟨fun _ _ _ => rfl, fun _ _ _ => rfl⟩
theorem xK.trans {σ σ1 σ2 : sS} (h : xK σ σ1) (g : xK σ1 σ2) : xK σ σ2 := ⟨fun c a b => by rw [g.1 c a b, h.1 c a b], fun i a b => by rw [g.2 i a b, h.2 i a b]⟩
def GX (Y : List kd) (σ : sS) (tr : Nat) (v : VT) (c : CT) : Prop := σ 15 1 = nI tr ∧ tr + 7 ≤ 15 ∧ Y[tr]? = some (.inl 3) ∧ XV σ tr v ∧ XC σ 16 c
theorem GX.kept {Y : List kd} {σ σ' : sS} {tr : Nat} {v : VT} {c : CT} (h : GX Y σ tr v c) (hk : xK σ σ') : GX Y σ' tr v c := ⟨by rw [hk.2 1 (by omega) (by omega)]; exact h.1, h.2.1, h.2.2.1, h.2.2.2.1.kept (fun x h1 h2 => hk.1 x (by have := h.2.1; omega) (by have := h.2.1; omega)), h.2.2.2.2.kept (fun x h1 h2 => hk.1 x (by omega) (by omega))⟩
theorem GX.tr {Y : List kd} {σ : sS} {tr : Nat} {v : VT} {c : CT} (h : GX Y σ tr v c) : (σ 15 1).toNatClampNeg = tr := by
  rw [h.1]
  have := h.2.1
  exact cl_nI (by omega)
theorem GX.ref {Y : List kd} {σ : sS} {tr : Nat} {v : VT} {c : CT} (h : GX Y σ tr v c) : Y[(σ 15 1).toNatClampNeg]? = some (.inl 3) := by
  rw [h.tr]
  exact h.2.2.1
theorem snoc_get {L : List Nat} {y i x : Nat} (h : (L ++ [y])[i]? = some x) : (i < L.length ∧ L[i]? = some x) ∨ (i = L.length ∧ x = y) := by
  rcases Nat.lt_or_ge i L.length with z | z
  · rw [List.getElem?_append_left z] at h
    exact Or.inl ⟨z, h⟩
  · rw [List.getElem?_append_right z] at h
    have hl := (List.getElem?_eq_some_iff.mp h).1
    have e : i - L.length = 0 := by simpa using hl
    rw [e] at h
    exact Or.inr ⟨by omega, (Option.some.inj h).symm⟩
theorem c_GA_add (Y : List kd) (d : Nat) {σ : sS} {L : List Nat} {w : Nat} (hf : FX σ L w) (hl : L.length < 6144) (pt cd : Nat) (k : sS → Prop) (hk : ∀ σ', FX σ' (L ++ [100 * pt + cd]) w → xK σ σ' → k σ') : CJ Y (d + 1) y_GA_add [sR 15 (.inl 1), sI (nI pt), sI (nI cd)] σ (rN k) := by
  refine s_GA_add_0 Y d 15 _ _ σ (rN k) ⟨fun h => ?_, fun _ => ?_⟩
  · rw [hf.1, show (6144 : Int32) = nI 6144 from rfl, i32_lt (by omega) (by omega)] at h
    omega
  · rw [hf.1, show (100 : Int32) = nI 100 from rfl, pk_mul, nI_add, wr_nI (by omega) (by omega), up_cell _ _ (show (15 : Nat) ≠ 15 + 22 by omega), hf.1, nI_s1]
    refine hk _ ⟨?_, ?_, fun i x hx => ?_⟩ ⟨fun c a b => ?_, fun i a b => ?_⟩
    · rw [up_self, List.length_append]; rfl
    · rw [up_other _ _ (Or.inr (by omega)), up_cell _ _ (by omega)]; exact hf.2.1
    · rw [up_cell _ _ (by omega)]
      rcases snoc_get hx with ⟨h1, h2⟩ | ⟨rfl, rfl⟩
      · show up σ 37 L.length _ 37 i = _
        rw [up_other _ _ (Or.inr (by omega))]
        exact hf.2.2 i x h2
      · exact up_self σ 37 _ _
    · rw [up_cell _ _ a, up_cell _ _ (by omega)]
    · rw [up_other _ _ (Or.inr a), up_cell _ _ (by omega)]
/-- one more waits -/
theorem FX.wait {σ : sS} {L : List Nat} {w : Nat} (h : FX σ L w) : FX (up σ 15 4 (nI (w + 1))) L (w + 1) ∧ xK σ (up σ 15 4 (nI (w + 1))) :=
  ⟨⟨by rw [up_other _ _ (Or.inr (by omega))]; exact h.1, up_self _ _ _ _, fun i x hx => by rw [up_cell _ _ (by omega)]; exact h.2.2 i x hx⟩, ⟨fun c a b => up_cell _ _ a, fun i a b => up_other _ _ (Or.inr b)⟩⟩
/-- faults that an int can hold -/
def okF (L : List Nat) : Prop := ∀ x ∈ L, x < 10000000
theorem okF_app {L M : List Nat} (h : okF L) (g : okF M) : okF (L ++ M) := fun x hx => by
  rcases List.mem_append.mp hx with z | z
  · exact h x z
  · exact g x z
theorem okF_nil : okF [] := fun x hx => absurd hx List.not_mem_nil
theorem okF_one {x : Nat} (h : x < 10000000) : okF [x] := fun y hy => by rw [List.mem_singleton] at hy; subst hy; exact h
theorem okF_fold {g : Nat → List Nat × Nat} : ∀ n, (∀ k, k < n → okF (g k).1) → okF (foldR g n).1
  | 0, _ => okF_nil
  | n + 1, h => okF_app (okF_fold n fun k hk => h k (by omega)) (h n (by omega))
theorem okF_dep1 {c : CT} {v : VT} (w : WFV v) {p : Nat} (hp : p < v.1) {s : List Nat × Nat} (h : okF s.1) (u : Nat) : okF (dep1 c v p s u).1 := by
  unfold dep1
  split
  · rename_i a b ha hb
    obtain ⟨k, hk, rfl, e⟩ := kidO_nI w hp hb
    have := w.road4 (w.kchlt hp hk).2
    split
    · exact h
    · split
      · split
        · exact h
        · exact okF_app h (okF_one (by omega))
      · split
        · exact h
        · exact okF_app h (okF_one (by omega))
  · exact h
theorem okF_dep {c : CT} {v : VT} (w : WFV v) {p : Nat} (hp : p < v.1) (f : Nat) {s : List Nat × Nat} (h : okF s.1) : ∀ k, okF (depK c v p f s k).1
  | 0 => h
  | k + 1 => okF_dep1 w hp (okF_dep w hp f h k) _
theorem okF_str {c : CT} {v : VT} (w : WFV v) {q p : Nat} (hp : p < v.1) : okF (strL c v q p (v.2 2 p)).1 := by
  refine okF_fold _ (fun k hk => ?_)
  have := w.road4 (w.kchlt hp hk).2
  show okF (if _ then _ else _ : List Nat × Nat).1
  split
  · exact okF_nil
  · exact okF_one (by omega)
theorem okF_fld {c : CT} (wc : WFC c) {v : VT} (w : WFV v) {q p : Nat} (hq : q < cM c) (hp : p < v.1) {look : Nat → Nat → List Nat × Nat} (hl : ∀ r x, r < cM c → x < v.1 → okF (look r x).1) {k : Nat} (hk : k < cF c 10 q) : okF (fldK look c v q p k).1 := by
  unfold fldK
  cases hx : kidO v p (cF c 4 (cch c q k)) with
  | some x =>
    obtain ⟨j, hj, rfl, -⟩ := kidO_nI w hp hx
    exact hl _ _ (ch_part wc.2.2.2.2.1 hq hk) (w.kchlt hp hj).2
  | none =>
    have h1 := (wc.2.2.2.2.2.2.2.1 _ (ch_part wc.2.2.2.2.1 hq hk)).2.2.2.1
    have h1 : cF c 4 (cch c q k) ≤ 5 := h1
    have h2 := w.road4 hp
    show okF (if _ then _ else _ : List Nat × Nat).1
    split
    · exact okF_one (by omega)
    · exact okF_nil
theorem WFC.c1 {c : CT} (wc : WFC c) {q : Nat} (hq : q < cM c) (h : cF c 0 q = 33 ∨ cF c 0 q = 126 ∨ cF c 0 q = 64 ∨ cF c 0 q = 38 ∨ cF c 0 q = 47) : 0 < cF c 10 q ∧ q + 1 < cM c := by
  have : 0 < cF c 10 q := by
    rw [(wc.2.2.2.2.2.2.2.1 q hq).2.2.2.2.2.2.1]
    unfold inMany
    rcases h with z | z | z | z | z <;> rw [z] <;> simp
  exact ⟨this, ch_part wc.2.2.2.2.1 hq this⟩
theorem WFC.c2 {c : CT} (wc : WFC c) {q : Nat} (hq : q < cM c) (h : cF c 0 q = 47) : 1 < cF c 10 q ∧ q + 1 + cF c 3 (q + 1) < cM c := by
  have : 1 < cF c 10 q := by
    rw [(wc.2.2.2.2.2.2.2.1 q hq).2.2.2.2.2.2.1]
    unfold inMany
    rw [h]; simp
  exact ⟨this, ch_part wc.2.2.2.2.1 hq this⟩
theorem okF_lk {c : CT} (wc : WFC c) {v : VT} (w : WFV v) : ∀ n q p, q < cM c → p < v.1 → okF (lk c v n q p).1 := by
  intro n
  induction n with
  | zero => intro q p _ _; exact okF_nil
  | succ n ih =>
    intro q p hq hp
    have h2 := w.road4 hp
    show okF (if cF c 0 q = 35 then _ else _ : List Nat × Nat).1
    split
    · show okF (numL c v q p)
      unfold numL
      split
      · exact okF_one (by omega)
      · split
        · exact okF_one (by omega)
        · split
          · exact okF_one (by omega)
          · exact okF_nil
    · split
      · rename_i z
        split
        · exact okF_one (by omega)
        · exact ih _ _ (wc.c1 hq (Or.inl z)).2 hp
      · split
        · rename_i z
          split
          · exact okF_nil
          · exact ih _ _ (wc.c1 hq (Or.inr (Or.inl z))).2 hp
        · split
          · exact ih _ _ (by have := wc.1; omega) hp
          · split
            · split
              · exact okF_dep w hp _ (okF_app (okF_fold _ fun k hk => okF_fld wc w hq hp (fun r x hr hx => ih r x hr hx) hk) (okF_str w hp)) _
              · exact okF_one (by omega)
            · split
              · rename_i z
                split
                · refine okF_app ?_ (okF_fold _ fun k hk => ih _ _ (wc.c1 hq (Or.inr (Or.inr (Or.inl z)))).2 (w.kchlt hp hk).2)
                  unfold lenL
                  split
                  · exact okF_one (by omega)
                  · exact okF_nil
                · exact okF_one (by omega)
              · split
                · rename_i z
                  split
                  · show okF (if v.2 0 p = 3 then (twL v p (v.2 2 p)).1 else [])
                    split
                    · refine okF_fold _ (fun k hk => ?_)
                      have := w.road4 (w.kchlt hp hk).2
                      show okF (if _ then _ else _ : List Nat × Nat).1
                      split
                      · exact okF_one (by omega)
                      · exact okF_nil
                    · exact okF_nil
                  · exact ih _ _ (wc.c1 hq (Or.inr (Or.inr (Or.inr (Or.inl z))))).2 hp
                · split
                  · rename_i z
                    split
                    · exact ih _ _ (wc.c1 hq (Or.inr (Or.inr (Or.inr (Or.inr z))))).2 hp
                    · split
                      · exact ih _ _ (wc.c2 hq z).2 hp
                      · exact ih _ _ (wc.c1 hq (Or.inr (Or.inr (Or.inr (Or.inr z))))).2 hp
                  · exact okF_nil
theorem c_GA_goesOnFrom (Y : List kd) (d r b : Nat) (hr : r < 2 ^ 31) (hb : b < 2 ^ 31) (σ : sS) (k : Int32 → sS → Prop) (hk : k (if blw 6 r b then 1 else 0) σ) : CJ Y d y_GA_goesOnFrom [sI (nI r), sI (nI b)] σ (rI k) := by
  refine s_GA_goesOnFrom_0 Y d _ _ σ (rI k) ?_
  have fin : ∀ r, r < 2 ^ 31 → k (if decide (r = b) then 1 else 0) σ → Jd Y d y_GA_goesOnFrom 25 [(1, sI (nI b)), (2, sI (nI r))] [] σ (rI k) := by
    intro r hr hk
    refine s_GA_goesOnFrom_25 Y d _ _ σ (rI k) ⟨fun hne => ⟨Or.inl rfl, ?_⟩, fun he => ⟨Or.inr rfl, ?_⟩⟩
    · rw [i32_eq hr hb] at hne
      rw [decide_eq_false hne] at hk
      exact hk
    · rw [i32_eq hr hb] at he
      rw [decide_eq_true he] at hk
      exact hk
  have key : ∀ n i r, i + n = 6 → r < 2 ^ 31 → k (if blw n r b then 1 else 0) σ → Jd Y d y_GA_goesOnFrom 4 [(1, sI (nI b)), (2, sI (nI r)), (3, sI (nI i))] [] σ (rI k) := by
    intro n
    induction n with
    | zero =>
      intro i r hi hr hk
      refine s_GA_goesOnFrom_4 Y d _ _ _ σ (rI k) ⟨fun _ => fin r hr hk, fun h => ?_⟩
      rw [show (5 : Int32) = nI 5 from rfl, i32_lt (by omega) (by omega)] at h
      omega
    | succ n ih =>
      intro i r hi hr hk
      have e : blw (n + 1) r b = if b < r then blw n (r / 10) b else decide (r = b) := rfl
      rw [e] at hk
      refine s_GA_goesOnFrom_4 Y d _ _ _ σ (rI k) ⟨fun h => ?_, fun _ => ⟨fun h => ?_, fun h => ⟨by decide, ?_⟩⟩⟩
      · rw [show (5 : Int32) = nI 5 from rfl, i32_lt (by omega) (by omega)] at h
        omega
      · rw [i32_lt hb hr] at h
        rw [if_neg h] at hk
        exact fin r hr hk
      · rw [i32_lt hb hr] at h
        rw [if_pos h] at hk
        rw [show (10 : Int32) = nI 10 from rfl, nI_div _ _ hr (by omega), nI_s1]
        exact ih (i + 1) (r / 10) (by omega) (by omega) hk
  exact key 6 0 r (by omega) hr hk
/-- how many of them go on from a path -/
def cB (L : List Nat) (b : Nat) : Nat := L.countP (fun f => blw 6 (f / 100) b)
theorem cB_any (L : List Nat) (b : Nat) : 0 < cB L b ↔ anyB L b = true := by
  unfold cB anyB
  rw [List.countP_pos_iff, List.any_eq_true]
theorem cB_le (L : List Nat) (b : Nat) : cB L b ≤ L.length := List.countP_le_length
theorem c_GA_countBelow (Y : List kd) (d : Nat) {σ : sS} {A M : List Nat} {w : Nat} (hf : FX σ (A ++ M) w) (hl : (A ++ M).length ≤ 6144) (hok : okF M) (b : Nat) (hb : b < 2 ^ 31) (k : Int32 → sS → Prop) (hk : k (nI (cB M b)) σ) : CJ Y (d + 1) y_GA_countBelow [sR 15 (.inl 1), sI (nI b), sI (nI A.length)] σ (rI k) := by
  refine s_GA_countBelow_0 Y d 15 _ _ σ (rI k) ?_
  have key : ∀ (M : List Nat) (A : List Nat) (x : Nat), FX σ (A ++ M) w → (A ++ M).length ≤ 6144 → okF M → k (nI (x + cB M b)) σ → Jd Y (d + 1) y_GA_countBelow 5 [(0, sR 15 (.inl 1)), (1, sI (nI b)), (3, sI (nI x)), (4, sI (nI A.length))] [] σ (rI k) := by
    intro M
    induction M with
    | nil =>
      intro A x hf hl hok hk
      rw [List.append_nil] at hf hl
      refine s_GA_countBelow_5 Y d 15 _ _ _ σ (rI k) ⟨fun _ => hk, fun h => ?_⟩
      rw [hf.1, i32_lt (by omega) (by omega)] at h
      omega
    | cons f M ih =>
      intro A x hf hl hok hk
      have hll : (A ++ f :: M).length = A.length + M.length + 1 := by rw [List.length_append, List.length_cons]; omega
      have hg : (A ++ f :: M)[A.length]? = some f := by rw [List.getElem?_append_right (Nat.le_refl _), Nat.sub_self]; rfl
      have hfx := hok f List.mem_cons_self
      have erd : rd σ (15 + 22) 6144 (nI A.length) = nI f := by
        rw [rd_nI (by omega) (by omega)]
        exact hf.2.2 _ _ hg
      have ecb : cB (f :: M) b = cB M b + if blw 6 (f / 100) b then 1 else 0 := List.countP_cons
      have ef : A ++ f :: M = A ++ [f] ++ M := by rw [List.append_assoc]; rfl
      have nx := ih (A ++ [f])
      rw [← ef, show (A ++ [f]).length = A.length + 1 from by rw [List.length_append]; rfl] at nx
      refine s_GA_countBelow_5 Y d 15 _ _ _ σ (rI k) ⟨fun h => ?_, fun _ => ⟨by decide, ?_⟩⟩
      · rw [hf.1, i32_lt (by omega) (by omega)] at h
        omega
      · rw [erd, show (100 : Int32) = nI 100 from rfl, nI_div _ _ (by omega) (by omega)]
        refine c_GA_goesOnFrom Y d _ _ (by omega) hb σ _ ?_
        rw [ecb] at hk
        cases hbl : blw 6 (f / 100) b with
        | true =>
          rw [hbl] at hk
          refine ⟨fun h => absurd h (by decide), fun _ => ?_⟩
          refine s_GA_countBelow_36 Y d 15 _ _ _ σ (rI k) ?_
          rw [nI_s1, nI_s1]
          refine nx (x + 1) hf hl (fun y hy => hok y (List.mem_cons_of_mem _ hy)) ?_
          have : x + 1 + cB M b = x + (cB M b + 1) := by omega
          rw [this]
          exact hk
        | false =>
          rw [hbl] at hk
          refine ⟨fun _ => ?_, fun h => absurd rfl h⟩
          refine s_GA_countBelow_36 Y d 15 _ _ _ σ (rI k) ?_
          rw [nI_s1]
          exact nx x hf hl (fun y hy => hok y (List.mem_cons_of_mem _ hy)) hk
  refine key M A 0 hf hl hok ?_
  rw [Nat.zero_add]
  exact hk
theorem c_PL_knows (Y : List kd) (d t : Nat) {c : CT} (wc : WFC c) {σ : sS} (hc : XC σ t c) {q dg : Nat} (hq : q < cM c) (h3 : cF c 0 q = 123) (h1 : 1 ≤ dg) (h5 : dg ≤ 5) (k : Int32 → sS → Prop) (hk : k (if kno c q dg then 1 else 0) σ) : CJ Y (d + 1) y_PL_knows [sR t (.inl 2), sI (nI q), sI (nI dg)] σ (rI k) := by
  have hm := wc.2.1
  have hn := (wc.2.2.2.2.2.2.2.1 q hq).2.2.2.2.2.1
  have hb := (wc.2.2.2.2.2.2.2.2.1 q hq h3).1 dg h1 h5
  have e7 : rd σ (t + 8) 24 (nI q) = nI (cF c 7 q) := hc.ra wc (f := 7) (by omega) hq rfl
  have bit : ∀ n, n < 63 → ∀ e, e < 6 → (((nI n >>> (nI e &&& 31)) &&& 1 = 1) ↔ n / 2 ^ e % 2 = 1) := by decide +kernel
  have hb2 := bit (cF c 7 q) (by omega) dg (by omega)
  refine s_PL_knows_0 Y d t _ _ σ (rI k) ⟨fun hne => ⟨Or.inl rfl, ?_⟩, fun he => ⟨Or.inr rfl, ?_⟩⟩
  · rw [e7] at hne
    have : kno c q dg = false := pB_f (fun z => hne (hb2.mpr (hb.mpr z)))
    rw [this] at hk
    exact hk
  · rw [e7] at he
    have : kno c q dg = true := pB_t (hb.mp (hb2.mp he))
    rw [this] at hk
    exact hk
