/-! the law's values: made, grown, copied -/
/-- a value whose root lies apart from what is in it -/
def RL (μ : dW) (F G : Nat → Prop) (d a : Nat) (t : Tr (d + 1)) : Prop := ∃ (b c : Nat) (g : Nat → Int32) (h : Nat → Option Nat), μ a = some (eO 7 [.int (nI (trK t)), .int (nI (trN t)), .ref b, .ref c]) ∧ F a ∧ F b ∧ F c ∧ μ b = some (eA 0 (trC t).length g) ∧ μ c = some (eR 0 (trC t).length h) ∧
    ∀ (j : Nat) (q : Nat × Tr d), (trC t)[j]? = some q → g j = nI q.1 ∧ ∃ a', h j = some a' ∧ VL μ G d a' q.2
theorem RL.vl {μ : dW} {F G : Nat → Prop} {d a : Nat} {t : Tr (d + 1)} (h : RL μ F G d a t) (hG : ∀ q, G q → F q) : VL μ F (d + 1) a t := by
  obtain ⟨b, c, g, hh, h1, f1, f2, f3, h2, h3, h4⟩ := h
  refine ⟨b, c, g, hh, h1, f1, f2, f3, h2, h3, fun j q hj => ?_⟩
  obtain ⟨e1, a', e2, e3⟩ := h4 j q hj
  exact ⟨e1, a', e2, e3.kept hG (fun _ _ _ => rfl)⟩
theorem RL.obj {μ : dW} {F G : Nat → Prop} {d a : Nat} {t : Tr (d + 1)} (h : RL μ F G d a t) : ∃ fs, μ a = some (eO 7 fs) := by
  obtain ⟨b, c, g, hh, h1, -⟩ := h; exact ⟨_, h1⟩
theorem RL.kept {μ μ' : dW} {F G : Nat → Prop} {d a : Nat} {t : Tr (d + 1)} (h : RL μ F G d a t) (hk : ∀ q, μ q ≠ none → μ' q = μ q) : RL μ' F G d a t := by
  obtain ⟨b, c, g, hh, h1, f1, f2, f3, h2, h3, h4⟩ := h
  refine ⟨b, c, g, hh, by rw [hk a (by rw [h1]; simp)]; exact h1, f1, f2, f3, by rw [hk b (by rw [h2]; simp)]; exact h2, by rw [hk c (by rw [h3]; simp)]; exact h3, fun j q hj => ?_⟩
  obtain ⟨e1, a', e2, e3⟩ := h4 j q hj
  exact ⟨e1, a', e2, e3.kept (fun _ z => z) (fun q _ hq => hk q hq)⟩
/-- what was there stays -/
def Ext (μ μ' : dW) : Prop := ∀ q, μ q ≠ none → μ' q = μ q
theorem Ext.refl (μ : dW) : Ext μ μ := fun _ _ => rfl
theorem Ext.trans {μ μ1 μ2 : dW} (h : Ext μ μ1) (g : Ext μ1 μ2) : Ext μ μ2 := fun q hq => by
  have e := h q hq
  rw [g q (by rw [e]; exact hq), e]
theorem Ext.fresh {μ μ' : dW} (h : Ext μ μ') {q : Nat} (hq : μ' q = none) : μ q = none := by
  cases hm : μ q with
  | none => rfl
  | some e => rw [← hm, ← h q (by rw [hm]; simp)]; exact hq
theorem ext_new {μ : dW} {q : Nat} (hq : μ q = none) (e : dE) : Ext μ (dset μ q e) := fun x hx => dset_ne _ _ (fun z => hx (z ▸ hq))
theorem ne_none {μ : dW} {q : Nat} {e : dE} (h : μ q = some e) : μ q ≠ none := by rw [h]; simp
theorem ne_fresh {μ : dW} {q x : Nat} {e : dE} (h : μ q = some e) (hx : μ x = none) : q ≠ x := fun z => by rw [z, hx] at h; cases h
theorem c_VA_init (B : dB) (ax : Nat → Nat) (d D u K N : Nat) (hu : 2 ≤ u) {σ : sS} {μ : dW} {a : Nat} (ha : μ a = some (eO 7 (dfl 7))) (k : sS → dW → Prop) (hk : ∀ μ', RL μ' (fun q => q = a ∨ μ q = none) (fun _ => False) d a (trmk K N []) → (∀ q, q ≠ a → μ q ≠ none → μ' q = μ q) → k σ μ') : DCJ B ax (D + 1) u y_VA_init [.ref a, .int (nI K), .int (nI N)] σ μ (qN k) := by
  have e1 : (Int32.toNatClampNeg 0) = 0 := rfl
  refine s_VA_init_0 B ax D u a _ _ σ μ _ ⟨by decide, by rw [e1]; omega, by decide, fun q1 h1 => ?_⟩
  have n1 : a ≠ q1 := ne_fresh ha h1
  refine ⟨_, (dset_ne _ _ n1).trans ha, by decide, by decide, by rw [e1]; omega, by decide, fun q2 h2 => ?_⟩
  have n2 : q2 ≠ a := fun z => by rw [z, dset_same] at h2; cases h2
  rw [dset_ne _ _ n2] at h2
  have n3 : q2 ≠ q1 := fun z => by rw [z, dset_same] at h2; cases h2
  rw [dset_ne _ _ n3] at h2
  refine ⟨_, (dset_ne _ _ (Ne.symm n2)).trans (dset_same _ _ _), Nat.le_of_ble_eq_true rfl, ?_⟩
  refine ⟨_, dset_same _ _ _, Nat.le_of_ble_eq_true rfl, _, dset_same _ _ _, Nat.le_of_ble_eq_true rfl, ?_⟩
  refine hk _ ⟨q1, q2, fun _ => 0, fun _ => none, ?_, Or.inl rfl, Or.inr h1, Or.inr h2, ?_, ?_, fun j q hj => ?_⟩ (fun q hq hn => ?_)
  · rw [dset_same]; rfl
  · rw [dset_ne _ _ (Ne.symm n1), dset_ne _ _ (Ne.symm n1), dset_ne _ _ (Ne.symm n1), dset_ne _ _ (Ne.symm n3), dset_ne _ _ (Ne.symm n1), dset_same]; rfl
  · rw [dset_ne _ _ n2, dset_ne _ _ n2, dset_ne _ _ n2, dset_same]; rfl
  · have : (trC (trmk K N ([] : List (Nat × Tr d))))[j]? = none := by rw [trC_mk]; simp
    rw [this] at hj
    cases hj
  · have m1 : q ≠ q1 := fun z => hn (z ▸ h1)
    have m2 : q ≠ q2 := fun z => hn (z ▸ h2)
    rw [dset_ne _ _ hq, dset_ne _ _ hq, dset_ne _ _ hq, dset_ne _ _ m2, dset_ne _ _ hq, dset_ne _ _ m1]
theorem c_VA_add (B : dB) (ax : Nat → Nat) (d D u : Nat) {σ : sS} {μ : dW} {F G : Nat → Prop} {a y : Nat} {t : Tr (d + 1)} {T : Tr d} (hR : RL μ F G d a t) (hy : VL μ G d y T) (hGa : ¬ G a) (hF : ∀ q, μ q = none → F q) (nm : Nat) (hlen : (trC t).length ≤ 100) (hu : 2 * ((trC t).length + 2) ≤ u) (k : sS → dW → Prop)
    (hk : ∀ μ', RL μ' F G d a (trmk (trK t) (trN t) (trC t ++ [(nm, T)])) → (∀ q, q ≠ a → μ q ≠ none → μ' q = μ q) → k σ μ') : DCJ B ax D u y_VA_add [.ref a, .int (nI nm), .ref y] σ μ (qN k) := by
  obtain ⟨b, c, g, h, h1, f1, f2, f3, h2, h3, h4⟩ := hR
  generalize hn : (trC t).length = n at *
  have en : (nI n + 1).toNatClampNeg = n + 1 := by rw [nI_s1, nI_clamp (by omega)]
  refine s_VA_add_0 B ax D u a _ y σ μ _ ⟨_, b, h1, rfl, 0, n, g, h2, Nat.zero_le _, by rw [nI_s1]; exact nI_pos (by omega), by rw [en]; omega, by rw [en]; omega, fun q3 hq3 => ?_⟩
  rw [en]
  have a3 : a ≠ q3 := ne_fresh h1 hq3
  have c3 : c ≠ q3 := ne_fresh h3 hq3
  refine ⟨_, c, (dset_ne _ _ a3).trans h1, rfl, 0, n, h, (dset_ne _ _ c3).trans h3, Nat.zero_le _, by rw [nI_s1]; exact nI_pos (by omega), by rw [en]; omega, by rw [en]; omega, fun q7 hq7 => ?_⟩
  rw [en]
  have n73 : q7 ≠ q3 := fun z => by rw [z, dset_same] at hq7; cases hq7
  rw [dset_ne _ _ n73] at hq7
  have a7 : a ≠ q7 := ne_fresh h1 hq7
  have c7 : c ≠ q7 := ne_fresh h3 hq7
  have b3 : b ≠ q3 := ne_fresh h2 hq3
  have b7 : b ≠ q7 := ne_fresh h2 hq7
  have y3 : y ≠ q3 := by obtain ⟨fs, hy0⟩ := hy.obj; exact ne_fresh hy0 hq3
  have y7 : y ≠ q7 := by obtain ⟨fs, hy0⟩ := hy.obj; exact ne_fresh hy0 hq7
  have loop : ∀ m j (μ1 : dW) (u1 : Nat) (g3 : Nat → Int32) (h7 : Nat → Option Nat), j + m = n → (∀ q, q ≠ q3 → q ≠ q7 → μ1 q = μ q) → μ1 q3 = some (eA 0 (n + 1) g3) → μ1 q7 = some (eR 0 (n + 1) h7) → (∀ i, i < j → g3 i = g i ∧ h7 i = h i) →
      DJ B ax D u1 y_VA_add 25 [(0, .ref a), (1, .int (nI nm)), (2, .ref y), (3, .ref q3), (4, .ref q7), (5, .int (nI j))] [] σ μ1 (qN k) := by
    intro m
    induction m with
    | zero =>
      intro j μ1 u1 g3 h7 hj hq m3 m7 hold
      have ej : j = n := by omega
      subst ej
      have ea : μ1 a = _ := (hq a a3 a7).trans h1
      have ec : μ1 c = _ := (hq c c3 c7).trans h3
      refine s_VA_add_25 B ax D u1 a _ y q3 q7 _ σ μ1 _ ⟨_, c, ea, rfl, 0, _, h, ec, Nat.zero_le _, fun _ => ?_, fun hlt => absurd hlt (nI_nlt (Nat.le_refl _) (by omega))⟩
      refine ⟨_, c, ea, rfl, 0, _, h, ec, Nat.zero_le _, _, g3, m3, vp_in_nI (by omega) (by omega), ?_⟩
      rw [nI_clamp (by omega)]
      refine ⟨_, c, (dset_ne _ _ a3).trans ea, rfl, 0, _, h, (dset_ne _ _ c3).trans ec, Nat.zero_le _, ?_⟩
      obtain ⟨fs, hy0⟩ := hy.obj
      refine ⟨0, _, h7, fs, (dset_ne _ _ n73).trans m7, Nat.zero_le _, vp_in_nI (by omega) (by omega), (dset_ne _ _ y3).trans ((hq y y3 y7).trans hy0), ?_⟩
      rw [nI_clamp (by omega)]
      refine ⟨_, (dset_ne _ _ a7).trans ((dset_ne _ _ a3).trans ea), Nat.le_of_ble_eq_true rfl, _, dset_same _ _ _, Nat.le_of_ble_eq_true rfl, ?_⟩
      have keep : ∀ q, q ≠ a → μ q ≠ none → (dset (dset (dset (dset μ1 q3 (eA 0 (j + 1) (upd g3 j (nI nm)))) q7 (eR 0 (j + 1) (va_up h7 j (some y)))) a (eO 7 ([Value.int (nI (trK t)), Value.int (nI (trN t)), Value.ref b, Value.ref c].set 2 (.ref q3)))) a (eO 7 (([Value.int (nI (trK t)), Value.int (nI (trN t)), Value.ref b, Value.ref c].set 2 (.ref q3)).set 3 (.ref q7)))) q = μ q := by
        intro q qa qn
        have x3 : q ≠ q3 := fun z => qn (z ▸ hq3)
        have x7 : q ≠ q7 := fun z => qn (z ▸ hq7)
        rw [dset_ne _ _ qa, dset_ne _ _ qa, dset_ne _ _ x7, dset_ne _ _ x3, hq q x3 x7]
      refine hk _ ⟨q3, q7, upd g3 j (nI nm), va_up h7 j (some y), ?_, f1, hF _ hq3, hF _ hq7, ?_, ?_, fun i q hi => ?_⟩ keep
      · rw [dset_same]; rfl
      · rw [dset_ne _ _ (Ne.symm a3), dset_ne _ _ (Ne.symm a3), dset_ne _ _ (Ne.symm n73), dset_same, trC_mk, List.length_append, hn]; rfl
      · rw [dset_ne _ _ (Ne.symm a7), dset_ne _ _ (Ne.symm a7), dset_same, trC_mk, List.length_append, hn]; rfl
      · rw [trC_mk] at hi
        by_cases z : i < j
        · rw [List.getElem?_append_left (by omega)] at hi
          obtain ⟨e1, a', e2, e3⟩ := h4 i q hi
          have ho := hold i z
          refine ⟨by rw [pk_un (by omega), ho.1]; exact e1, a', ?_, e3.kept (fun _ z => z) (fun x hx hxn => keep x (fun z => hGa (z ▸ hx)) hxn)⟩
          show (if i = j then _ else _) = _
          rw [if_neg (by omega), ho.2]
          exact e2
        · have hl := (List.getElem?_eq_some_iff.mp hi).1
          rw [List.length_append, List.length_singleton] at hl
          have ei : i = j := by omega
          subst ei
          have hq2 : q = (nm, T) := by
            rw [List.getElem?_append_right (by omega), hn, Nat.sub_self] at hi
            exact (Option.some.inj hi).symm
          subst hq2
          refine ⟨pk_us, y, ?_, hy.kept (fun _ z => z) (fun x hx hxn => keep x (fun z => hGa (z ▸ hx)) hxn)⟩
          show (if i = i then _ else _) = _
          rw [if_pos rfl]
    | succ m ih =>
      intro j μ1 u1 g3 h7 hj hq m3 m7 hold
      have ea : μ1 a = _ := (hq a a3 a7).trans h1
      have eb : μ1 b = _ := (hq b b3 b7).trans h2
      have ec : μ1 c = _ := (hq c c3 c7).trans h3
      obtain ⟨q, hqq⟩ := at_len (l := trC t) (j := j) (m := m) (by omega)
      obtain ⟨e1, a', e2, e3⟩ := h4 j q hqq
      obtain ⟨fs, ha0⟩ := e3.obj
      have z3 : a' ≠ q3 := ne_fresh ha0 hq3
      have z7 : a' ≠ q7 := ne_fresh ha0 hq7
      refine s_VA_add_25 B ax D u1 a _ y q3 q7 _ σ μ1 _ ⟨_, c, ea, rfl, 0, _, h, ec, Nat.zero_le _, fun hno => absurd (nI_lt (by omega) (by omega)) hno, fun _ => ?_⟩
      refine ⟨_, b, ea, rfl, _, g, eb, vp_in_nI (by omega) (by omega), _, g3, m3, vp_in_nI (by omega) (by omega), ?_⟩
      rw [nI_clamp (by omega)]
      refine ⟨_, c, (dset_ne _ _ a3).trans ea, rfl, 0, _, h, a', (dset_ne _ _ c3).trans ec, Nat.zero_le _, vp_in_nI (by omega) (by omega), by rw [nI_clamp (by omega)]; exact e2, ?_⟩
      refine ⟨0, _, h7, fs, (dset_ne _ _ n73).trans m7, Nat.zero_le _, vp_in_nI (by omega) (by omega), (dset_ne _ _ z3).trans ((hq a' z3 z7).trans ha0), ?_⟩
      rw [nI_clamp (by omega), nI_s1]
      refine ih (j + 1) _ _ (upd g3 j (g j)) (va_up h7 j (some a')) (by omega) (fun q x3 x7 => ?_) ?_ ?_ (fun i hi => ?_)
      · rw [dset_ne _ _ x7, dset_ne _ _ x3, hq q x3 x7]
      · rw [dset_ne _ _ (Ne.symm n73), dset_same]
      · rw [dset_same]
      · by_cases z : i = j
        · subst z
          refine ⟨pk_us, ?_⟩
          show (if i = i then _ else _) = _
          rw [if_pos rfl, e2]
        · obtain ⟨o1, o2⟩ := hold i (by omega)
          refine ⟨by rw [pk_un z]; exact o1, ?_⟩
          show (if i = j then _ else _) = _
          rw [if_neg z]
          exact o2
  refine loop n 0 _ _ (fun _ => 0) (fun _ => none) (by omega) (fun q x3 x7 => ?_) ?_ ?_ (fun i hi => absurd hi (Nat.not_lt_zero _))
  · rw [dset_ne _ _ x7, dset_ne _ _ x3]
  · rw [dset_ne _ _ (Ne.symm n73), dset_same]
  · rw [dset_same]
theorem sumf_le {α : Type} (f : α → Nat) (b : Nat) : ∀ (l : List α), (∀ q ∈ l, f q ≤ b) → sumf f l ≤ l.length * b
  | [], _ => by simp [sumf]
  | q :: r, h => by
    have h1 := h q List.mem_cons_self
    have h2 := sumf_le f b r (fun x hx => h x (List.mem_cons_of_mem _ hx))
    simp only [sumf, List.length_cons, Nat.succ_mul]
    omega
theorem sumf_ge {α : Type} (f : α → Nat) : ∀ (l : List α), (∀ q ∈ l, 1 ≤ f q) → l.length ≤ sumf f l
  | [], _ => by simp [sumf]
  | q :: r, h => by
    have h1 := h q List.mem_cons_self
    have h2 := sumf_ge f r (fun x hx => h x (List.mem_cons_of_mem _ hx))
    simp only [sumf, List.length_cons]
    omega
theorem tsz_pos : ∀ {d : Nat} {t : Tr d}, twf d t → 1 ≤ tsz d t
  | 0, _, h => h.elim
  | d + 1, t, _ => by show 1 ≤ 1 + _; omega
theorem c_VA_copy (B : dB) (ax : Nat → Nat) {σ : sS} : ∀ (d : Nat) {μ : dW} {F : Nat → Prop} {a s : Nat} {t : Tr d} (D u : Nat), VL μ F d s t → twf d t → μ a = some (eO 7 (dfl 7)) → ¬ F a → d ≤ D → 11 * tsz d t ≤ u + 7 → ∀ (k : sS → dW → Prop), (∀ μ', VL μ' (fun q => q = a ∨ μ q = none) d a t → (∀ q, q ≠ a → μ q ≠ none → μ' q = μ q) → k σ μ') → DCJ B ax D u y_VA_copy [.ref a, .ref s] σ μ (qN k)
  | 0, μ, F, a, s, t, D, u, h, _, _, _, _, _, _, _ => h.elim
  | d + 1, μ, F, a, s, t, 0, u, _, _, _, _, hD, _, _, _ => absurd hD (Nat.not_succ_le_zero d)
  | d + 1, μ, F, a, s, t, D + 1, u, hv, hw, ha, hFa, hD, hu, k, hk => by
    obtain ⟨b, c, g, h, h1, f1, f2, f3, h2, h3, h4⟩ := hv
    obtain ⟨w1, w2, w2b, w3, w4, w5, w6, w7⟩ := hw
    have sz : tsz (d + 1) t = 1 + sumf (fun q => tsz d q.2) (trC t) := rfl
    have hge := sumf_ge (fun q => tsz d q.2) (trC t) (fun q hq => tsz_pos (w7 q hq).2.2.2)
    rw [sz] at hu
    generalize hn : (trC t).length = n at *
    have e1 : (Int32.toNatClampNeg 0) = 0 := rfl
    have as_ : s ≠ a := fun z => hFa (z ▸ f1)
    have ab : b ≠ a := fun z => hFa (z ▸ f2)
    have ac : c ≠ a := fun z => hFa (z ▸ f3)
    refine s_VA_copy_0 B ax D u a s σ μ _ ⟨by decide, by rw [e1]; omega, by decide, fun q1 hq1 => ?_⟩
    have a1 : a ≠ q1 := ne_fresh ha hq1
    refine ⟨_, (dset_ne _ _ a1).trans ha, by decide, by decide, by rw [e1]; omega, by decide, fun q2 hq2 => ?_⟩
    have a2 : q2 ≠ a := fun z => by rw [z, dset_same] at hq2; cases hq2
    rw [dset_ne _ _ a2] at hq2
    have n21 : q2 ≠ q1 := fun z => by rw [z, dset_same] at hq2; cases hq2
    rw [dset_ne _ _ n21] at hq2
    have s1 : s ≠ q1 := ne_fresh h1 hq1
    have s2 : s ≠ q2 := ne_fresh h1 hq2
    have b1 : b ≠ q1 := ne_fresh h2 hq1
    have b2 : b ≠ q2 := ne_fresh h2 hq2
    have c1' : c ≠ q1 := ne_fresh h3 hq1
    have c2' : c ≠ q2 := ne_fresh h3 hq2
    refine ⟨_, (dset_ne _ _ (Ne.symm a2)).trans (dset_same _ _ _), Nat.le_of_ble_eq_true rfl, ?_⟩
    refine ⟨_, _, (dset_ne _ _ as_).trans ((dset_ne _ _ s2).trans ((dset_ne _ _ as_).trans ((dset_ne _ _ s1).trans h1))), rfl, ?_⟩
    refine ⟨_, dset_same _ _ _, Nat.le_of_ble_eq_true rfl, ?_⟩
    refine ⟨_, _, (dset_ne _ _ as_).trans ((dset_ne _ _ as_).trans ((dset_ne _ _ s2).trans ((dset_ne _ _ as_).trans ((dset_ne _ _ s1).trans h1)))), rfl, ?_⟩
    refine ⟨_, dset_same _ _ _, Nat.le_of_ble_eq_true rfl, ?_⟩
    refine ⟨_, b, (dset_ne _ _ as_).trans ((dset_ne _ _ as_).trans ((dset_ne _ _ as_).trans ((dset_ne _ _ s2).trans ((dset_ne _ _ as_).trans ((dset_ne _ _ s1).trans h1))))), rfl, ?_⟩
    refine ⟨n, g, (dset_ne _ _ ab).trans ((dset_ne _ _ ab).trans ((dset_ne _ _ ab).trans ((dset_ne _ _ b2).trans ((dset_ne _ _ ab).trans ((dset_ne _ _ b1).trans h2))))), by rw [e1]; omega, fun q3 hq3 => ?_⟩
    have a3 : q3 ≠ a := fun z => by rw [z, dset_same] at hq3; cases hq3
    rw [dset_ne _ _ a3, dset_ne _ _ a3, dset_ne _ _ a3] at hq3
    have n32 : q3 ≠ q2 := fun z => by rw [z, dset_same] at hq3; cases hq3
    rw [dset_ne _ _ n32, dset_ne _ _ a3] at hq3
    have n31 : q3 ≠ q1 := fun z => by rw [z, dset_same] at hq3; cases hq3
    rw [dset_ne _ _ n31] at hq3
    have s3 : s ≠ q3 := ne_fresh h1 hq3
    have c3' : c ≠ q3 := ne_fresh h3 hq3
    refine ⟨⟨n, g, dset_same _ _ _⟩, _, (dset_ne _ _ (Ne.symm a3)).trans (dset_same _ _ _), Nat.le_of_ble_eq_true rfl, ?_⟩
    refine ⟨_, c, (dset_ne _ _ as_).trans ((dset_ne _ _ s3).trans ((dset_ne _ _ as_).trans ((dset_ne _ _ as_).trans ((dset_ne _ _ as_).trans ((dset_ne _ _ s2).trans ((dset_ne _ _ as_).trans ((dset_ne _ _ s1).trans h1))))))), rfl, ?_⟩
    refine ⟨0, n, h, (dset_ne _ _ ac).trans ((dset_ne _ _ c3').trans ((dset_ne _ _ ac).trans ((dset_ne _ _ ac).trans ((dset_ne _ _ ac).trans ((dset_ne _ _ c2').trans ((dset_ne _ _ ac).trans ((dset_ne _ _ c1').trans h3))))))), Nat.zero_le _, ?_⟩
    refine ⟨nI_pos (by omega), by rw [nI_clamp (by omega), e1]; omega, by rw [nI_clamp (by omega)]; omega, fun q4 hq4 => ?_⟩
    rw [nI_clamp (by omega)]
    have a4 : q4 ≠ a := fun z => by rw [z, dset_same] at hq4; cases hq4
    rw [dset_ne _ _ a4] at hq4
    have n43 : q4 ≠ q3 := fun z => by rw [z, dset_same] at hq4; cases hq4
    rw [dset_ne _ _ n43, dset_ne _ _ a4, dset_ne _ _ a4, dset_ne _ _ a4] at hq4
    have n42 : q4 ≠ q2 := fun z => by rw [z, dset_same] at hq4; cases hq4
    rw [dset_ne _ _ n42, dset_ne _ _ a4] at hq4
    have n41 : q4 ≠ q1 := fun z => by rw [z, dset_same] at hq4; cases hq4
    rw [dset_ne _ _ n41] at hq4
    refine ⟨_, (dset_ne _ _ (Ne.symm a4)).trans (dset_same _ _ _), Nat.le_of_ble_eq_true rfl, ?_⟩
    -- the world with the rows made
    generalize hA : (dset _ a _ : dW) = μA
    have A1 : ∀ q, q ≠ a → μ q ≠ none → μA q = μ q := by
      intro q qa qn
      have x1 : q ≠ q1 := fun z => qn (z ▸ hq1)
      have x2 : q ≠ q2 := fun z => qn (z ▸ hq2)
      have x3 : q ≠ q3 := fun z => qn (z ▸ hq3)
      have x4 : q ≠ q4 := fun z => qn (z ▸ hq4)
      rw [← hA, dset_ne _ _ qa, dset_ne _ _ x4, dset_ne _ _ qa, dset_ne _ _ x3, dset_ne _ _ qa, dset_ne _ _ qa, dset_ne _ _ qa, dset_ne _ _ x2, dset_ne _ _ qa, dset_ne _ _ x1]
    have A2 : μA a = some (eO 7 [.int (nI (trK t)), .int (nI (trN t)), .ref q3, .ref q4]) := by rw [← hA, dset_same]; rfl
    have A3 : μA q3 = some (eA 0 n g) := by rw [← hA, dset_ne _ _ a3, dset_ne _ _ (Ne.symm n43), dset_ne _ _ a3, dset_same]
    have A4 : μA q4 = some (eR 0 n (fun _ => none)) := by rw [← hA, dset_ne _ _ a4, dset_same]
    clear hA
    have nA : ∀ q, μA q = none → μ q = none := fun q hq => by
      cases hm : μ q with
      | none => rfl
      | some e =>
        have qa : q ≠ a := fun z => by rw [z, A2] at hq; cases hq
        rw [A1 q qa (by rw [hm]; simp), hm] at hq
        cases hq
    have cA4 : c ≠ q4 := ne_fresh h3 hq4
    have loop : ∀ m j (μ1 : dW) (u1 : Nat) (h7 : Nat → Option Nat), j + m = n → (∀ q, q ≠ q4 → μA q ≠ none → μ1 q = μA q) → μ1 q4 = some (eR 0 n h7) → (∀ i q, i < j → (trC t)[i]? = some q → ∃ a', h7 i = some a' ∧ VL μ1 (fun q => μA q = none) d a' q.2) →
        11 * sumf (fun q => tsz d q.2) ((trC t).drop j) ≤ u1 + 2 * m → DJ B ax (D + 1) u1 y_VA_copy 63 [(0, .ref a), (1, .ref s), (2, .int (nI j))] [] σ μ1 (qN k) := by
      intro m
      induction m with
      | zero =>
        intro j μ1 u1 h7 hj hq m4 hold hu1
        have ej : j = n := by omega
        subst ej
        have ea : μ1 a = _ := (hq a (Ne.symm a4) (ne_none A2)).trans A2
        refine s_VA_copy_63 B ax D u1 a s _ σ μ1 _ ⟨_, q4, ea, rfl, 0, _, h7, m4, Nat.zero_le _, fun _ => ?_, fun hlt => absurd hlt (nI_nlt (Nat.le_refl _) (by omega))⟩
        have keep : ∀ q, q ≠ a → μ q ≠ none → μ1 q = μ q := fun q qa qn => by
          have x4 : q ≠ q4 := fun z => qn (z ▸ hq4)
          have e := A1 q qa qn
          rw [hq q x4 (by rw [e]; exact qn), e]
        refine hk μ1 ⟨q3, q4, g, h7, ea, Or.inl rfl, Or.inr hq3, Or.inr hq4, ?_, by rw [hn]; exact m4, fun i q hi => ?_⟩ keep
        · rw [hn, hq q3 (Ne.symm n43) (ne_none A3)]; exact A3
        · obtain ⟨g1, -⟩ := h4 i q hi
          have hil := (List.getElem?_eq_some_iff.mp hi).1
          obtain ⟨a', e2, e3⟩ := hold i q (by omega) hi
          exact ⟨g1, a', e2, e3.kept (fun x hx => Or.inr (nA x hx)) (fun _ _ _ => rfl)⟩
      | succ m ih =>
        intro j μ1 u1 h7 hj hq m4 hold hu1
        have ea : μ1 a = _ := (hq a (Ne.symm a4) (ne_none A2)).trans A2
        obtain ⟨q, hqq⟩ := at_len (l := trC t) (j := j) (m := m) (by omega)
        obtain ⟨g1, s', g2, g3⟩ := h4 j q hqq
        have hmem := List.mem_of_getElem? hqq
        rw [get_drop hqq] at hu1
        simp only [sumf] at hu1
        have hsz1 : 1 ≤ tsz d q.2 := tsz_pos (w7 q hmem).2.2.2
        have hr := sumf_ge (fun q => tsz d q.2) ((trC t).drop (j + 1)) (fun q hq => tsz_pos (w7 q (List.mem_of_mem_drop hq)).2.2.2)
        rw [List.length_drop, hn] at hr
        refine s_VA_copy_63 B ax D u1 a s _ σ μ1 _ ⟨_, q4, ea, rfl, 0, _, h7, m4, Nat.zero_le _, fun hno => absurd (nI_lt (by omega) (by omega)) hno, fun _ => ?_⟩
        refine ⟨_, q4, ea, rfl, by show 5 ≤ u1; omega, fun q5 hq5 => ?_⟩
        have keepS : ∀ x, x ≠ a → μ x ≠ none → μ1 x = μ x := fun x xa xn => by
          have x4 : x ≠ q4 := fun z => xn (z ▸ hq4)
          have e := A1 x xa xn
          rw [hq x x4 (by rw [e]; exact xn), e]
        have s5 : s ≠ q5 := ne_fresh ((keepS s as_ (ne_none h1)).trans h1) hq5
        have c5 : c ≠ q5 := ne_fresh ((keepS c ac (ne_none h3)).trans h3) hq5
        have n54 : q4 ≠ q5 := ne_fresh m4 hq5
        refine ⟨_, c, (dset_ne _ _ s5).trans ((keepS s as_ (ne_none h1)).trans h1), rfl, 0, _, h, s', (dset_ne _ _ c5).trans ((keepS c ac (ne_none h3)).trans h3), Nat.zero_le _, vp_in_nI (by omega) (by omega), by rw [nI_clamp (by omega)]; exact g2, ?_⟩
        refine ⟨11 * tsz d q.2 - 7, by omega, ?_⟩
        have vS : VL (dset μ1 q5 (eO 7 (dfl 7))) (fun x => F x ∧ μ x ≠ none) d s' q.2 := by
          have v0 : VL μ (fun x => F x ∧ μ x ≠ none) d s' q.2 := VL.nn g3
          refine v0.kept (fun _ z => z) (fun x hx hxn => ?_)
          have xa : x ≠ a := fun z => hFa (z ▸ hx.1)
          have e := keepS x xa hxn
          rw [dset_ne _ _ (fun z => by rw [← z, e] at hq5; exact hxn hq5), e]
        refine c_VA_copy B ax d D _ vS (w7 q hmem).2.2.2 (dset_same _ _ _) (fun z => ?_) (by omega) (by omega) _ (fun μ2 v2 k2 => ?_)
        · -- the new cell is not one of the copied value's
          have e := keepS q5 (fun y => hFa (y ▸ z.1)) z.2
          rw [hq5] at e
          exact z.2 e.symm
        have d5 : ∀ x, x ≠ q5 → (dset μ1 q5 (eO 7 (dfl 7))) x = μ1 x := fun x hx => dset_ne _ _ hx
        have k3 : ∀ x, x ≠ q5 → μ1 x ≠ none → μ2 x = μ1 x := fun x hx hn1 => by rw [k2 x hx (by rw [d5 x hx]; exact hn1), d5 x hx]
        have m42 : μ2 q4 = some (eR 0 n h7) := (k3 q4 n54 (ne_none m4)).trans m4
        obtain ⟨fs, hob⟩ := v2.obj
        refine ⟨0, n, h7, fs, m42, Nat.zero_le _, vp_in_nI (by omega) (by omega), hob, ?_⟩
        rw [nI_clamp (by omega), nI_s1]
        have A5 : μA q5 = none := by
          cases hm : μA q5 with
          | none => rfl
          | some e =>
            rw [hq q5 (Ne.symm n54) (ne_none hm), hm] at hq5
            cases hq5
        refine ih (j + 1) _ _ (va_up h7 j (some q5)) (by omega) (fun x x4 xn => ?_) (dset_same _ _ _) (fun i q' hi hq' => ?_) (by omega)
        · have x5 : x ≠ q5 := fun z => xn (z ▸ A5)
          have e := hq x x4 xn
          rw [dset_ne _ _ x4, k3 x x5 (by rw [e]; exact xn), e]
        · by_cases z : i = j
          · subst z
            rw [hqq] at hq'
            cases hq'
            refine ⟨q5, ?_, v2.kept (fun x hx => ?_) (fun x hx hxn => dset_ne _ _ (fun y => ?_))⟩
            · show (if i = i then _ else _) = _
              rw [if_pos rfl]
            · rcases hx with rfl | hx
              · exact A5
              · by_cases y4 : x = q4
                · rw [y4, d5 q4 n54, m4] at hx; cases hx
                · cases hm : μA x with
                  | none => rfl
                  | some e =>
                    have x5 : x ≠ q5 := fun z => by rw [z, dset_same] at hx; cases hx
                    rw [d5 x x5, hq x y4 (ne_none hm), hm] at hx
                    cases hx
            · rcases hx with h9 | h9
              · exact n54 (y.symm.trans h9)
              · rw [y, d5 q4 n54, m4] at h9; cases h9
          · obtain ⟨a', o1, o2⟩ := hold i q' (by omega) hq'
            refine ⟨a', ?_, o2.kept (fun _ z => z) (fun x hx hxn => ?_)⟩
            · show (if i = j then _ else _) = _
              rw [if_neg z]
              exact o1
            · have x4 : x ≠ q4 := fun y => by rw [y, A4] at hx; cases hx
              have x5 : x ≠ q5 := fun y => hxn (by rw [y]; exact hq5)
              rw [dset_ne _ _ x4, k3 x x5 hxn]
    refine loop n 0 μA _ (fun _ => none) (by omega) (fun q _ _ => rfl) A4 (fun i q hi => absurd hi (Nat.not_lt_zero _)) ?_
    rw [List.drop_zero, e1]
    omega
