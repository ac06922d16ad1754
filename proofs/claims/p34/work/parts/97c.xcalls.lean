/-! the class's calls, as the law makes them -/
theorem WFV.road1 {v : VT} (h : WFV v) : ∀ n p q, p < n → q < n → p < v.1 → q < v.1 → v.2 5 p = v.2 5 q → p = q := by
  have root : ∀ q, q < v.1 → 0 < q → 1 ≤ v.2 5 q := by
    intro q hq h0
    obtain ⟨P, j, h1, h2, h3, h4, h5⟩ := h.hold hq h0
    have h6 := ((h.2.2.2.2.2.2.2 P h2).2.2.2.2.2.2 j h3).2.2.1
    have h7 := h.dig h2 h3
    rw [h4] at h6 h7
    omega
  have r0 := h.2.2.2.2.1
  intro n
  induction n with
  | zero => intro p q hp; omega
  | succ n ih =>
    intro p q hp hq hpv hqv e
    by_cases e1 : p = 0
    · by_cases e2 : q = 0
      · omega
      · have := root q hqv (by omega)
        subst e1
        omega
    · by_cases e2 : q = 0
      · have := root p hpv (by omega)
        subst e2
        omega
      · obtain ⟨P, i, h1, h2, h3, h4, h5⟩ := h.hold hpv (by omega)
        obtain ⟨Q, j, g1, g2, g3, g4, g5⟩ := h.hold hqv (by omega)
        have h6 := ((h.2.2.2.2.2.2.2 P h2).2.2.2.2.2.2 i h3).2.2.1
        have h7 := h.dig h2 h3
        have g6 := ((h.2.2.2.2.2.2.2 Q g2).2.2.2.2.2.2 j g3).2.2.1
        have g7 := h.dig g2 g3
        rw [h4] at h6 h7
        rw [g4] at g6 g7
        have := ih P Q (by omega) (by omega) h2 g2 (by omega)
        subst this
        have e3 : i = j := h.dig1 h2 h3 g3 (by rw [h4, g4]; omega)
        subst e3
        omega
theorem findV_road {v : VT} (h : WFV v) {p : Nat} (hp : p < v.1) : findV v (nI (v.2 5 p)) = p := by
  have hr := fun q (hq : q < v.1) => h.road4 hq
  have h1 : findV v (nI (v.2 5 p)) ≤ p := by
    rcases Nat.lt_or_ge p (findV v (nI (v.2 5 p))) with z | z
    · have := fst_no (fun q => decide (nI (v.2 5 q) = nI (v.2 5 p))) v.1 0 p (Nat.zero_le _) z
      simp at this
    · exact z
  have h2 := fst_at (fun q => decide (nI (v.2 5 q) = nI (v.2 5 p))) v.1 0 (show findV v (nI (v.2 5 p)) < 0 + v.1 by omega)
  have h2 : nI (v.2 5 (findV v (nI (v.2 5 p)))) = nI (v.2 5 p) := of_decide_eq_true h2
  rw [i32_eq (by have := hr _ (show findV v (nI (v.2 5 p)) < v.1 by omega); omega) (by have := hr p hp; omega)] at h2
  exact h.road1 v.1 _ _ (by omega) hp (by omega) hp h2
def smN (v : VT) : Nat → Nat
  | 0 => 0
  | i + 1 => smN v i + (if v.2 0 i = 0 then v.2 1 i else 0)
theorem smN_le {v : VT} (w : WFV v) : ∀ i, i ≤ v.1 → smN v i ≤ 99 * i
  | 0, _ => Nat.le_refl _
  | i + 1, h => by
    have h1 := smN_le w i (by omega)
    have h2 := (w.2.2.2.2.2.2.2 i (by omega)).2.1
    show smN v i + (if v.2 0 i = 0 then v.2 1 i else 0) ≤ 99 * (i + 1)
    by_cases z : v.2 0 i = 0
    · rw [if_pos z]; have := h2 z; omega
    · rw [if_neg z]; omega
theorem kd4 {v : VT} (w : WFV v) {p : Nat} (hp : p < v.1) : v.2 0 p ≤ 3 := (w.2.2.2.2.2.2.2 p hp).1
theorem take_cnt {F : List Nat} {i x : Nat} (f : Nat → Bool) (h : F[i]? = some x) : (F.take (i + 1)).countP f = (F.take i).countP f + if f x then 1 else 0 := by
  rw [List.take_succ, h, List.countP_append]
  simp [List.countP_cons]
theorem X_find {σ : sS} {v : VT} {c : CT} {n : Nat} {L : Nat → Nat} {m : Nat} {T : Nat → Nat} {rf : Nat → Int32} {im : Option (VT × CT)} (d : Nat) (w : WFV v) (h : AX σ v c n L m T rf im) (a : Int32) (k : Int32 → sS → Prop) (h1 : findV v a < v.1 → k (nI (findV v a)) σ) (h0 : ¬ findV v a < v.1 → k (-1) σ) : CJ LX (d + 1) y_TR_find [sR (0 + 1) (.inl 3), sI a] σ (rI k) := by
  refine c_TR_find LX d 1 w.2.1 h.1 a k ?_
  by_cases z : findV v a < v.1
  · rw [if_pos z]; exact h1 z
  · rw [if_neg z]; exact h0 z
theorem X_alike {σ : sS} {v : VT} {a b : Nat} (w : WFV v) (hv : XV σ 1 v) (ha : a < v.1) (hb : b < v.1) (D : Nat) (hD : 7 ≤ D) (k : Int32 → sS → Prop) (h1 : sameV v a b → k 1 σ) (h0 : ¬ sameV v a b → k 0 σ) : CJ LX D y_TR_alike [sR (0 + 1) (.inl 3), sI (nI a), sI (nI b)] σ (rI k) := CJ.mono (c_TR_alike LX 0 1 w hv 5 a b (by omega) ha hb k h1 h0) hD
def OKS (v : VT) (c : CT) (n : Nat) (L : Nat → Nat) (m : Nat) (T : Nat → Nat) (im : Option (VT × CT)) : Prop :=
  WFV v ∧ WFC c ∧ n ≤ 96 ∧ (∀ i, i < n → L i < 256) ∧ m ≤ 32 ∧ (∀ i, i < m → T i ≤ 99) ∧ ∀ v' c', im = some (v', c') → WFV v' ∧ WFC c'
def gdL (l : List Nat) (i : Nat) : Nat := (l[i]?).getD 0
theorem gdL_lt {l : List Nat} {i : Nat} (h : i < l.length) : gdL l i = l[i] := by unfold gdL; rw [List.getElem?_eq_getElem h]; rfl
theorem gdL_at (l : List Nat) : At (gdL l) 0 l := fun j x h => by unfold gdL; rw [Nat.zero_add, h]; rfl
def XL (σ : sS) (v : VT) (c : CT) (im : Option (VT × CT)) (l : List Nat) : Prop := ∃ m T rf, OKS v c l.length (gdL l) m T im ∧ AX σ v c l.length (gdL l) m T rf im
theorem XL.wv {σ : sS} {v : VT} {c : CT} {im : Option (VT × CT)} {l : List Nat} (h : XL σ v c im l) : WFV v := by obtain ⟨m, T, rf, o, -⟩ := h; exact o.1
theorem XL.wc {σ : sS} {v : VT} {c : CT} {im : Option (VT × CT)} {l : List Nat} (h : XL σ v c im l) : WFC c := by obtain ⟨m, T, rf, o, -⟩ := h; exact o.2.1
theorem XL.l96 {σ : sS} {v : VT} {c : CT} {im : Option (VT × CT)} {l : List Nat} (h : XL σ v c im l) : l.length ≤ 96 := by obtain ⟨m, T, rf, o, -⟩ := h; exact o.2.2.1
theorem x_letter {D : Nat} (hD : 300 ≤ D) {σ : sS} {v : VT} {c : CT} {im : Option (VT × CT)} {l : List Nat} (h : XL σ v c im l) {x : Nat} (hx : x < 256) (h96 : l.length < 96) (k : Int32 → sS → Prop) (hk : ∀ r σ', XL σ' v c im (l ++ [x]) → k r σ') : CJ LX D y_GF_letter [sR 0 (.inl 5), sI (nI x)] σ (rI k) := by
  obtain ⟨m, T, rf, ok, hx1⟩ := h
  obtain ⟨o1, o2, o3, o4, o5, o6, o7⟩ := id ok
  refine CJ.mono (d := 300) ?_ hD
  have h0 : ¬ nI x < 0 := nI_pos (by omega)
  obtain ⟨h1, h2, h3, h4, h5, h6, h7, h8, h9⟩ := hx1
  refine s_GF_letter_0 LX 299 0 _ σ (rI k) ⟨fun _ => ⟨fun z => ?_, fun _ => ⟨fun _ => ?_, fun z => ?_⟩⟩, fun z => absurd z h0⟩
  · rw [lit 255, i32_lt (by omega) (by omega)] at z
    omega
  · rw [h3, wr_nI h96 (by omega), up_self, up_cell _ _ (show 0 ≠ 0 + 64 by omega), h3, nI_s1]
    have u : ∀ y, y ≠ 0 → y ≠ 64 → (up (up σ (0 + 64) l.length (nI x)) 0 6 (nI (l.length + 1))) y = σ y := fun y a b => by rw [up_cell _ _ a, up_cell _ _ b]
    have u0 : ∀ i, i ≠ 6 → (up (up σ (0 + 64) l.length (nI x)) 0 6 (nI (l.length + 1))) 0 i = σ 0 i := fun i hi => by rw [up_other _ _ (Or.inr hi), up_cell _ _ (by omega)]
    have eg : ∀ i, i < (l ++ [x]).length → gdL (l ++ [x]) i = if i = l.length then x else gdL l i := fun i hi => by
      rw [List.length_append, List.length_singleton] at hi
      unfold gdL
      by_cases z : i = l.length
      · subst z; simp
      · rw [if_neg z, List.getElem?_append_left (by omega)]
    have el : (l ++ [x]).length = l.length + 1 := by simp
    refine hk _ _ ⟨m, T, rf, ⟨o1, o2, by rw [el]; omega, fun i hi => ?_, o5, o6, o7⟩, h1.kept (fun y a b => u y (by omega) (by omega)), h2.kept (fun y a b => u y (by omega) (by omega)), by rw [el]; exact up_self _ _ _ _, fun i hi => ?_, by rw [u0 8 (by omega)]; exact h5, fun i hi => by rw [u 65 (by omega) (by omega)]; exact h6 i hi, fun i hi => by rw [u 66 (by omega) (by omega)]; exact h7 i hi, fun e => by rw [u0 12 (by omega)]; exact h8 e, fun v' c' e => ?_⟩
    · rw [eg i hi]
      rw [el] at hi
      by_cases z : i = l.length
      · rw [if_pos z]; omega
      · rw [if_neg z]; exact o4 i (by omega)
    · rw [eg i hi, up_cell _ _ (by omega)]
      rw [el] at hi
      by_cases z : i = l.length
      · rw [if_pos z, z]; exact up_self _ _ _ _
      · rw [if_neg z, up_other _ _ (Or.inr z)]; exact h4 i (by omega)
    · obtain ⟨a1, a2, a3⟩ := h9 v' c' e
      exact ⟨by rw [u0 12 (by omega)]; exact a1, a2.kept (fun y a b => u y (by omega) (by omega)), a3.kept (fun y a b => u y (by omega) (by omega))⟩
  · rw [h3, lit 96, i32_lt (by omega) (by omega)] at z
    exact absurd h96 z
theorem x_value {D : Nat} (hD : 300 ≤ D) {σ : sS} {v : VT} {c : CT} {im : Option (VT × CT)} {l : List Nat} (h : XL σ v c im l) {r : Int32} {v2 : VT} (hv : vtold (gdL l) l.length = (r, some v2)) (k : Int32 → sS → Prop) (hk : ∀ σ', WFV v2 → XL σ' v2 c im [] → k r σ') : CJ LX D y_GF_value [sR 0 (.inl 5)] σ (rI k) := by
  obtain ⟨m, T, rf, ok, hx⟩ := h
  obtain ⟨o1, o2, o3, o4, o5, o6, o7⟩ := id ok
  refine CJ.mono (d := 300) ?_ hD
  have hLx : ∀ i, i < l.length → σ 64 i = nI (gdL l i) ∧ gdL l i < 256 := fun i hi => ⟨hx.2.2.2.1 i hi, o4 i hi⟩
  refine c_GF_value LX 293 l.length (gdL l) o3 hx.2.2.1 hLx k (fun σ' z => by rw [hv] at z; cases z) (fun v' σ' z w' g1 g6 g0 gx => ?_)
  rw [hv] at z ⊢
  cases z
  refine hk _ w' ⟨m, T, rf, ⟨w', o2, by simp, fun i hi => absurd hi (Nat.not_lt_zero _), o5, o6, o7⟩, ?_⟩
  obtain ⟨h1, h2, h3, h4, h5, h6, h7, h8, h9⟩ := hx
  refine ⟨g1, h2.kept (fun y a b => gx y (by omega) (by omega)), by rw [g6]; rfl, fun i hi => absurd hi (Nat.not_lt_zero _), by rw [g0 8 (by omega)]; exact h5, fun i hi => by rw [gx 65 (by omega) (by omega)]; exact h6 i hi, fun i hi => by rw [gx 66 (by omega) (by omega)]; exact h7 i hi, fun e => by rw [g0 12 (by omega)]; exact h8 e, fun v' c' e => ?_⟩
  obtain ⟨a1, a2, a3⟩ := h9 v' c' e
  exact ⟨by rw [g0 12 (by omega)]; exact a1, a2.kept (fun y a b => gx y (by omega) (by omega)), a3.kept (fun y a b => gx y (by omega) (by omega))⟩
theorem x_check {D : Nat} (hD : 300 ≤ D) {σ : sS} {v : VT} {c : CT} {im : Option (VT × CT)} {l : List Nat} (h : XL σ v c im l) {r : Int32} {c2 : CT} (hv : ctold (gdL l) l.length = (r, some c2)) (k : Int32 → sS → Prop) (hk : ∀ σ', WFC c2 → XL σ' v c2 im [] → k r σ') : CJ LX D y_GF_check [sR 0 (.inl 5)] σ (rI k) := by
  obtain ⟨m, T, rf, ok, hx⟩ := h
  obtain ⟨o1, o2, o3, o4, o5, o6, o7⟩ := id ok
  refine CJ.mono (d := 300) ?_ hD
  have hLx : ∀ i, i < l.length → σ 64 i = nI (gdL l i) ∧ gdL l i < 256 := fun i hi => ⟨hx.2.2.2.1 i hi, o4 i hi⟩
  refine c_GF_check LX 293 l.length (gdL l) o3 hx.2.2.1 hLx k (fun σ' z => by rw [hv] at z; cases z) (fun v' σ' z w' g1 g6 g0 gx => ?_)
  rw [hv] at z ⊢
  cases z
  refine hk _ w' ⟨m, T, rf, ⟨o1, w', by simp, fun i hi => absurd hi (Nat.not_lt_zero _), o5, o6, o7⟩, ?_⟩
  obtain ⟨h1, h2, h3, h4, h5, h6, h7, h8, h9⟩ := hx
  refine ⟨h1.kept (fun y a b => gx y (by omega) (by omega) (by omega)), g1, by rw [g6]; rfl, fun i hi => absurd hi (Nat.not_lt_zero _), by rw [g0 8 (by omega)]; exact h5, fun i hi => by rw [gx 65 (by omega) (by omega) (by omega)]; exact h6 i hi, fun i hi => by rw [gx 66 (by omega) (by omega) (by omega)]; exact h7 i hi, fun e => by rw [g0 12 (by omega)]; exact h8 e, fun v' c' e => ?_⟩
  obtain ⟨a1, a2, a3⟩ := h9 v' c' e
  exact ⟨by rw [g0 12 (by omega)]; exact a1, a2.kept (fun y a b => gx y (by omega) (by omega) (by omega)), a3.kept (fun y a b => gx y (by omega) (by omega) (by omega))⟩
theorem x_image {D : Nat} (hD : 300 ≤ D) {σ : sS} {v : VT} {c : CT} {im : Option (VT × CT)} {l : List Nat} (h : XL σ v c im l) (k : Int32 → sS → Prop) (hk : ∀ σ', XL σ' v c (some (v, c)) l → k (nI v.1) σ') : CJ LX D y_GF_image [sR 0 (.inl 5)] σ (rI k) := by
  obtain ⟨m, T, rf, ok, hx⟩ := h
  obtain ⟨o1, o2, o3, o4, o5, o6, o7⟩ := id ok
  refine CJ.mono (d := 300) ?_ hD
  obtain ⟨h1, h2, h3, h4, h5, h6, h7, h8, h9⟩ := hx
  refine s_GF_image_0 LX 299 0 σ (rI k) ?_
  refine c_TR_take LX 297 67 1 (Or.inl (by omega)) o1.2.1 h1 _ (fun σ1 a1 a2 => ?_)
  refine c_PL_take LX 297 74 16 (Or.inl (by omega)) o2 (h2.kept (fun x a b => a2 x (by omega))) _ (fun σ2 b1 b2 => ⟨Or.inr rfl, ?_⟩)
  have g : ∀ x, x ≠ 0 → x < 67 → (up σ2 0 12 1) x = σ x := fun x a b => by rw [up_cell _ _ a, b2 x (by omega), a2 x (by omega)]
  have g0 : ∀ i, i ≠ 12 → (up σ2 0 12 1) 0 i = σ 0 i := fun i hi => by rw [up_other _ _ (Or.inr hi), b2 0 (by omega), a2 0 (by omega)]
  have x1 : (up σ2 0 12 1) (0 + 1) 6 = nI v.1 := by rw [g 1 (by omega) (by omega)]; exact h1.1
  rw [x1]
  refine hk _ ⟨m, T, rf, ⟨o1, o2, o3, o4, o5, o6, fun v' c' e => by cases e; exact ⟨o1, o2⟩⟩, h1.kept (fun x a b => g x (by omega) (by omega)), h2.kept (fun x a b => g x (by omega) (by omega)), by rw [g0 6 (by omega)]; exact h3, fun i hi => by rw [g 64 (by omega) (by omega)]; exact h4 i hi, by rw [g0 8 (by omega)]; exact h5, fun i hi => by rw [g 65 (by omega) (by omega)]; exact h6 i hi, fun i hi => by rw [g 66 (by omega) (by omega)]; exact h7 i hi, fun e => (by cases e), fun v' c' e => ?_⟩
  cases e
  exact ⟨up_self _ _ _ _, a1.kept (fun x a b => by rw [up_cell _ _ (by omega), b2 x (by omega)]), b1.kept (fun x a b => up_cell _ _ (by omega))⟩
theorem x_on {D : Nat} (hD : 300 ≤ D) {σ : sS} {v v2 : VT} {c c2 : CT} {l : List Nat} (h : XL σ v c (some (v2, c2)) l) (k : Int32 → sS → Prop) (hk : ∀ σ', XL σ' v2 c2 (some (v2, c2)) l → k (nI v2.1) σ') : CJ LX D y_GF_on [sR 0 (.inl 5)] σ (rI k) := by
  obtain ⟨m, T, rf, ok, hx⟩ := h
  obtain ⟨o1, o2, o3, o4, o5, o6, o7⟩ := id ok
  refine CJ.mono (d := 300) ?_ hD
  obtain ⟨w2, wc2⟩ := o7 v2 c2 rfl
  obtain ⟨h1, h2, h3, h4, h5, h6, h7, h8, h9⟩ := hx
  obtain ⟨a1, a2, a3⟩ := h9 v2 c2 rfl
  refine s_GF_on_0 LX 299 0 σ (rI k) ⟨fun _ => ?_, fun z => by rw [a1] at z; exact absurd z (by decide)⟩
  refine c_TR_take LX 297 1 67 (Or.inr (by omega)) w2.2.1 a2 _ (fun σ1 b1 b2 => ?_)
  refine c_PL_take LX 297 16 74 (Or.inr (by omega)) wc2 (a3.kept (fun x a b => b2 x (by omega))) _ (fun σ2 d1 d2 => ?_)
  have g : ∀ x, (x < 1 ∨ 8 ≤ x) → (x < 16 ∨ 30 ≤ x) → σ2 x = σ x := fun x a b => by rw [d2 x (by omega), b2 x (by omega)]
  have x1 : σ2 (0 + 1) 6 = nI v2.1 := by rw [d2 1 (by omega)]; exact b1.1
  rw [x1]
  refine hk _ ⟨m, T, rf, ⟨w2, wc2, o3, o4, o5, o6, o7⟩, b1.kept (fun x a b => d2 x (by omega)), d1, by rw [g 0 (by omega) (by omega)]; exact h3, fun i hi => by rw [g 64 (by omega) (by omega)]; exact h4 i hi, by rw [g 0 (by omega) (by omega)]; exact h5, fun i hi => by rw [g 65 (by omega) (by omega)]; exact h6 i hi, fun i hi => by rw [g 66 (by omega) (by omega)]; exact h7 i hi, fun e => (by cases e), fun v' c' e => ?_⟩
  cases e
  exact ⟨by rw [g 0 (by omega) (by omega)]; exact a1, a2.kept (fun x a b => g x (by omega) (by omega)), a3.kept (fun x a b => g x (by omega) (by omega))⟩
/-- looked at: all faults lie there -/
theorem x_gather {σ : sS} {v : VT} {c : CT} {im : Option (VT × CT)} {l : List Nat} (h : XL σ v c im l) (k : Int32 → sS → Prop) (hk : ∀ σ', FX σ' (fl c v).1 (fl c v).2 → XL σ' v c im l → k (nI (fl c v).1.length) σ') : CJ LX 299 y_GA_gather [sR (0 + 15) (.inl 1), sR (0 + 1) (.inl 3)] σ (rI k) := by
  obtain ⟨m, T, rf, ok, hx⟩ := h
  exact X_gather 299 (by omega) ok.1 ok.2.1 hx _ (fun σ' g1 g2 _ => hk σ' g1 ⟨m, T, rf, ok, g2⟩)
theorem x_faults {D : Nat} (hD : 300 ≤ D) {σ : sS} {v : VT} {c : CT} {im : Option (VT × CT)} {l : List Nat} (h : XL σ v c im l) (k : Int32 → sS → Prop) (hk : ∀ σ', XL σ' v c im l → k (nI (fl c v).1.length) σ') : CJ LX D y_GF_faults [sR 0 (.inl 5)] σ (rI k) :=
  CJ.mono (d := 300) (s_GF_faults_0 LX 299 0 σ (rI k) (x_gather h _ (fun σ' _ g2 => hk _ g2))) hD
theorem x_waits {D : Nat} (hD : 300 ≤ D) {σ : sS} {v : VT} {c : CT} {im : Option (VT × CT)} {l : List Nat} (h : XL σ v c im l) (k : Int32 → sS → Prop) (hk : ∀ σ', XL σ' v c im l → k (nI (fl c v).2) σ') : CJ LX D y_GF_waits [sR 0 (.inl 5)] σ (rI k) := by
  refine CJ.mono (d := 300) (s_GF_waits_0 LX 299 0 σ (rI k) (x_gather h _ (fun σ' g1 g2 => ?_))) hD
  rw [show σ' (0 + 15) 4 = _ from g1.2.1]
  exact hk _ g2
theorem x_fault {D : Nat} (hD : 300 ≤ D) {σ : sS} {v : VT} {c : CT} {im : Option (VT × CT)} {l : List Nat} (h : XL σ v c im l) {i x : Nat} (hi : (fl c v).1[i]? = some x) (b : Int32) (hb : b = 0 ∨ b = 1) (k : Int32 → sS → Prop) (hk : ∀ σ', XL σ' v c im l → k (if b = 0 then nI (x / 100) else nI (x % 100)) σ') : CJ LX D y_GF_fault [sR 0 (.inl 5), sI (nI i), sI b] σ (rI k) := by
  have hl := fl_len h.wc h.wv
  have hok := fl_ok h.wc h.wv
  have hlt := (List.getElem?_eq_some_iff.mp hi).1
  refine CJ.mono (d := 300) ?_ hD
  have go16X : ∀ k, Jd LX 300 y_GF_fault 16 [(0, sR 0 (.inl 5)), (1, sI (nI i)), (2, sI b)] [] σ (rI k) → CJ LX 300 y_GF_fault [sR 0 (.inl 5), sI (nI i), sI b] σ (rI k) := by
    intro k g
    refine s_GF_fault_0 LX 299 0 _ _ σ (rI k) ⟨fun _ => g, fun n0 => ⟨fun _ => g, fun n1 => ?_⟩⟩
    rcases hb with z | z
    · exact absurd z n0
    · exact absurd z n1
  refine go16X k (s_GF_fault_16 LX 299 0 _ _ σ (rI k) (x_gather h _ (fun σ' g1 g2 => ?_)))
  rw [i32_lt (by omega) (by omega)]
  refine ⟨fun z => absurd z (nI_pos (by omega)), fun _ => ⟨fun _ => ⟨fun nb => ?_, fun eb => ?_⟩, fun z => absurd hlt z⟩⟩
  · rw [if_neg nb] at hk
    exact c_GA_codeAt 298 g1 (by omega) hok hi _ (hk _ g2)
  · rw [if_pos eb] at hk
    exact c_GA_pathAt 298 g1 (by omega) hok hi _ (hk _ g2)
theorem x_coded {D : Nat} (hD : 300 ≤ D) {σ : sS} {v : VT} {c : CT} {im : Option (VT × CT)} {l : List Nat} (h : XL σ v c im l) (x : Nat) (h1 : 1 ≤ x) (h12 : x ≤ 12) (k : Int32 → sS → Prop) (hk : ∀ σ', XL σ' v c im l → k (nI ((fl c v).1.countP (fun y => decide (y % 100 = x)))) σ') : CJ LX D y_GF_coded [sR 0 (.inl 5), sI (nI x)] σ (rI k) := by
  have hl := fl_len h.wc h.wv
  have hok := fl_ok h.wc h.wv
  refine CJ.mono (d := 300) ?_ hD
  obtain ⟨f, ef⟩ : ∃ f : Nat → Bool, f = fun y => decide (y % 100 = x) := ⟨_, rfl⟩
  obtain ⟨F, eF⟩ : ∃ F, (fl c v).1 = F := ⟨_, rfl⟩
  rw [eF] at hl hok
  rw [eF, ← ef] at hk
  have c1 : nI x < 1 ↔ x < 1 := i32_lt (b := 1) (by omega) (by omega)
  have c12 : (12 : Int32) < nI x ↔ 12 < x := i32_lt (a := 12) (by omega) (by omega)
  refine s_GF_coded_0 LX 299 0 _ σ (rI k) ⟨fun z => ?_, fun _ => ⟨fun _ => ?_, fun z => ?_⟩⟩
  · rw [c1] at z; omega
  · refine x_gather h _ (fun σ' g1 g2 => ?_)
    rw [eF] at g1
    refine s_GA_countCode_0 LX 298 15 _ σ' (rI _) ?_
    have key : ∀ r i, i + r = F.length → Jd LX 299 y_GA_countCode 4 [(0, sR 15 (.inl 1)), (1, sI (nI x)), (2, sI (nI ((F.take i).countP f))), (3, sI (nI i))] [] σ' (rI fun r2 σ2 => (rI k) (some (sI r2)) σ2) := by
      intro r
      induction r with
      | zero =>
        intro i hi
        refine s_GA_countCode_4 LX 298 15 _ _ _ σ' (rI _) ⟨fun _ => ?_, fun z => ?_⟩
        · rw [List.take_of_length_le (by omega)]
          exact hk _ g2
        · rw [g1.1, i32_lt (by omega) (by omega)] at z; omega
      | succ r ih =>
        intro i hi
        obtain ⟨y, y1, y2⟩ := at_some (show i < F.length by omega)
        have hyb := hok y y2
        have et := take_cnt f y1
        have hcl : (F.take i).countP f ≤ F.length := Nat.le_trans List.countP_le_length (by rw [List.length_take]; omega)
        refine s_GA_countCode_4 LX 298 15 _ _ _ σ' (rI _) ⟨fun z => ?_, fun _ => ?_⟩
        · rw [g1.1, i32_lt (by omega) (by omega)] at z; omega
        · refine c_GA_codeAt 297 g1 (by omega) hok y1 _ ?_
          rw [i32_eq (by omega) (by omega)]
          have nx := ih (i + 1) (by omega)
          rw [et] at nx
          refine ⟨fun z => ?_, fun z => ?_⟩
          · refine s_GA_countCode_24 LX 298 15 _ _ _ σ' (rI _) ?_
            rw [show f y = false by rw [ef]; exact decide_eq_false z] at nx
            rw [nI_s1]
            exact nx
          · refine s_GA_countCode_24 LX 298 15 _ _ _ σ' (rI _) ?_
            rw [show f y = true by rw [ef]; exact decide_eq_true z] at nx
            rw [nI_s1, nI_s1]
            exact nx
    exact key F.length 0 (by omega)
  · rw [c12] at z; omega
theorem blw0 : ∀ n r, r < 10 ^ n → blw n r 0 = true
  | 0, r, h => by
    have : r = 0 := by omega
    subst this; rfl
  | n + 1, r, h => by
    unfold blw
    by_cases z : 0 < r
    · rw [if_pos z]
      refine blw0 n _ ?_
      rw [Nat.pow_succ] at h
      omega
    · rw [if_neg z]
      exact decide_eq_true (by omega)
theorem x_below {D : Nat} (hD : 300 ≤ D) {σ : sS} {v : VT} {c : CT} {im : Option (VT × CT)} {l : List Nat} (h : XL σ v c im l) (k : Int32 → sS → Prop) (hk : ∀ σ', XL σ' v c im l → k (nI (fl c v).1.length) σ') : CJ LX D y_GF_below [sR 0 (.inl 5), sI (nI 0)] σ (rI k) := by
  have hl := fl_len h.wc h.wv
  have hok := fl_ok h.wc h.wv
  refine CJ.mono (d := 300) ?_ hD
  obtain ⟨F, eF⟩ : ∃ F, (fl c v).1 = F := ⟨_, rfl⟩
  rw [eF] at hl hok hk
  have ec : cB F 0 = F.length := by
    unfold cB
    rw [List.countP_eq_length]
    intro y hy
    have := hok y hy
    exact blw0 6 _ (by omega)
  refine s_GF_below_0 LX 299 0 _ σ (rI k) ⟨fun _ => ⟨fun _ => ?_, fun z => absurd z (by decide)⟩, fun z => absurd z (by decide)⟩
  refine x_gather h _ (fun σ' g1 g2 => ?_)
  rw [eF] at g1
  refine c_GA_countBelow LX 298 (A := []) (M := F) (w := (fl c v).2) g1 (by rw [List.nil_append]; omega) hok 0 (by omega) _ ?_
  rw [ec]
  exact hk _ g2
theorem x_first {D : Nat} (hD : 300 ≤ D) {σ : sS} {v : VT} {c : CT} {im : Option (VT × CT)} {l : List Nat} (h : XL σ v c im l) {x : Nat} (x1 : (fl c v).1[0]? = some x) (k : Int32 → sS → Prop) (hk : ∀ σ', XL σ' v c im l → k (nI x) σ') : CJ LX D y_GF_first [sR 0 (.inl 5)] σ (rI k) := by
  have hl := fl_len h.wc h.wv
  have hlt := (List.getElem?_eq_some_iff.mp x1).1
  refine CJ.mono (d := 300) ?_ hD
  refine s_GF_first_0 LX 299 0 σ (rI k) (x_gather h _ (fun σ' g1 g2 => ?_))
  refine ⟨fun z => ?_, fun _ => ?_⟩
  · rw [lit 0, i32_lt (by omega) (by omega)] at z; omega
  · rw [show rd σ' (0 + 37) 6144 0 = nI x from X_at g1 (by omega) (i := 0) x1]
    exact hk _ g2
theorem x_limited {D : Nat} (hD : 300 ≤ D) {σ : sS} {v : VT} {c : CT} {im : Option (VT × CT)} {l : List Nat} (h : XL σ v c im l) {q y : Nat} (y1 : (fl c v).1[q]? = some y) (hq : q < 99) (k : Int32 → sS → Prop) (hk : ∀ σ', XL σ' v c im l → k (nI y) σ') : CJ LX D y_GF_limited [sR 0 (.inl 5), sI (nI (q + 1)), sI 1] σ (rI k) := by
  have hl := fl_len h.wc h.wv
  have hlt := (List.getElem?_eq_some_iff.mp y1).1
  refine CJ.mono (d := 300) ?_ hD
  have c9 : (99 : Int32) < nI (q + 1) ↔ 99 < q + 1 := i32_lt (a := 99) (by omega) (by omega)
  have ei : (if nI (fl c v).1.length < nI (q + 1) then nI (fl c v).1.length else nI (q + 1)) = nI (q + 1) := by
    rw [if_neg]
    rw [i32_lt (by omega) (by omega)]
    omega
  have go : Jd LX 300 y_GF_limited 40 [(0, sR 0 (.inl 5)), (1, sI (nI (q + 1))), (2, sI 1)] [] σ (rI k) := by
    refine s_GF_limited_40 LX 299 0 _ _ σ (rI k) (x_gather h _ (fun σ' g1 g2 => ?_))
    rw [ei]
    refine ⟨fun _ => ⟨fun z => ?_, fun _ => ?_⟩, fun z => absurd z (by decide)⟩
    · rw [lit 0, i32_lt (by omega) (by omega)] at z; omega
    · rw [show nI (q + 1) - 1 = nI q from nI_subm (a := q + 1) (b := 1) (by omega), show rd σ' (0 + 37) 6144 (nI q) = nI y from X_at g1 (by omega) y1]
      exact hk _ g2
  refine s_GF_limited_0 LX 299 0 _ _ σ (rI k) ⟨fun _ => ⟨fun _ => ⟨fun _ => go, fun n0 => ⟨fun _ => go, fun n1 => absurd rfl n1⟩⟩, fun z => ?_⟩, fun z => absurd z (nI_pos (by omega))⟩
  have := c9.mp z
  omega
theorem x_total {D : Nat} (hD : 300 ≤ D) {σ : sS} {v : VT} {c : CT} {im : Option (VT × CT)} {l : List Nat} (h : XL σ v c im l) (k : Int32 → sS → Prop) (h0 : ∀ s σ', (fl c v).1.length = 0 → s < 2 ^ 31 → XL σ' v c im l → k (nI s) σ') (h1 : ∀ σ', (fl c v).1.length ≠ 0 → XL σ' v c im l → k (-9) σ') : CJ LX D y_GF_total [sR 0 (.inl 5)] σ (rI k) := by
  have hl := fl_len h.wc h.wv
  have w := h.wv
  have h20 := w.2.1
  refine CJ.mono (d := 300) ?_ hD
  refine s_GF_total_0 LX 299 0 σ (rI k) (x_gather h _ (fun σ' g1 g2 => ?_))
  by_cases e0 : (fl c v).1.length = 0
  · rw [e0]
    refine ⟨fun _ => ?_, fun z => absurd z (by decide)⟩
    have hs := smN_le w v.1 (Nat.le_refl _)
    have hv : XV σ' 1 v := by obtain ⟨m, T, rf, ok, hx⟩ := id g2; exact hx.1
    have hk : k (nI (smN v v.1)) σ' := h0 _ _ e0 (by omega) g2
    have key : ∀ r i, i + r = v.1 → Jd LX 300 y_GF_total 21 [(0, sR 0 (.inl 5)), (1, sI (nI (smN v i))), (2, sI (nI i))] [] σ' (rI k) := by
      intro r
      induction r with
      | zero =>
        intro i hi
        have ei : i = v.1 := by omega
        subst ei
        refine s_GF_total_21 LX 299 0 _ _ σ' (rI k) ⟨fun _ => hk, fun z => ?_⟩
        rw [show σ' (0 + 1) 6 = nI v.1 from hv.1, i32_lt (by omega) (by omega)] at z
        omega
      | succ r ih =>
        intro i hi
        have hp : i < v.1 := by omega
        have nx := ih (i + 1) (by omega)
        have ec : smN v (i + 1) = smN v i + (if v.2 0 i = 0 then v.2 1 i else 0) := rfl
        rw [ec] at nx
        refine s_GF_total_21 LX 299 0 _ _ σ' (rI k) ⟨fun z => ?_, fun _ => ?_⟩
        · rw [show σ' (0 + 1) 6 = nI v.1 from hv.1, i32_lt (by omega) (by omega)] at z
          omega
        · rw [hv.rd h20 (f := 0) (by omega) hp (a := 0 + 2) rfl, hv.rd h20 (f := 1) (by omega) hp (a := 0 + 3) rfl, z_eq (by have := kd4 w hp; omega) 0 (by omega)]
          refine ⟨fun z => ?_, fun z => ?_⟩
          · refine s_GF_total_60 LX 299 0 _ _ σ' (rI k) ?_
            rw [if_neg z, Nat.add_zero] at nx
            rw [nI_s1]
            exact nx
          · refine s_GF_total_60 LX 299 0 _ _ σ' (rI k) ?_
            rw [if_pos z] at nx
            rw [nI_s1, nI_add]
            exact nx
    exact key v.1 0 (by omega)
  · have hk := h1 σ' e0 g2
    have hp : (0 : Int32) < nI (fl c v).1.length := (i32_lt (a := 0) (by omega) (by omega)).mpr (by omega)
    exact ⟨fun z => absurd hp z, fun _ => hk⟩
theorem x_same {D : Nat} (hD : 300 ≤ D) {σ : sS} {v : VT} {c : CT} {im : Option (VT × CT)} {l : List Nat} (h : XL σ v c im l) {p q : Nat} (hp : p < v.1) (hq : q < v.1) (k : Int32 → sS → Prop) (h1 : sameV v p q → k 1 σ) (h0 : ¬ sameV v p q → k 0 σ) : CJ LX D y_GF_same [sR 0 (.inl 5), sI (nI (v.2 5 p)), sI (nI (v.2 5 q))] σ (rI k) := by
  obtain ⟨m, T, rf, ok, hx⟩ := h
  have w := ok.1
  have h20 := w.2.1
  refine CJ.mono (d := 300) ?_ hD
  have ep := findV_road w hp
  have eq := findV_road w hq
  refine s_GF_same_0 LX 299 0 _ _ σ (rI k) (X_find 298 w hx _ _ (fun _ => ?_) (fun z => absurd (by rw [ep]; exact hp) z))
  refine X_find 298 w hx _ _ (fun _ => ?_) (fun z => absurd (by rw [eq]; exact hq) z)
  rw [ep, eq]
  refine ⟨fun z => absurd z (nI_pos (by omega)), fun _ => ⟨fun _ => ?_, fun z => absurd z (nI_pos (by omega))⟩⟩
  exact X_alike w hx.1 hp hq 299 (by omega) _ (fun z => ⟨fun y => absurd y (by decide), fun _ => h1 z⟩) (fun z => ⟨fun _ => h0 z, fun y => absurd rfl y⟩)
theorem x_count {D : Nat} (hD : 300 ≤ D) {σ : sS} {v : VT} {c : CT} {im : Option (VT × CT)} {l : List Nat} (h : XL σ v c im l) (k : Int32 → sS → Prop) (hk : k (nI v.1) σ) : CJ LX D y_GF_count [sR 0 (.inl 5), sI 0] σ (rI k) := by
  obtain ⟨m, T, rf, ok, hx⟩ := h
  refine CJ.mono (d := 300) ?_ hD
  refine s_GF_count_0 LX 299 0 _ σ (rI k) ⟨fun _ => ?_, fun z => absurd rfl z⟩
  rw [show σ (0 + 1) 6 = nI v.1 from hx.1.1]; exact hk
