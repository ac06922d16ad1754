/-! what the class finds by the law's checks -/
def ncd (K N lo hi : Nat) : Nat := if K ≠ 0 then 1 else if N < lo then 2 else if hi < N then 3 else 0
def acd (k K N lo hi : Nat) : Nat := if k = 1 ∧ K = 1 then 4 else ncd K N lo hi
def xcl (p e : Nat) : List Nat := if e = 0 then [] else [100 * p + e]
theorem ncd_le (K N lo hi : Nat) : ncd K N lo hi ≤ 3 := by unfold ncd; split <;> (try split) <;> (try split) <;> omega
theorem acd_le (k K N lo hi : Nat) : acd k K N lo hi ≤ 4 := by
  have := ncd_le K N lo hi
  unfold acd; split <;> omega
theorem numL_cl (c : CT) (V : VT) (q y : Nat) : numL c V q y = xcl (V.2 5 y) (ncd (V.2 0 y) (V.2 1 y) (cF c 1 q) (cF c 2 q)) := by
  unfold numL ncd xcl
  by_cases h : V.2 0 y ≠ 0
  · rw [if_pos h, if_pos h]; rfl
  · rw [if_neg h, if_neg h]
    by_cases h1 : V.2 1 y < cF c 1 q
    · rw [if_pos h1, if_pos h1]; rfl
    · rw [if_neg h1, if_neg h1]
      by_cases h2 : cF c 2 q < V.2 1 y
      · rw [if_pos h2, if_pos h2]; rfl
      · rw [if_neg h2, if_neg h2]; rfl
theorem lk_35 {c : CT} {V : VT} {n p y : Nat} (h : cF c 0 p = 35) : lk c V (n + 1) p y = (numL c V p y, 0) := by
  conv => lhs; unfold lk
  rw [if_pos h]
theorem lk_leaf {c : CT} {V : VT} {n p y k lo hi dg fr : Nat} (hk : k ≤ 1) (h : XKN c p dg fr k lo hi) : lk c V (n + 2) p y = (xcl (V.2 5 y) (acd k (V.2 0 y) (V.2 1 y) lo hi), 0) := by
  obtain ⟨h0, h1, h3, h4, h5, h6⟩ := h
  by_cases z : k = 0
  · rw [if_pos z] at h0
    obtain ⟨a1, a2⟩ := h1 z
    rw [lk_35 h0, numL_cl, a1, a2]
    unfold acd
    rw [if_neg (by omega)]
  · have z1 : k = 1 := by omega
    rw [if_neg z, if_pos z1] at h0
    obtain ⟨b0, b1, b2⟩ := h6 z1
    conv => lhs; unfold lk
    rw [if_neg (by omega), if_pos h0]
    unfold acd
    by_cases w : V.2 0 y = 1
    · rw [if_pos w, if_pos ⟨z1, w⟩]; rfl
    · rw [if_neg w, if_neg (by omega), lk_35 b0, numL_cl, b1, b2]
theorem fl_one {c : CT} {V : VT} {d k lo hi : Nat} {t : Tr (d + 1)} (hk : k ≤ 1) (h : XKN c 0 0 0 k lo hi) (w : WFV V) (v : VF d V t) : fl c V = (xcl 0 (acd k (trK t) (trN t) lo hi), 0) := by
  have e : fl c V = lk c V (118 + 2) 0 0 := rfl
  rw [e, lk_leaf hk h, w.2.2.2.2.1, v.2.1, v.2.2.1]
/-- of each in a list, one behind the other -/
def flm {α : Type} (f : α → List Nat) : List α → List Nat
  | [] => []
  | a :: r => f a ++ flm f r
theorem flm_app {α : Type} (f : α → List Nat) : ∀ a b : List α, flm f (a ++ b) = flm f a ++ flm f b
  | [], b => rfl
  | q :: r, b => by simp [flm, flm_app f r b]
theorem flm_mem {α : Type} {f : α → List Nat} : ∀ {l : List α} {x : Nat}, x ∈ flm f l ↔ ∃ a ∈ l, x ∈ f a
  | [], x => by simp [flm]
  | q :: r, x => by simp [flm, flm_mem (f := f) (l := r)]
theorem flm_len {α : Type} (f : α → List Nat) : ∀ l : List α, (flm f l).length = sumf (fun a => (f a).length) l
  | [] => rfl
  | q :: r => by simp [flm, sumf, flm_len f r]
theorem flm_cnt {α : Type} (f : α → List Nat) (P : Nat → Bool) : ∀ l : List α, (flm f l).countP P = sumf (fun a => (f a).countP P) l
  | [] => rfl
  | q :: r => by simp [flm, sumf, flm_cnt f P r]
theorem sumf_congr {α : Type} {f g : α → Nat} : ∀ {l : List α}, (∀ a ∈ l, f a = g a) → sumf f l = sumf g l
  | [], _ => rfl
  | q :: r, h => by
    simp only [sumf]
    rw [h q List.mem_cons_self, sumf_congr (fun a ha => h a (List.mem_cons_of_mem _ ha))]
theorem sumf_zero {α : Type} {f : α → Nat} {l : List α} (h : ∀ a ∈ l, f a = 0) : sumf f l = 0 := by
  rw [sumf_congr (g := fun _ => 0) h]
  clear h
  induction l with
  | nil => rfl
  | cons q r ih => simp only [sumf]; omega
theorem sumf_add {α : Type} (f g : α → Nat) : ∀ l : List α, sumf (fun a => f a + g a) l = sumf f l + sumf g l
  | [] => rfl
  | q :: r => by simp only [sumf]; rw [sumf_add f g r]; omega
theorem foldR_list {α : Type} {g : Nat → List Nat × Nat} {f : α → List Nat} {l : List α} (h : ∀ j x, l[j]? = some x → g j = (f x, 0)) : foldR g l.length = (flm f l, 0) := by
  have key : ∀ j, j ≤ l.length → foldR g j = (flm f (l.take j), 0) := by
    intro j
    induction j with
    | zero => intro _; rfl
    | succ j ih =>
      intro hj
      obtain ⟨x, hx⟩ : ∃ x, l[j]? = some x := ⟨_, List.getElem?_eq_getElem (by omega)⟩
      rw [foldR_succ, ih (by omega), h j x hx, List.take_succ, hx, flm_app]
      simp [flm]
  rw [key l.length (Nat.le_refl _), List.take_length]
/-- a field's own faults -/
def fdL (x : XD) : List Nat := if xdQ x ≤ 1 then xcl (xdN x) (acd (xdQ x) (xdK x) (xdV x) (xdL x) (xdH x)) else if xdR x = 0 then [100 * xdN x + 6] else []
def tin (fs : List XD) (n : Nat) : Bool := fs.any (fun x => decide (xdN x = n))
theorem tin_iff {fs : List XD} {n : Nat} : tin fs n = true ↔ ∃ x ∈ fs, xdN x = n := by simp [tin]
def strf {α : Type} (fs : List XD) (q : Nat × α) : List Nat := if tin fs q.1 then [] else [100 * q.1 + 7]
def FOK {d : Nat} (tc : List (Nat × Tr d)) (fs : List XD) : Prop := ∀ x ∈ fs, (xdQ x ≤ 1 → ∃ q ∈ tc, q.1 = xdN x ∧ trK0 d q.2 = xdK x ∧ trN0 d q.2 = xdV x) ∧ (¬ xdQ x ≤ 1 → xdQ x = 2 ∧ ∀ q ∈ tc, q.1 ≠ xdN x)
theorem VF.kid {d : Nat} {V : VT} {t : Tr (d + 1)} (w : WFV V) (v : VF d V t) (h2 : trK t = 2) {q : Nat × Tr d} (hq : q ∈ trC t) : ∃ p, p < V.1 ∧ kidO V 0 q.1 = some p ∧ V.2 5 p = q.1 ∧ V.2 0 p = trK0 d q.2 ∧ V.2 1 p = trN0 d q.2 := by
  obtain ⟨j, hj⟩ := List.getElem?_of_mem hq
  have hlt := (List.getElem?_eq_some_iff.mp hj).1
  obtain ⟨a1, a2, a3, a4⟩ := v.2.2.2.2 j q hj
  obtain ⟨a5, a6⟩ := a4 h2
  have hk := kidO_eq w w.1 (k := j) (by rw [v.2.2.2.1]; exact hlt)
  rw [a5] at hk
  exact ⟨_, a1, hk, a6, a2, a3⟩
theorem VF.nokid {d : Nat} {V : VT} {t : Tr (d + 1)} (w : WFV V) (v : VF d V t) (h2 : trK t = 2) {n : Nat} (hn : n < 2 ^ 31) (h : ∀ q ∈ trC t, q.1 ≠ n) : kidO V 0 n = none := by
  cases e : kidO V 0 n with
  | none => rfl
  | some p =>
    obtain ⟨k, k1, k2, k3⟩ := kidO_some w w.1 hn e
    rw [v.2.2.2.1] at k1
    obtain ⟨q, hq⟩ : ∃ q, (trC t)[k]? = some q := ⟨_, List.getElem?_eq_getElem k1⟩
    obtain ⟨a1, a2, a3, a4⟩ := v.2.2.2.2 k q hq
    rw [k2, (a4 h2).1] at k3
    exact absurd k3 (h q (List.mem_of_getElem? hq))
theorem rec_fld {d : Nat} {V : VT} {t : Tr (d + 1)} (w : WFV V) (v : VF d V t) (h2 : trK t = 2) {c : CT} {q m : Nat} {fs : List XD} (hR : RQ c q fs) (hF : FOK (trC t) fs) (hx : ∀ x ∈ fs, xok x) {j : Nat} {x : XD} (hj : fs[j]? = some x) : fldK (lk c V (m + 2)) c V q 0 j = (fdL x, 0) := by
  have hlt := (List.getElem?_eq_some_iff.mp hj).1
  have hm := List.mem_of_getElem? hj
  obtain ⟨f1, f2⟩ := hF x hm
  obtain ⟨-, kn⟩ := hR.2.2.2.2 j x hj
  rw [← hR.kch j (by omega)] at kn
  have e4 : cF c 4 (cch c q j) = xdN x := kn.2.2.2.1
  have e5 : cF c 5 (cch c q j) = xdR x := kn.2.2.2.2.1
  have x5 := (hx x hm).2.1
  unfold fldK
  rw [e4, e5]
  by_cases z : xdQ x ≤ 1
  · obtain ⟨qq, q1, q2, q3, q4⟩ := f1 z
    obtain ⟨p, p1, p2, p3, p4, p5⟩ := v.kid w h2 q1
    rw [q2] at p2 p3
    rw [p2]
    show lk c V (m + 2) (cch c q j) p = _
    rw [lk_leaf z kn, p3, p4, p5, q3, q4]
    unfold fdL
    rw [if_pos z]
  · rw [v.nokid w h2 (by omega) (f2 z).2]
    show (if xdR x = 0 then ([100 * (10 * V.2 5 0 + xdN x) + 6], 0) else ([], 0)) = _
    unfold fdL
    rw [if_neg z, w.2.2.2.2.1]
    by_cases y : xdR x = 0
    · rw [if_pos y, if_pos y, show 10 * 0 + xdN x = xdN x by omega]
    · rw [if_neg y, if_neg y]
theorem rec_kno {c : CT} {q : Nat} {fs : List XD} (hR : RQ c q fs) (n : Nat) : kno c q n = tin fs n := by
  have e : (∃ k, k < cF c 10 q ∧ cF c 4 (cch c q k) = n) ↔ ∃ x ∈ fs, xdN x = n := by
    rw [hR.2.1]
    constructor
    · rintro ⟨k, k1, k2⟩
      obtain ⟨x, hx⟩ : ∃ x, fs[k]? = some x := ⟨_, List.getElem?_eq_getElem k1⟩
      obtain ⟨-, kn⟩ := hR.2.2.2.2 k x hx
      rw [← hR.kch k (by omega)] at kn
      exact ⟨x, List.mem_of_getElem? hx, kn.2.2.2.1.symm.trans k2⟩
    · rintro ⟨x, x1, x2⟩
      obtain ⟨k, hk⟩ := List.getElem?_of_mem x1
      have hlt := (List.getElem?_eq_some_iff.mp hk).1
      obtain ⟨-, kn⟩ := hR.2.2.2.2 k x hk
      rw [← hR.kch k (by omega)] at kn
      exact ⟨k, hlt, kn.2.2.2.1.trans x2⟩
  unfold kno
  cases h : tin fs n with
  | true => exact pB_t (e.mpr (tin_iff.mp h))
  | false => exact pB_f (fun z => by have := tin_iff.mpr (e.mp z); rw [h] at this; cases this)
/-- a record's faults, without what hangs on two -/
def xF0 {d : Nat} (t : Tr (d + 1)) (fs : List XD) : List Nat := flm fdL fs ++ flm (strf fs) (trC t)
theorem lk_rec {d : Nat} {V : VT} {t : Tr (d + 1)} (w : WFV V) (v : VF d V t) (h2 : trK t = 2) {c : CT} {q m : Nat} {fs : List XD} (hR : RQ c q fs) (hF : FOK (trC t) fs) (hx : ∀ x ∈ fs, xok x) : lk c V (m + 3) q 0 = depK c V 0 (cF c 8 q) (xF0 t fs, 0) (cF c 9 q) := by
  have h0 := hR.1
  have a1 : foldR (fldK (lk c V (m + 2)) c V q 0) (cF c 10 q) = (flm fdL fs, 0) := by
    rw [hR.2.1]
    exact foldR_list (fun j x hj => rec_fld w v h2 hR hF hx hj)
  have a2 : strL c V q 0 (V.2 2 0) = (flm (strf fs) (trC t), 0) := by
    rw [v.2.2.2.1]
    refine foldR_list (fun j qq hj => ?_)
    obtain ⟨b1, b2, b3, b4⟩ := v.2.2.2.2 j qq hj
    obtain ⟨b5, b6⟩ := b4 h2
    show (if kno c q (V.2 3 (kch V 0 j)) = true then ([], 0) else ([100 * V.2 5 (kch V 0 j) + 7], 0)) = (strf fs qq, 0)
    rw [rec_kno hR, b5, b6]
    unfold strf
    by_cases z : tin fs qq.1 = true
    · rw [if_pos z, if_pos z]
    · rw [if_neg z, if_neg z]
  conv => lhs; unfold lk
  rw [if_neg (by omega), if_neg (by omega), if_neg (by omega), if_neg (by omega), if_pos h0, if_pos (by rw [v.2.1]; exact h2), a1, a2]
  rfl
/-- looked at alone, it has no fault -/
def snd_ (x : XD) : Prop := xdQ x ≤ 1 ∧ acd (xdQ x) (xdK x) (xdV x) (xdL x) (xdH x) = 0
theorem blw_one : ∀ r, r < 10 → ∀ b, b < 10 → 1 ≤ b → blw 6 r b = decide (r = b) := by decide
theorem xF0_path {d : Nat} {t : Tr (d + 1)} {fs : List XD} (hx : ∀ x ∈ fs, xok x) (hw : twf (d + 1) t) {f : Nat} (hf : f ∈ xF0 t fs) : (∃ x ∈ fs, f ∈ fdL x ∧ f / 100 = xdN x) ∨ ∃ q ∈ trC t, tin fs q.1 = false ∧ f / 100 = q.1 := by
  rcases List.mem_append.mp hf with hf | hf
  · obtain ⟨x, x1, x2⟩ := flm_mem.mp hf
    refine Or.inl ⟨x, x1, x2, ?_⟩
    unfold fdL at x2
    split at x2
    · unfold xcl at x2
      split at x2
      · cases x2
      · rw [List.mem_singleton] at x2
        have := acd_le (xdQ x) (xdK x) (xdV x) (xdL x) (xdH x)
        omega
    · split at x2
      · rw [List.mem_singleton] at x2; omega
      · cases x2
  · obtain ⟨q, q1, q2⟩ := flm_mem.mp hf
    refine Or.inr ⟨q, q1, ?_⟩
    unfold strf at q2
    split at q2
    · cases q2
    · rename_i z
      rw [List.mem_singleton] at q2
      exact ⟨by simpa using z, by omega⟩
theorem xF0_any {d : Nat} {t : Tr (d + 1)} {fs : List XD} (hx : ∀ x ∈ fs, xok x) (hd : ∀ (i j : Nat) (p q : XD), fs[i]? = some p → fs[j]? = some q → xdN p = xdN q → i = j) (hw : twf (d + 1) t) {x : XD} (hm : x ∈ fs) (hq : xdQ x ≤ 1) : anyB (xF0 t fs) (xdN x) = true ↔ ¬ acd (xdQ x) (xdK x) (xdV x) (xdL x) (xdH x) = 0 := by
  have x5 := hx x hm
  have e : anyB (xF0 t fs) (xdN x) = true ↔ ∃ f ∈ xF0 t fs, f / 100 = xdN x := by
    unfold anyB
    rw [List.any_eq_true]
    constructor
    · rintro ⟨f, f1, f2⟩
      have h9 : f / 100 < 10 := by
        rcases xF0_path hx hw f1 with ⟨y, y1, -, y2⟩ | ⟨q, q1, -, q2⟩
        · have := (hx y y1).2.1; omega
        · have := (hw.2.2.2.2.2.2.2 q q1).2.1; omega
      rw [blw_one _ h9 _ (by have := x5.2.1; omega) x5.1] at f2
      exact ⟨f, f1, of_decide_eq_true f2⟩
    · rintro ⟨f, f1, f2⟩
      refine ⟨f, f1, ?_⟩
      rw [f2, blw_one _ (by have := x5.2.1; omega) _ (by have := x5.2.1; omega) x5.1]
      exact decide_eq_true rfl
  rw [e]
  constructor
  · rintro ⟨f, f1, f2⟩
    rcases xF0_path hx hw f1 with ⟨y, y1, y2, y3⟩ | ⟨q, q1, q2, q3⟩
    · obtain ⟨i, hi⟩ := List.getElem?_of_mem hm
      obtain ⟨j, hj⟩ := List.getElem?_of_mem y1
      have := hd i j x y hi hj (by omega)
      subst this
      have : x = y := Option.some.inj (hi.symm.trans hj)
      subst this
      intro z
      unfold fdL at y2
      rw [if_pos hq, z] at y2
      cases y2
    · have : tin fs q.1 = true := tin_iff.mpr ⟨x, hm, by omega⟩
      rw [q2] at this
      cases this
  · intro z
    have := acd_le (xdQ x) (xdK x) (xdV x) (xdL x) (xdH x)
    refine ⟨100 * xdN x + acd (xdQ x) (xdK x) (xdV x) (xdL x) (xdH x), List.mem_append_left _ (flm_mem.mpr ⟨x, hm, ?_⟩), by omega⟩
    unfold fdL xcl
    rw [if_pos hq, if_neg z]
    exact List.mem_singleton.mpr rfl
/-- with nothing that hangs on two -/
theorem lk_rec0 {d : Nat} {V : VT} {t : Tr (d + 1)} (w : WFV V) (v : VF d V t) (h2 : trK t = 2) {c : CT} {q m : Nat} {fs : List XD} (hR : RQ c q fs) (hF : FOK (trC t) fs) (hx : ∀ x ∈ fs, xok x) (hE : CE c q []) : lk c V (m + 3) q 0 = (xF0 t fs, 0) := by
  rw [lk_rec w v h2 hR hF hx, hE.1 rfl]
  rfl
/-- with two that are to be the same -/
theorem lk_rec1 {d : Nat} {V : VT} {t : Tr (d + 1)} (w : WFV V) (v : VF d V t) (h2 : trK t = 2) {c : CT} {q m : Nat} {fs : List XD} (hR : RQ c q fs) (hF : FOK (trC t) fs) (hx : ∀ x ∈ fs, xok x) (hd : ∀ (i j : Nat) (p q : XD), fs[i]? = some p → fs[j]? = some q → xdN p = xdN q → i = j) (hw : twf (d + 1) t) {x y : XD} (hxm : x ∈ fs) (hym : y ∈ fs) (hE : CE c q [10 * xdN x + xdN y]) :
    (snd_ x ∧ snd_ y → ∃ px py, px < V.1 ∧ py < V.1 ∧ V.2 5 px = xdN x ∧ V.2 5 py = xdN y ∧ (sameV V px py → lk c V (m + 3) q 0 = (xF0 t fs, 0)) ∧ (¬ sameV V px py → lk c V (m + 3) q 0 = (xF0 t fs ++ [100 * xdN y + 9], 0))) ∧ (¬ (snd_ x ∧ snd_ y) → lk c V (m + 3) q 0 = (xF0 t fs, 1)) := by
  obtain ⟨e9, e0, e1, e2⟩ := hE.2 _ _ rfl (hx x hxm).2.1 (hx y hym).2.1
  have el : lk c V (m + 3) q 0 = dep1 c V 0 (xF0 t fs, 0) (cF c 8 q) := by
    rw [lk_rec w v h2 hR hF hx, e9]
    rfl
  rw [el]
  have n5 : ∀ z ∈ fs, xdN z < 2 ^ 31 := fun z hz => by have := (hx z hz).2.1; omega
  unfold dep1
  rw [e0, e1, e2]
  by_cases qx : xdQ x ≤ 1
  · obtain ⟨q1, a1, a2, -⟩ := (hF x hxm).1 qx
    obtain ⟨px, p1, p2, p3, -⟩ := v.kid w h2 a1
    rw [a2] at p2 p3
    rw [p2]
    by_cases qy : xdQ y ≤ 1
    · obtain ⟨q2, b1, b2, -⟩ := (hF y hym).1 qy
      obtain ⟨py, r1, r2, r3, -⟩ := v.kid w h2 b1
      rw [b2] at r2 r3
      rw [r2]
      have ax := xF0_any hx hd hw hxm qx
      have ay := xF0_any hx hd hw hym qy
      show (_ → _) ∧ (_ → (if (anyB (xF0 t fs) (V.2 5 px) || anyB (xF0 t fs) (V.2 5 py)) = true then (xF0 t fs, 0 + 1) else _) = _)
      rw [p3, r3]
      refine ⟨fun ⟨s1, s2⟩ => ⟨px, py, p1, r1, p3, r3, ?_⟩, fun hn => ?_⟩
      · have n1 : ¬ (anyB (xF0 t fs) (xdN x) || anyB (xF0 t fs) (xdN y)) = true := by
          rw [Bool.or_eq_true, ax, ay]
          rintro (z | z)
          · exact z s1.2
          · exact z s2.2
        show (_ → (if (anyB (xF0 t fs) (V.2 5 px) || anyB (xF0 t fs) (V.2 5 py)) = true then _ else if pB (sameV V px py) = true then (xF0 t fs, 0) else (xF0 t fs ++ [100 * V.2 5 py + 9], 0)) = _) ∧ (_ → (if (anyB (xF0 t fs) (V.2 5 px) || anyB (xF0 t fs) (V.2 5 py)) = true then _ else if pB (sameV V px py) = true then (xF0 t fs, 0) else (xF0 t fs ++ [100 * V.2 5 py + 9], 0)) = _)
        rw [p3, r3, if_neg n1]
        exact ⟨fun z => by rw [if_pos (pB_t z)], fun z => by rw [pB_f z, if_neg (by decide)]⟩
      · rw [if_pos]
        rw [Bool.or_eq_true, ax, ay]
        by_cases z : acd (xdQ x) (xdK x) (xdV x) (xdL x) (xdH x) = 0
        · exact Or.inr (fun u => hn ⟨⟨qx, z⟩, ⟨qy, u⟩⟩)
        · exact Or.inl z
    · rw [v.nokid w h2 (n5 y hym) ((hF y hym).2 qy).2]
      exact ⟨fun z => absurd z.2.1 qy, fun _ => rfl⟩
  · rw [v.nokid w h2 (n5 x hxm) ((hF x hxm).2 qx).2]
    exact ⟨fun z => absurd z.1.1 qx, fun _ => rfl⟩
/-! how many of which -/
def xal (x : XD) : Nat := if xdQ x ≤ 1 then (if acd (xdQ x) (xdK x) (xdV x) (xdL x) (xdH x) = 0 then 0 else 1) else 0
def xlc (x : XD) : Nat := if xdQ x ≤ 1 then 0 else if xdR x = 0 then 1 else 0
def xmo {α : Type} (fs : List XD) (q : Nat × α) : Nat := if tin fs q.1 then 0 else 1
theorem xF0_len {d : Nat} (t : Tr (d + 1)) (fs : List XD) : (xF0 t fs).length = sumf xal fs + sumf xlc fs + sumf (xmo fs) (trC t) := by
  unfold xF0
  rw [List.length_append, flm_len, flm_len, ← sumf_add]
  congr 1
  · refine sumf_congr (fun x _ => ?_)
    unfold fdL xal xlc xcl
    by_cases z : xdQ x ≤ 1
    · rw [if_pos z, if_pos z, if_pos z]
      split <;> rfl
    · rw [if_neg z, if_neg z, if_neg z]
      split <;> rfl
  · refine sumf_congr (fun q _ => ?_)
    unfold strf xmo
    split <;> rfl
theorem xF0_cnt {d : Nat} (t : Tr (d + 1)) (fs : List XD) : (xF0 t fs).countP (fun y => decide (y % 100 = 6)) = sumf xlc fs ∧ (xF0 t fs).countP (fun y => decide (y % 100 = 7)) = sumf (xmo fs) (trC t) ∧ (xF0 t fs).countP (fun y => decide (y % 100 = 9)) = 0 := by
  have fd : ∀ x e, 5 ≤ e → e ≤ 9 → (fdL x).countP (fun y => decide (y % 100 = e)) = if e = 6 then xlc x else 0 := by
    intro x e h5 h9
    unfold fdL xlc xcl
    have := acd_le (xdQ x) (xdK x) (xdV x) (xdL x) (xdH x)
    by_cases z : xdQ x ≤ 1
    · rw [if_pos z, if_pos z]
      by_cases y : acd (xdQ x) (xdK x) (xdV x) (xdL x) (xdH x) = 0
      · rw [if_pos y]; split <;> rfl
      · rw [if_neg y]
        have h1 : ¬ acd (xdQ x) (xdK x) (xdV x) (xdL x) (xdH x) % 100 = e := by omega
        simp [h1]
    · rw [if_neg z, if_neg z]
      by_cases y : xdR x = 0
      · rw [if_pos y, if_pos y]
        by_cases u : e = 6
        · have : (100 * xdN x + 6) % 100 = e := by omega
          simp [this, u]
        · have h1 : ¬ 6 = e := by omega
          simp [h1, u]
      · rw [if_neg y, if_neg y]; split <;> rfl
  have st : ∀ (q : Nat × Tr d) e, 5 ≤ e → e ≤ 9 → (strf fs q).countP (fun y => decide (y % 100 = e)) = if e = 7 then xmo fs q else 0 := by
    intro q e h5 h9
    unfold strf xmo
    by_cases z : tin fs q.1 = true
    · rw [if_pos z, if_pos z]; split <;> rfl
    · rw [if_neg z, if_neg z]
      by_cases u : e = 7
      · have : (100 * q.1 + 7) % 100 = e := by omega
        simp [this, u]
      · have h1 : ¬ 7 = e := by omega
        simp [h1, u]
  unfold xF0
  refine ⟨?_, ?_, ?_⟩
  · rw [List.countP_append, flm_cnt, flm_cnt, sumf_congr (g := xlc) (fun x _ => by rw [fd x 6 (by omega) (by omega)]; rfl), sumf_zero (l := trC t) (fun q _ => by rw [st q 6 (by omega) (by omega)]; rfl)]
    rfl
  · rw [List.countP_append, flm_cnt, flm_cnt, sumf_zero (l := fs) (fun x _ => by rw [fd x 7 (by omega) (by omega)]; rfl), sumf_congr (g := xmo fs) (l := trC t) (fun q _ => by rw [st q 7 (by omega) (by omega)]; rfl)]
    omega
  · rw [List.countP_append, flm_cnt, flm_cnt, sumf_zero (l := fs) (fun x _ => by rw [fd x 9 (by omega) (by omega)]; rfl), sumf_zero (l := trC t) (fun q _ => by rw [st q 9 (by omega) (by omega)]; rfl)]
