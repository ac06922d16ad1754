/-! the law's own objects: values, checks and letters as they lie in the moving world -/
def Tr : Nat → Type
  | 0 => Empty
  | d + 1 => Nat × Nat × List (Nat × Tr d)
abbrev TrS (d : Nat) : Type := Nat × Nat × List (Nat × Tr d)
def trK {d : Nat} (t : Tr (d + 1)) : Nat := (show TrS d from t).1
def trN {d : Nat} (t : Tr (d + 1)) : Nat := (show TrS d from t).2.1
def trC {d : Nat} (t : Tr (d + 1)) : List (Nat × Tr d) := (show TrS d from t).2.2
def trmk {d : Nat} (k n : Nat) (cs : List (Nat × Tr d)) : Tr (d + 1) := (show TrS d from (k, n, cs))
theorem trK_mk {d : Nat} (k n : Nat) (cs : List (Nat × Tr d)) : trK (trmk k n cs) = k := rfl
theorem trN_mk {d : Nat} (k n : Nat) (cs : List (Nat × Tr d)) : trN (trmk k n cs) = n := rfl
theorem trC_mk {d : Nat} (k n : Nat) (cs : List (Nat × Tr d)) : trC (trmk k n cs) = cs := rfl
def sumf {α : Type} (f : α → Nat) : List α → Nat
  | [] => 0
  | q :: r => f q + sumf f r
theorem sumf_app {α : Type} (f : α → Nat) : ∀ a b : List α, sumf f (a ++ b) = sumf f a + sumf f b
  | [], b => by simp [sumf]
  | q :: r, b => by simp [sumf, sumf_app f r b]; omega
theorem sumf_mem {α : Type} (f : α → Nat) : ∀ {a : List α} {q : α}, q ∈ a → f q ≤ sumf f a
  | [], q, h => by cases h
  | p :: r, q, h => by
    rcases List.mem_cons.mp h with rfl | h
    · simp [sumf]
    · have := sumf_mem f h
      simp [sumf]
      omega
/-- how many parts -/
def tsz : (d : Nat) → Tr d → Nat
  | 0, _ => 0
  | d + 1, t => 1 + sumf (fun q => tsz d q.2) (trC t)
/-- all that is in a value, one behind the other: a comma between elements, a name ahead of a field -/
def kidL {α : Type} (k : Nat) (g : α → List Nat) : Nat → List (Nat × α) → List Nat
  | _, [] => []
  | i, q :: r => ((if k = 3 ∧ 0 < i then [44] else []) ++ (if k = 2 then [96 + q.1] else []) ++ g q.2) ++ kidL k g (i + 1) r
def hdL (k n : Nat) : List Nat := (if k = 0 ∧ 9 < n then [48 + n / 10] else []) ++ (if k = 0 then [48 + n % 10] else []) ++ (if k = 1 then [63] else []) ++ (if 1 < k then [if k = 2 then 40 else 91] else [])
def tlL (k : Nat) : List Nat := if 1 < k then [if k = 2 then 41 else 93] else []
/-- the letters of a value -/
def tlet : (d : Nat) → Tr d → List Nat
  | 0, _ => []
  | d + 1, t => hdL (trK t) (trN t) ++ kidL (trK t) (fun x => tlet d x) 0 (trC t) ++ tlL (trK t)
/-- a value as the law makes them -/
def twf : (d : Nat) → Tr d → Prop
  | 0, _ => False
  | d + 1, t => trK t ≤ 3 ∧ (trK t = 0 → trN t ≤ 99) ∧ (trK t ≠ 0 → trN t = 0) ∧ (trK t ≤ 1 → trC t = []) ∧ (trC t).length ≤ 4 ∧ (trK t = 2 → ∀ (i j : Nat) (p q : Nat × Tr d), (trC t)[i]? = some p → (trC t)[j]? = some q → p.1 = q.1 → i = j) ∧ (trK t = 3 → ∀ (i : Nat) (q : Nat × Tr d), (trC t)[i]? = some q → q.1 = 6 + i) ∧ ∀ q ∈ trC t, 1 ≤ q.1 ∧ q.1 ≤ 9 ∧ (trK t = 2 → q.1 ≤ 5) ∧ twf d q.2
/-- a value in the moving world: its root at a, all its cells of a kind -/
def VL (μ : dW) (F : Nat → Prop) : (d : Nat) → Nat → Tr d → Prop
  | 0, _, _ => False
  | d + 1, a, t => ∃ (b c : Nat) (g : Nat → Int32) (h : Nat → Option Nat), μ a = some (eO 7 [.int (nI (trK t)), .int (nI (trN t)), .ref b, .ref c]) ∧ F a ∧ F b ∧ F c ∧ μ b = some (eA 0 (trC t).length g) ∧ μ c = some (eR 0 (trC t).length h) ∧
    ∀ (j : Nat) (q : Nat × Tr d), (trC t)[j]? = some q → g j = nI q.1 ∧ ∃ a', h j = some a' ∧ VL μ F d a' q.2
theorem VL.kept {μ μ' : dW} {F F' : Nat → Prop} (hF : ∀ q, F q → F' q) (hk : ∀ q, F q → μ q ≠ none → μ' q = μ q) : ∀ {d : Nat} {a : Nat} {t : Tr d}, VL μ F d a t → VL μ' F' d a t
  | 0, a, t, h => h.elim
  | d + 1, a, t, h => by
    obtain ⟨b, c, g, hh, h1, f1, f2, f3, h2, h3, h4⟩ := h
    refine ⟨b, c, g, hh, by rw [hk a f1 (by rw [h1]; simp)]; exact h1, hF _ f1, hF _ f2, hF _ f3, by rw [hk b f2 (by rw [h2]; simp)]; exact h2, by rw [hk c f3 (by rw [h3]; simp)]; exact h3, fun j q hj => ?_⟩
    obtain ⟨e1, a', e2, e3⟩ := h4 j q hj
    exact ⟨e1, a', e2, VL.kept hF hk e3⟩
theorem VL.obj {μ : dW} {F : Nat → Prop} {d : Nat} {a : Nat} {t : Tr d} (h : VL μ F d a t) : ∃ fs, μ a = some (eO 7 fs) := by
  cases d with
  | zero => exact h.elim
  | succ d => obtain ⟨b, c, g, hh, h1, -⟩ := h; exact ⟨_, h1⟩
/-- only the cells that are there -/
theorem VL.nn {μ : dW} {F : Nat → Prop} : ∀ {d : Nat} {a : Nat} {t : Tr d}, VL μ F d a t → VL μ (fun x => F x ∧ μ x ≠ none) d a t
  | 0, a, t, h => h.elim
  | d + 1, a, t, h => by
    obtain ⟨b, c, g, hh, h1, f1, f2, f3, h2, h3, h4⟩ := h
    refine ⟨b, c, g, hh, h1, ⟨f1, by rw [h1]; simp⟩, ⟨f2, by rw [h2]; simp⟩, ⟨f3, by rw [h3]; simp⟩, h2, h3, fun j q hj => ?_⟩
    obtain ⟨e1, a', e2, e3⟩ := h4 j q hj
    exact ⟨e1, a', e2, VL.nn e3⟩
/-- checks: sign, low, high, dependents, and what is in it -/
def Ck : Nat → Type
  | 0 => Empty
  | d + 1 => Nat × Nat × Nat × List Nat × List (Nat × Ck d)
abbrev CkS (d : Nat) : Type := Nat × Nat × Nat × List Nat × List (Nat × Ck d)
def ckS {d : Nat} (t : Ck (d + 1)) : Nat := (show CkS d from t).1
def ckL {d : Nat} (t : Ck (d + 1)) : Nat := (show CkS d from t).2.1
def ckH {d : Nat} (t : Ck (d + 1)) : Nat := (show CkS d from t).2.2.1
def ckW {d : Nat} (t : Ck (d + 1)) : List Nat := (show CkS d from t).2.2.2.1
def ckC {d : Nat} (t : Ck (d + 1)) : List (Nat × Ck d) := (show CkS d from t).2.2.2.2
def ckmk {d : Nat} (s lo hi : Nat) (w : List Nat) (cs : List (Nat × Ck d)) : Ck (d + 1) := (show CkS d from (s, lo, hi, w, cs))
def ksz : (d : Nat) → Ck d → Nat
  | 0, _ => 0
  | d + 1, t => 1 + sumf (fun q => ksz d q.2) (ckC t)
def fldL {α : Type} (g : α → List Nat) : List (Nat × α) → List Nat
  | [] => []
  | q :: r => ((if 10 < q.1 then [46] else []) ++ (if 0 < q.1 then [96 + q.1 % 10] else []) ++ g q.2) ++ fldL g r
def depL : List Nat → List Nat
  | [] => []
  | w :: r => [if 99 < w then 60 else 61, 96 + w / 10 % 10, 96 + w % 10] ++ depL r
def klet : (d : Nat) → Ck d → List Nat
  | 0, _ => []
  | d + 1, t => [ckS t] ++ (if ckS t = 35 then [48 + ckL t / 10, 48 + ckL t % 10, 48 + ckH t / 10, 48 + ckH t % 10] else []) ++ (if ckS t = 64 then [48 + ckL t, 48 + ckH t] else []) ++ fldL (fun x => klet d x) (ckC t) ++ depL (ckW t) ++ (if ckS t = 123 then [125] else [])
/-- the numbers are small -/
def kwf : (d : Nat) → Ck d → Prop
  | 0, _ => False
  | d + 1, t => ckS t < 256 ∧ ckL t ≤ 99 ∧ ckH t ≤ 99 ∧ (ckC t).length ≤ 9 ∧ (ckW t).length ≤ 1 ∧ (∀ w ∈ ckW t, w ≤ 199) ∧ ∀ q ∈ ckC t, q.1 ≤ 19 ∧ (0 < q.1 → 1 ≤ q.1 % 10) ∧ kwf d q.2
def CL (μ : dW) (F : Nat → Prop) : (d : Nat) → Nat → Ck d → Prop
  | 0, _, _ => False
  | d + 1, a, t => ∃ (b c e : Nat) (g w : Nat → Int32) (h : Nat → Option Nat), μ a = some (eO 8 [.int (nI (ckS t)), .int (nI (ckL t)), .int (nI (ckH t)), .ref b, .ref c, .ref e]) ∧ F a ∧ F b ∧ F c ∧ F e ∧ μ b = some (eA 0 (ckC t).length g) ∧ μ c = some (eR 1 (ckC t).length h) ∧ μ e = some (eA 0 (ckW t).length w) ∧
    (∀ (j x : Nat), (ckW t)[j]? = some x → w j = nI x) ∧ ∀ (j : Nat) (q : Nat × Ck d), (ckC t)[j]? = some q → g j = nI q.1 ∧ ∃ a', h j = some a' ∧ CL μ F d a' q.2
theorem CL.kept {μ μ' : dW} {F F' : Nat → Prop} (hF : ∀ q, F q → F' q) (hk : ∀ q, F q → μ q ≠ none → μ' q = μ q) : ∀ {d : Nat} {a : Nat} {t : Ck d}, CL μ F d a t → CL μ' F' d a t
  | 0, a, t, h => h.elim
  | d + 1, a, t, h => by
    obtain ⟨b, c, e, g, w, hh, h1, f1, f2, f3, f4, h2, h3, h4, h5, h6⟩ := h
    refine ⟨b, c, e, g, w, hh, by rw [hk a f1 (by rw [h1]; simp)]; exact h1, hF _ f1, hF _ f2, hF _ f3, hF _ f4, by rw [hk b f2 (by rw [h2]; simp)]; exact h2, by rw [hk c f3 (by rw [h3]; simp)]; exact h3, by rw [hk e f4 (by rw [h4]; simp)]; exact h4, h5, fun j q hj => ?_⟩
    obtain ⟨e1, a', e2, e3⟩ := h6 j q hj
    exact ⟨e1, a', e2, CL.kept hF hk e3⟩
theorem CL.obj {μ : dW} {F : Nat → Prop} {d : Nat} {a : Nat} {t : Ck d} (h : CL μ F d a t) : ∃ fs, μ a = some (eO 8 fs) := by
  cases d with
  | zero => exact h.elim
  | succ d => obtain ⟨b, c, e, g, w, hh, h1, -⟩ := h; exact ⟨_, h1⟩
/-- the letters that a tape holds -/
def TPE (μ : dW) (t ca : Nat) (L : List Nat) : Prop := ∃ f : Nat → Int32, μ t = some (eO 6 [.ref ca, .int (nI L.length)]) ∧ μ ca = some (eA 0 400 f) ∧ t ≠ ca ∧ ∀ (i x : Nat), L[i]? = some x → f i = nI x
theorem TPE.kept {μ μ' : dW} {t ca : Nat} {L : List Nat} (h : TPE μ t ca L) (h1 : μ' t = μ t) (h2 : μ' ca = μ ca) : TPE μ' t ca L := by
  obtain ⟨f, a, b, c, e⟩ := h
  exact ⟨f, by rw [h1]; exact a, by rw [h2]; exact b, c, e⟩
theorem TPE.obj {μ : dW} {t ca : Nat} {L : List Nat} (h : TPE μ t ca L) : ∃ fs, μ t = some (eO 6 fs) := by
  obtain ⟨f, a, -⟩ := h
  exact ⟨_, a⟩
theorem c_TP_add (B : dB) (ax : Nat → Nat) (d u : Nat) {σ : sS} {μ : dW} {t ca : Nat} {L : List Nat} (h : TPE μ t ca L) (hl : L.length < 400) (c : Nat) (k : sS → dW → Prop) (hk : ∀ μ', TPE μ' t ca (L ++ [c]) → (∀ q, q ≠ t → q ≠ ca → μ' q = μ q) → k σ μ') : DCJ B ax d u y_TP_add [.ref t, .int (nI c)] σ μ (qN k) := by
  obtain ⟨f, h1, h2, h3, h4⟩ := h
  refine s_TP_add_0 B ax d u t _ σ μ _ ⟨_, _, h1, rfl, _, _, h1, rfl, 400, f, h2, vp_in_nI hl (by omega), _, _, (dset_ne _ _ h3).trans h1, rfl, _, (dset_ne _ _ h3).trans h1, by simp, ?_⟩
  refine hk _ ⟨upd f L.length (nI c), ?_, ?_, h3, fun i x hi => ?_⟩ (fun q q1 q2 => ?_)
  · rw [dset_same, nI_s1]
    simp
  · rw [dset_ne _ _ (Ne.symm h3), nI_clamp (by omega), dset_same]
  · by_cases z : i < L.length
    · rw [List.getElem?_append_left z] at hi
      rw [pk_un (by omega)]
      exact h4 i x hi
    · have hlt := (List.getElem?_eq_some_iff.mp hi).1
      rw [List.length_append, List.length_singleton] at hlt
      have e : i = L.length := by omega
      subst e
      have : c = x := by simpa using hi
      subst this
      exact pk_us
  · rw [dset_ne _ _ q1, dset_ne _ _ q2]
theorem c_TP_init (B : dB) (ax : Nat → Nat) (d u : Nat) (hu : 401 ≤ u) {σ : sS} {μ : dW} {t : Nat} (h : μ t = some (eO 6 (dfl 6))) (k : sS → dW → Prop) (hk : ∀ ca μ', μ ca = none → TPE μ' t ca [] → (∀ q, q ≠ t → q ≠ ca → μ' q = μ q) → k σ μ') : DCJ B ax (d + 1) u y_TP_init [.ref t] σ μ (qN k) := by
  refine s_TP_init_0 B ax d u t σ μ _ ⟨by decide, by show 400 + 1 ≤ u; omega, by decide, fun q hq => ?_⟩
  have hne : t ≠ q := fun e => by rw [e, hq] at h; cases h
  refine ⟨_, (dset_ne _ _ hne).trans h, by decide, ?_⟩
  refine hk q _ hq ⟨fun _ => 0, ?_, ?_, hne, fun i x hi => by simp at hi⟩ (fun x x1 x2 => ?_)
  · rw [dset_same]; rfl
  · rw [dset_ne _ _ (Ne.symm hne), dset_same]; rfl
  · rw [dset_ne _ _ x1, dset_ne _ _ x2]
