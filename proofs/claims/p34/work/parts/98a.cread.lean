/-! the letters of the law's checks are read back -/
abbrev XD : Type := Nat × Nat × Nat × Nat × Nat × Nat × Nat
abbrev xdN (x : XD) : Nat := x.1
abbrev xdR (x : XD) : Nat := x.2.1
abbrev xdQ (x : XD) : Nat := x.2.2.1
abbrev xdL (x : XD) : Nat := x.2.2.2.1
abbrev xdH (x : XD) : Nat := x.2.2.2.2.1
abbrev xdK (x : XD) : Nat := x.2.2.2.2.2.1
abbrev xdV (x : XD) : Nat := x.2.2.2.2.2.2
def xkz (k : Nat) : Nat := if k = 1 then 2 else 1
def xfz (x : XD) : Nat := xkz (xdQ x)
def xkl (k lo hi : Nat) : List Nat := if k = 0 then [35, 48 + lo / 10, 48 + lo % 10, 48 + hi / 10, 48 + hi % 10] else if k = 1 then [33, 35, 48 + lo / 10, 48 + lo % 10, 48 + hi / 10, 48 + hi % 10] else [42]
def xlt (x : XD) : List Nat := (if xdR x = 1 then [46] else []) ++ [96 + xdN x] ++ xkl (xdQ x) (xdL x) (xdH x)
def xls : List XD → List Nat
  | [] => []
  | x :: r => xlt x ++ xls r
def xrl (fs : List XD) (w : List Nat) : List Nat := 123 :: (xls fs ++ (depL w ++ [125]))
/-! which letter can go on -/
theorem cst_go {L : Nat → Nat} {m i : Nat} {a b : CA} (h : cgo a (L i) = some b) : cst L (m + 1) i a = cst L m (i + 1) b := by
  conv => lhs; unfold cst
  rw [h]
theorem cgo_dig {st : List Nat} {o c : Nat} (hc : 48 ≤ c ∧ c ≤ 57) (ho : 2 ≤ o) : cgo (2, o, false, st) c = some (2, o - 1, false, st) := by
  have : ¬ o - 1 = 0 := by omega
  simp [cgo, isD_of hc, this]
theorem cgo_dig1 {st : List Nat} {c : Nat} (hc : 48 ≤ c ∧ c ≤ 57) : cgo (2, 1, false, st) c = some (cend st) := by
  simp [cgo, isD_of hc]
theorem cst_num4 (L : Nat → Nat) (m i : Nat) (st : List Nat) {lo hi : Nat} (hlo : lo ≤ 99) (hhi : hi ≤ 99) (hL : At L i [35, 48 + lo / 10, 48 + lo % 10, 48 + hi / 10, 48 + hi % 10]) : cst L (5 + m) i (0, 0, false, st) = cst L m (i + 5) (cend st) := by
  have h0 := hL.head
  have h1 := hL.tail.head
  have h2 := hL.tail.tail.head
  have h3 := hL.tail.tail.tail.head
  have h4 := hL.tail.tail.tail.tail.head
  rw [show 5 + m = m + 4 + 1 by omega, cst_go (by rw [h0]; rfl : cgo (0, 0, false, st) (L i) = some (2, 4, false, st)), cst_go (m := m + 3) (by rw [h1]; exact cgo_dig (by omega) (by omega)), cst_go (m := m + 2) (by rw [h2]; exact cgo_dig (by omega) (by omega)), cst_go (m := m + 1) (by rw [h3]; exact cgo_dig (by omega) (by omega)), cst_go (by rw [h4]; exact cgo_dig1 (by omega))]
theorem cst_body (L : Nat → Nat) (m i : Nat) (st : List Nat) {k lo hi : Nat} (hlo : lo ≤ 99) (hhi : hi ≤ 99) (hL : At L i (xkl k lo hi)) : cst L ((xkl k lo hi).length + m) i (0, 0, false, st) = cst L m (i + (xkl k lo hi).length) (cend st) := by
  unfold xkl at hL ⊢
  by_cases z : k = 0
  · rw [if_pos z] at hL ⊢
    exact cst_num4 L m i st hlo hhi hL
  · rw [if_neg z] at hL ⊢
    by_cases z1 : k = 1
    · rw [if_pos z1] at hL ⊢
      show cst L (6 + m) i _ = cst L m (i + 6) _
      rw [show 6 + m = 5 + m + 1 by omega, cst_go (by rw [hL.head]; rfl : cgo (0, 0, false, st) (L i) = some (0, 0, false, st)), cst_num4 L m (i + 1) st hlo hhi hL.tail]
    · rw [if_neg z1] at hL ⊢
      show cst L (1 + m) i _ = cst L m (i + 1) _
      rw [Nat.add_comm 1 m, cst_go (by rw [hL.head]; rfl : cgo (0, 0, false, st) (L i) = some (cend st))]
theorem cgo_nam {st : List Nat} {s c : Nat} (hs : s = 3 ∨ s = 4) (hc : 97 ≤ c ∧ c ≤ 101) : cgo (s, 0, false, st) c = some (0, 0, false, st) := by
  have h : isN c = true := isN_iff.mpr hc
  rcases hs with rfl | rfl
  · simp [cgo, h]; omega
  · simp [cgo, h]
theorem cst_xls (L : Nat → Nat) (m : Nat) (r : List Nat) : ∀ (fs : List XD) (i : Nat), (∀ x ∈ fs, 1 ≤ xdN x ∧ xdN x ≤ 5 ∧ xdL x ≤ 99 ∧ xdH x ≤ 99) → At L i (xls fs) → cst L ((xls fs).length + m) i (3, 0, false, 123 :: r) = cst L m (i + (xls fs).length) (3, 0, false, 123 :: r)
  | [], i, _, _ => by show cst L (0 + m) i _ = _; rw [Nat.zero_add]; rfl
  | x :: fs, i, hf, hL => by
    obtain ⟨a1, a2, a3, a4⟩ := hf x List.mem_cons_self
    have ih := cst_xls L m r fs
    have hL : At L i (xlt x ++ xls fs) := hL
    have hx := hL.left
    have hr := hL.right
    have body : ∀ i', At L i' (xkl (xdQ x) (xdL x) (xdH x)) → cst L ((xkl (xdQ x) (xdL x) (xdH x)).length + ((xls fs).length + m)) i' (0, 0, false, 123 :: r) = cst L ((xls fs).length + m) (i' + (xkl (xdQ x) (xdL x) (xdH x)).length) (3, 0, false, 123 :: r) := fun i' h => cst_body L _ i' (123 :: r) a3 a4 h
    show cst L ((xlt x ++ xls fs).length + m) i _ = cst L m (i + (xlt x ++ xls fs).length) _
    have elt : xlt x = (if xdR x = 1 then [46] else []) ++ [96 + xdN x] ++ xkl (xdQ x) (xdL x) (xdH x) := rfl
    have hi : ∀ i', At L i' (xls fs) → i' = i + (xlt x).length → cst L ((xls fs).length + m) i' (3, 0, false, 123 :: r) = cst L m (i + (xlt x ++ xls fs).length) (3, 0, false, 123 :: r) := fun i' h e => by
      rw [ih i' (fun y hy => hf y (List.mem_cons_of_mem _ hy)) h]
      congr 1
      rw [List.length_append]; omega
    by_cases z : xdR x = 1
    · rw [if_pos z] at elt
      have elt : xlt x = 46 :: (96 + xdN x) :: xkl (xdQ x) (xdL x) (xdH x) := elt
      have hlen : (xlt x).length = (xkl (xdQ x) (xdL x) (xdH x)).length + 2 := by rw [elt]; rfl
      rw [elt] at hx
      have h1 := hx.tail.head
      have h2 := hx.tail.tail
      rw [show (xlt x ++ xls fs).length + m = (xkl (xdQ x) (xdL x) (xdH x)).length + ((xls fs).length + m) + 1 + 1 by rw [List.length_append, hlen]; omega]
      rw [cst_go (by rw [hx.head]; rfl : cgo (3, 0, false, 123 :: r) (L i) = some (4, 0, false, 123 :: r)), cst_go (by rw [h1]; exact cgo_nam (Or.inr rfl) (by omega)), body _ h2]
      exact hi _ (by rw [show i + 1 + 1 + (xkl (xdQ x) (xdL x) (xdH x)).length = i + (xlt x).length by omega]; exact hr) (by omega)
    · rw [if_neg z] at elt
      have elt : xlt x = (96 + xdN x) :: xkl (xdQ x) (xdL x) (xdH x) := elt
      have hlen : (xlt x).length = (xkl (xdQ x) (xdL x) (xdH x)).length + 1 := by rw [elt]; rfl
      rw [elt] at hx
      have h2 := hx.tail
      rw [show (xlt x ++ xls fs).length + m = (xkl (xdQ x) (xdL x) (xdH x)).length + ((xls fs).length + m) + 1 by rw [List.length_append, hlen]; omega]
      rw [cst_go (by rw [hx.head]; exact cgo_nam (Or.inl rfl) (by omega)), body _ h2]
      exact hi _ (by rw [show i + 1 + (xkl (xdQ x) (xdL x) (xdH x)).length = i + (xlt x).length by omega]; exact hr) (by omega)
/-- dependents: none, or one of two names -/
def dOK (w : List Nat) : Prop := w = [] ∨ ∃ a b, w = [10 * a + b] ∧ 1 ≤ a ∧ a ≤ 5 ∧ 1 ≤ b ∧ b ≤ 5
theorem depL_one {a b : Nat} (ha : a ≤ 5) (hb : b ≤ 5) : depL [10 * a + b] = [61, 96 + a, 96 + b] := by
  have e1 : (10 * a + b) / 10 % 10 = a := by omega
  have e2 : (10 * a + b) % 10 = b := by omega
  have e3 : ¬ 99 < 10 * a + b := by omega
  simp [depL, e1, e2, e3]
theorem cst_rec (L : Nat → Nat) (m i : Nat) (r : List Nat) (fs : List XD) (w : List Nat) (hf : ∀ x ∈ fs, 1 ≤ xdN x ∧ xdN x ≤ 5 ∧ xdL x ≤ 99 ∧ xdH x ≤ 99) (hw : dOK w) (hL : At L i (xrl fs w)) : cst L ((xrl fs w).length + m) i (0, 0, false, r) = cst L m (i + (xrl fs w).length) (cend r) := by
  have hlen : (xrl fs w).length = 1 + (xls fs).length + ((depL w).length + 1) := by simp [xrl]; omega
  have h1 := hL.head
  have h2 : At L (i + 1) (xls fs) := hL.tail.left
  have h3 : At L (i + 1 + (xls fs).length) (depL w ++ [125]) := hL.tail.right
  rw [hlen, show 1 + (xls fs).length + ((depL w).length + 1) + m = (xls fs).length + ((depL w).length + 1 + m) + 1 by omega, cst_go (by rw [h1]; rfl : cgo (0, 0, false, r) (L i) = some (3, 0, false, 123 :: r)), cst_xls L _ r fs (i + 1) hf h2]
  rcases hw with rfl | ⟨a, b, rfl, a1, a2, b1, b2⟩
  · have h3 : At L (i + 1 + (xls fs).length) [125] := h3
    show cst L (0 + 1 + m) _ _ = _
    rw [show 0 + 1 + m = m + 1 by omega, cst_go (by rw [h3.head]; rfl : cgo (3, 0, false, 123 :: r) (L (i + 1 + (xls fs).length)) = some (cend r))]
    congr 1
    show i + 1 + (xls fs).length + 1 = i + (1 + (xls fs).length + (0 + 1))
    omega
  · rw [depL_one (by omega) (by omega)] at h3 ⊢
    have h3 : At L (i + 1 + (xls fs).length) [61, 96 + a, 96 + b, 125] := h3
    have n1 : isN (96 + a) = true := isN_iff.mpr (by omega)
    have n2 : isN (96 + b) = true := isN_iff.mpr (by omega)
    show cst L (3 + 1 + m) _ _ = _
    rw [show 3 + 1 + m = m + 3 + 1 by omega, cst_go (by rw [h3.head]; rfl : cgo (3, 0, false, 123 :: r) (L (i + 1 + (xls fs).length)) = some (6, 2, false, 123 :: r)),
      cst_go (m := m + 2) (by rw [h3.tail.head]; simp [cgo, n1] : cgo (6, 2, false, 123 :: r) (L (i + 1 + (xls fs).length + 1)) = some (6, 1, false, 123 :: r)),
      cst_go (m := m + 1) (by rw [h3.tail.tail.head]; simp [cgo, n2] : cgo (6, 1, false, 123 :: r) (L (i + 1 + (xls fs).length + 1 + 1)) = some (5, 0, false, 123 :: r)),
      cst_go (by rw [h3.tail.tail.tail.head]; rfl : cgo (5, 0, false, 123 :: r) (L (i + 1 + (xls fs).length + 1 + 1 + 1)) = some (cend r))]
    congr 1
    show i + 1 + (xls fs).length + 1 + 1 + 1 + 1 = i + (1 + (xls fs).length + (3 + 1))
    omega
