/-! the law's end -/
theorem nI_ne9 {s : Nat} (h : s < 2 ^ 31) : ¬ nI s = -9 := fun z => by
  have := nI_pos h
  rw [z] at this
  exact this (by decide)
theorem t1123 (B : dB) (ax : Nat → Nat) {E u : Nat} (hE : 300 ≤ E) {Q : dQ} (hQ : ∀ σ μ, Q (some (.int 1)) σ μ) {σ : sS} {μ : dW} {V V0 : VT} {c c0 : CT} (hX : XL σ V c (some (V0, c0)) []) {bf : Nat} (hb : bf < 2 ^ 31) (hbf : bf = 0 ↔ (fl c V).1.length = 0) : DJ B ax (E + 1 + 1) u y_LW_law 1123 [(1, .ref (ax 0)), (4, .int (nI V0.1)), (15, .int (nI bf))] [] σ μ Q := by
  have e47 : ∀ (s : Int32) σ', XL σ' V c (some (V0, c0)) [] → DJ B ax (E + 1 + 1) u y_LW_law 1147 [(1, .ref (ax 0)), (4, .int (nI V0.1))] [.int s, .int s] σ' μ Q := fun s σ' h =>
    s_LW_law_1147 B ax (E + 1) u _ _ s s σ' μ Q ⟨fun z => absurd rfl z, fun _ => ⟨rfl, x_on (by omega) h _ (fun σ2 h2 => ⟨fun z => absurd rfl z, fun _ => ⟨rfl, x_count (by omega) h2 _ ⟨fun z => absurd rfl z, fun _ => ⟨Or.inr rfl, hQ _ _⟩⟩⟩⟩)⟩⟩
  refine s_LW_law_1123 B ax (E + 1) u _ _ _ σ μ Q ⟨rfl, x_total (by omega) hX _ (fun s σ' h0 hs h => ⟨fun _ => ?_, fun z => absurd z (nI_ne9 hs)⟩) (fun σ' h1 h => ⟨fun z => absurd rfl z, fun _ => ?_⟩)⟩
  · have e0 : bf = 0 := hbf.mpr h0
    subst e0
    exact s_LW_law_1137 B ax (E + 1) u _ _ _ 0 σ' μ Q ⟨fun _ => e47 0 σ' h, fun z => absurd z (by decide)⟩
  · have e0 : 0 < bf := by have := mt hbf.mp h1; omega
    exact s_LW_law_1137 B ax (E + 1) u _ _ _ 1 σ' μ Q ⟨fun z => absurd (nI_lt e0 (by omega)) z, fun _ => e47 1 σ' h⟩
/-- this one, or any number: what is found in a record -/
theorem fl_or {c : CT} {V : VT} {fs : List XD} (hR : RQ c 1 fs) (h0 : cF c 0 0 = 47) (h1 : cF c 0 (2 + sumf xfz fs) = 35) (w : WFV V) (h2 : V.2 0 0 = 2) {F : List Nat} {n : Nat} (e : lk c V 119 1 0 = (F, n)) : (fl c V).1.length = (if 1 < F.length then 1 else F.length) ∧ (1 < F.length → (fl c V).1[0]? = some 1) := by
  have e3 : cF c 3 1 = 1 + sumf xfz fs := hR.2.2.1
  have ef : fl c V = if F = [] then (F, n) else if ([1] : List Nat).length < F.length then ([1], 0) else (F, n) := by
    show lk c V (119 + 1) 0 0 = _
    conv => lhs; unfold lk
    rw [if_neg (by omega), if_neg (by omega), if_neg (by omega), if_neg (by omega), if_neg (by omega), if_neg (by omega), if_neg (by omega), if_pos h0]
    have e2 : lk c V 119 (0 + 1 + cF c 3 (0 + 1)) 0 = ([1], 0) := by
      rw [show 0 + 1 + cF c 3 (0 + 1) = 2 + sumf xfz fs by show 0 + 1 + cF c 3 1 = _; omega]
      rw [show (119 : Nat) = 118 + 1 from rfl, lk_35 h1]
      unfold numL
      rw [if_pos (by omega), w.2.2.2.2.1]
    have e1 : lk c V 119 (0 + 1) 0 = (F, n) := e
    rw [e2, e1]
  rw [ef]
  by_cases z : F = []
  · rw [if_pos z, z]
    exact ⟨rfl, fun y => by cases y⟩
  · rw [if_neg z]
    by_cases y : 1 < F.length
    · have y' : ([1] : List Nat).length < F.length := y
      rw [if_pos y', if_pos y]
      exact ⟨rfl, fun _ => rfl⟩
    · have y' : ¬ ([1] : List Nat).length < F.length := y
      rw [if_neg y', if_neg y]
      exact ⟨rfl, fun u => absurd u y⟩
/-! the check of all fields, as an object -/
def xck (x : XD) : Ck 2 := if xdQ x = 0 then ckmk 35 (xdL x) (xdH x) [] [] else if xdQ x = 1 then ckmk 33 0 0 [] [(0, ckmk (d := 0) 35 (xdL x) (xdH x) [] [])] else ckmk 42 0 0 [] []
def xckp (x : XD) : Nat × Ck 2 := (xdN x + 10 * xdR x, xck x)
def xall (fs : List XD) (w : List Nat) : Ck 3 := ckmk 123 0 0 w (fs.map xckp)
theorem klet_mk {d : Nat} (s lo hi : Nat) (w : List Nat) (cs : List (Nat × Ck d)) : klet (d + 1) (ckmk s lo hi w cs) = [s] ++ (if s = 35 then [48 + lo / 10, 48 + lo % 10, 48 + hi / 10, 48 + hi % 10] else []) ++ (if s = 64 then [48 + lo, 48 + hi] else []) ++ fldL (fun x => klet d x) cs ++ depL w ++ (if s = 123 then [125] else []) := rfl
theorem klet_xck (x : XD) : klet 2 (xck x) = xkl (xdQ x) (xdL x) (xdH x) := by
  unfold xck xkl
  by_cases z : xdQ x = 0
  · rw [if_pos z, if_pos z]
    simp [klet_mk, fldL, depL]
  · rw [if_neg z, if_neg z]
    by_cases z1 : xdQ x = 1
    · rw [if_pos z1, if_pos z1]
      simp [klet_mk, fldL, depL]
    · rw [if_neg z1, if_neg z1]
      simp [klet_mk, fldL, depL]
theorem ksz_xck (x : XD) : ksz 2 (xck x) = xfz x := by
  unfold xck
  have e : xfz x = xkz (xdQ x) := rfl
  rw [e]
  unfold xkz
  by_cases z : xdQ x = 0
  · rw [if_pos z, if_neg (by omega)]; rfl
  · rw [if_neg z]
    by_cases z1 : xdQ x = 1
    · rw [if_pos z1, if_pos z1]; rfl
    · rw [if_neg z1, if_neg z1]; rfl
theorem fldL_xls : ∀ fs : List XD, (∀ x ∈ fs, xok x) → fldL (fun x => klet 2 x) (fs.map xckp) = xls fs
  | [], _ => rfl
  | x :: r, h => by
    obtain ⟨x1, x5, xr, -⟩ := h x List.mem_cons_self
    have ih := fldL_xls r (fun y hy => h y (List.mem_cons_of_mem _ hy))
    show ((if 10 < (xckp x).1 then [46] else []) ++ (if 0 < (xckp x).1 then [96 + (xckp x).1 % 10] else []) ++ klet 2 (xckp x).2) ++ fldL (fun x => klet 2 x) (r.map xckp) = xlt x ++ xls r
    rw [ih]
    congr 1
    show (if 10 < xdN x + 10 * xdR x then [46] else []) ++ (if 0 < xdN x + 10 * xdR x then [96 + (xdN x + 10 * xdR x) % 10] else []) ++ klet 2 (xck x) = _
    rw [klet_xck, if_pos (show 0 < xdN x + 10 * xdR x by omega), show (xdN x + 10 * xdR x) % 10 = xdN x by omega]
    unfold xlt
    by_cases z : xdR x = 1
    · rw [if_pos (by omega), if_pos z]
    · rw [if_neg (by omega), if_neg z]
theorem klet_xall {fs : List XD} (w : List Nat) (h : ∀ x ∈ fs, xok x) : klet 3 (xall fs w) = xrl fs w := by
  unfold xall
  rw [klet_mk, fldL_xls fs h]
  simp [xrl]
theorem ksz_xall (fs : List XD) (w : List Nat) : ksz 3 (xall fs w) = 1 + sumf xfz fs := by
  show 1 + sumf (fun q => ksz 2 q.2) (fs.map xckp) = _
  congr 1
  induction fs with
  | nil => rfl
  | cons x r ih =>
    show ksz 2 (xckp x).2 + sumf (fun q => ksz 2 q.2) (r.map xckp) = xfz x + sumf xfz r
    rw [ih]
    show ksz 2 (xck x) + _ = _
    rw [ksz_xck]
theorem kwf_xck {x : XD} (h : xok x) : kwf 2 (xck x) := by
  obtain ⟨x1, x5, xr, xl, xh⟩ := h
  unfold xck
  by_cases z : xdQ x = 0
  · rw [if_pos z]
    exact ⟨by show 35 < 256; omega, by show xdL x ≤ 99; omega, xh, Nat.zero_le _, Nat.zero_le _, fun w hw => absurd (show w ∈ ([] : List Nat) from hw) List.not_mem_nil, fun q hq => absurd hq List.not_mem_nil⟩
  · rw [if_neg z]
    by_cases z1 : xdQ x = 1
    · rw [if_pos z1]
      refine ⟨by show 33 < 256; omega, Nat.zero_le _, Nat.zero_le _, by show 1 ≤ 9; omega, Nat.zero_le _, fun w hw => absurd (show w ∈ ([] : List Nat) from hw) List.not_mem_nil, fun q hq => ?_⟩
      have hq : q ∈ [((0 : Nat), (ckmk (d := 0) 35 (xdL x) (xdH x) [] [] : Ck 1))] := hq
      rw [List.mem_singleton] at hq
      subst hq
      exact ⟨Nat.zero_le _, fun z => absurd z (Nat.lt_irrefl _), ⟨by show 35 < 256; omega, by show xdL x ≤ 99; omega, xh, Nat.zero_le _, Nat.zero_le _, fun w hw => absurd (show w ∈ ([] : List Nat) from hw) List.not_mem_nil, fun q hq => absurd hq List.not_mem_nil⟩⟩
    · rw [if_neg z1]
      exact ⟨by show 42 < 256; omega, Nat.zero_le _, Nat.zero_le _, Nat.zero_le _, Nat.zero_le _, fun w hw => absurd (show w ∈ ([] : List Nat) from hw) List.not_mem_nil, fun q hq => absurd hq List.not_mem_nil⟩
theorem kwf_xall {fs : List XD} {w : List Nat} (h : ∀ x ∈ fs, xok x) (hl : fs.length ≤ 9) (hw : dOK w) : kwf 3 (xall fs w) := by
  refine ⟨by show 123 < 256; omega, Nat.zero_le _, Nat.zero_le _, ?_, ?_, fun y hy => ?_, fun q hq => ?_⟩
  · show (fs.map xckp).length ≤ 9
    rw [List.length_map]; exact hl
  · show w.length ≤ 1
    rcases hw with rfl | ⟨a, b, rfl, -⟩
    · exact Nat.zero_le _
    · exact Nat.le_refl _
  · have hy : y ∈ w := hy
    rcases hw with rfl | ⟨a, b, rfl, a1, a2, b1, b2⟩
    · cases hy
    · rw [List.mem_singleton] at hy; omega
  · have hq : q ∈ fs.map xckp := hq
    obtain ⟨x, x1, rfl⟩ := List.mem_map.mp hq
    have hx := h x x1
    exact ⟨by show xdN x + 10 * xdR x ≤ 19; unfold xok at hx; omega, fun _ => by show 1 ≤ (xdN x + 10 * xdR x) % 10; unfold xok at hx; omega, kwf_xck hx⟩
theorem fldL_small {α : Type} (g : α → List Nat) : ∀ r : List (Nat × α), (∀ q ∈ r, ∀ x ∈ g q.2, x < 256) → ∀ x ∈ fldL g r, x < 256
  | [], _, x, h => by cases h
  | q :: r, hr, x, h => by
    simp only [fldL, List.mem_append] at h
    rcases h with ((h | h) | h) | h
    · split at h
      · rw [List.mem_singleton] at h; omega
      · cases h
    · split at h
      · rw [List.mem_singleton] at h; omega
      · cases h
    · exact hr q List.mem_cons_self x h
    · exact fldL_small g r (fun y hy => hr y (List.mem_cons_of_mem _ hy)) x h
theorem xkl_small {k lo hi : Nat} (hlo : lo ≤ 99) (hhi : hi ≤ 99) : ∀ x ∈ xkl k lo hi, x < 256 := by
  intro x hx
  unfold xkl at hx
  split at hx
  · simp at hx; omega
  · split at hx
    · simp at hx; omega
    · simp at hx; omega
theorem xrl_small {fs : List XD} {w : List Nat} (h : ∀ x ∈ fs, xok x) (hw : dOK w) : ∀ x ∈ xrl fs w, x < 256 := by
  intro x hx
  have hx : x ∈ 123 :: (xls fs ++ (depL w ++ [125])) := hx
  rw [List.mem_cons, List.mem_append, List.mem_append] at hx
  rcases hx with hx | hx | hx | hx
  · omega
  · rw [← fldL_xls fs h] at hx
    refine fldL_small _ _ (fun q hq y hy => ?_) x hx
    obtain ⟨z, z1, rfl⟩ := List.mem_map.mp hq
    have hz := h z z1
    have hy : y ∈ klet 2 (xck z) := hy
    rw [klet_xck] at hy
    unfold xok at hz
    exact xkl_small (by omega) (by omega) y hy
  · rcases hw with rfl | ⟨a, b, rfl, a1, a2, b1, b2⟩
    · cases hx
    · rw [depL_one a2 b2] at hx
      simp at hx
      omega
  · rw [List.mem_singleton] at hx; omega
