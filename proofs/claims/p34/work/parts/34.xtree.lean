/-! the class's Tree: what its methods do -/
theorem XV.rd {σ : sS} {t : Nat} {v : VT} (h : XV σ t v) (h20 : v.1 ≤ 20) {f p : Nat} (hf : f < 6) (hp : p < v.1) {a : Nat} (ha : a = t + 1 + f) : rd σ a 20 (nI p) = nI (v.2 f p) := by
  subst ha
  rw [rd_nI (by omega) (by omega), h.2 f hf p hp]
/-- the first part with a path; v.1 if there is none -/
def findV (v : VT) (s : Int32) : Nat := fst_ (fun p => decide (nI (v.2 5 p) = s)) v.1 0
theorem c_TR_find (Y : List kd) (d t : Nat) {v : VT} (h20 : v.1 ≤ 20) {σ : sS} (hv : XV σ t v) (s : Int32) (k : Int32 → sS → Prop) (hk : k (if findV v s < v.1 then nI (findV v s) else -1) σ) : CJ Y (d + 1) y_TR_find [sR t (.inl 3), sI s] σ (rI k) := by
  refine s_TR_find_0 Y d t s σ (rI k) ?_
  have key : ∀ m i, i + m = v.1 → k (if fst_ (fun p => decide (nI (v.2 5 p) = s)) m i < v.1 then nI (fst_ (fun p => decide (nI (v.2 5 p) = s)) m i) else -1) σ → Jd Y (d + 1) y_TR_find 2 [(0, sR t (.inl 3)), (1, sI s), (2, sI (nI i))] [] σ (rI k) := by
    intro m
    induction m with
    | zero =>
      intro i hi hq
      have e : fst_ (fun p => decide (nI (v.2 5 p) = s)) 0 i = i := rfl
      rw [e, if_neg (by omega)] at hq
      refine s_TR_find_2 Y d t s (nI i) σ (rI k) ⟨fun _ => hq, fun hlt => ?_⟩
      rw [hv.1, i32_lt (by omega) (by omega)] at hlt
      omega
    | succ m ih =>
      intro i hi hq
      refine s_TR_find_2 Y d t s (nI i) σ (rI k) ⟨fun hlt => ?_, fun _ => ⟨fun hne => ?_, fun he => ?_⟩⟩
      · rw [hv.1, i32_lt (by omega) (by omega)] at hlt
        omega
      · rw [hv.rd h20 (f := 5) (by omega) (show i < v.1 by omega) rfl] at hne
        rw [nI_s1]
        refine ih (i + 1) (by omega) ?_
        have e : fst_ (fun p => decide (nI (v.2 5 p) = s)) (m + 1) i = fst_ (fun p => decide (nI (v.2 5 p) = s)) m (i + 1) := by
          show (if decide (nI (v.2 5 i) = s) = true then i else _) = _
          rw [if_neg (by simpa using hne)]
        rw [e] at hq
        exact hq
      · rw [hv.rd h20 (f := 5) (by omega) (show i < v.1 by omega) rfl] at he
        have e : fst_ (fun p => decide (nI (v.2 5 p) = s)) (m + 1) i = i := by
          show (if decide (nI (v.2 5 i) = s) = true then i else _) = _
          rw [if_pos (by simpa using he)]
        rw [e, if_pos (by omega)] at hq
        exact hq
  exact key v.1 0 (by omega) hk
/-- the place in its row of the part in p with a digit; how many are in it if there is none -/
def kidV (v : VT) (p : Nat) (s : Int32) : Nat := fst_ (fun k => decide (nI (v.2 3 (kch v p k)) = s)) (v.2 2 p) 0
/-- the part in p with a digit: its place, or -1 -/
def childV (v : VT) (p : Nat) (s : Int32) : Int32 := if kidV v p s < v.2 2 p then nI (kch v p (kidV v p s)) else -1
theorem c_TR_child (Y : List kd) (d t : Nat) {v : VT} (w : WFV v) {σ : sS} (hv : XV σ t v) {p : Nat} (hp : p < v.1) (s : Int32) (k : Int32 → sS → Prop) (hk : k (childV v p s) σ) : CJ Y (d + 1) y_TR_child [sR t (.inl 3), sI (nI p), sI s] σ (rI k) := by
  have h20 := w.2.1
  have hk5 := w.kids5 hp
  refine s_TR_child_0 Y d t (nI p) s σ (rI k) ?_
  rw [hv.rd h20 (f := 2) (by omega) hp rfl, nI_s1]
  have key : ∀ m i, i + m = v.2 2 p → k (if fst_ (fun k => decide (nI (v.2 3 (kch v p k)) = s)) m i < v.2 2 p then nI (kch v p (fst_ (fun k => decide (nI (v.2 3 (kch v p k)) = s)) m i)) else -1) σ → Jd Y (d + 1) y_TR_child 17 [(0, sR t (.inl 3)), (2, sI s), (3, sI (nI (v.2 2 p))), (4, sI (nI (kch v p i))), (5, sI (nI i))] [] σ (rI k) := by
    intro m
    induction m with
    | zero =>
      intro i hi hq
      have e : fst_ (fun k => decide (nI (v.2 3 (kch v p k)) = s)) 0 i = i := rfl
      rw [e, if_neg (by omega)] at hq
      refine s_TR_child_17 Y d t s _ _ (nI i) σ (rI k) ⟨fun _ => hq, fun hlt => ?_⟩
      rw [i32_lt (by omega) (by omega)] at hlt
      omega
    | succ m ih =>
      intro i hi hq
      have hc := (w.kchlt hp (show i < v.2 2 p by omega)).2
      refine s_TR_child_17 Y d t s _ _ (nI i) σ (rI k) ⟨fun hlt => ?_, fun _ => ⟨fun hne => ?_, fun he => ?_⟩⟩
      · rw [i32_lt (by omega) (by omega)] at hlt
        omega
      · rw [hv.rd h20 (f := 3) (by omega) hc rfl] at hne
        rw [hv.rd h20 (f := 4) (by omega) hc rfl, nI_s1, nI_add]
        refine ih (i + 1) (by omega) ?_
        have e : fst_ (fun k => decide (nI (v.2 3 (kch v p k)) = s)) (m + 1) i = fst_ (fun k => decide (nI (v.2 3 (kch v p k)) = s)) m (i + 1) := by
          show (if decide (nI (v.2 3 (kch v p i)) = s) = true then i else _) = _
          rw [if_neg (by simpa using hne)]
        rw [e] at hq
        exact hq
      · rw [hv.rd h20 (f := 3) (by omega) hc rfl] at he
        have e : fst_ (fun k => decide (nI (v.2 3 (kch v p k)) = s)) (m + 1) i = i := by
          show (if decide (nI (v.2 3 (kch v p i)) = s) = true then i else _) = _
          rw [if_pos (by simpa using he)]
        rw [e, if_pos (by omega)] at hq
        exact hq
  exact key (v.2 2 p) 0 (by omega) hk
def lessV (v : VT) (a b : Nat) : Prop := if v.2 0 a = 0 ∧ v.2 0 b = 0 then v.2 1 a < v.2 1 b else v.2 4 a < v.2 4 b
theorem c_TR_less (Y : List kd) (d t : Nat) {v : VT} (w : WFV v) {σ : sS} (hv : XV σ t v) {a b : Nat} (ha : a < v.1) (hb : b < v.1) (k : Int32 → sS → Prop) (h1 : lessV v a b → k 1 σ) (h0 : ¬ lessV v a b → k 0 σ) : CJ Y (d + 1) y_TR_less [sR t (.inl 3), sI (nI a), sI (nI b)] σ (rI k) := by
  have h20 := w.2.1
  have kinds := fun p (hp : p < v.1) => (w.2.2.2.2.2.2.2 p hp)
  have ea := hv.rd h20 (f := 0) (by omega) ha rfl
  have eb := hv.rd h20 (f := 0) (by omega) hb rfl
  have na := hv.rd h20 (f := 1) (by omega) ha rfl
  have nb := hv.rd h20 (f := 1) (by omega) hb rfl
  have sa := hv.rd h20 (f := 4) (by omega) ha rfl
  have sb := hv.rd h20 (f := 4) (by omega) hb rfl
  have ka := (kinds a ha).1
  have kb := (kinds b hb).1
  have spa := w.sp20 ha
  have spb := w.sp20 hb
  have z0 : ∀ n : Nat, n < 4 → (nI n = 0 ↔ n = 0) := fun n hn => by rw [← nI_0]; exact i32_eq (by omega) (by omega)
  have hspan : ¬ (v.2 0 a = 0 ∧ v.2 0 b = 0) → Jd Y (d + 1) y_TR_less 47 [(0, sR t (.inl 3)), (1, sI (nI a)), (2, sI (nI b))] [] σ (rI k) := by
    intro hn
    unfold lessV at h1 h0
    rw [if_neg hn] at h1 h0
    refine s_TR_less_47 Y d t _ _ σ (rI k) ⟨fun hlt => ⟨Or.inl rfl, ?_⟩, fun hlt => ⟨Or.inr rfl, ?_⟩⟩
    · rw [sa, sb, i32_lt (by omega) (by omega)] at hlt
      exact h0 hlt
    · rw [sa, sb, i32_lt (by omega) (by omega)] at hlt
      exact h1 hlt
  refine s_TR_less_0 Y d t _ _ σ (rI k) ⟨fun hne => ?_, fun he => ⟨fun hne => ?_, fun he2 => ⟨fun hlt => ⟨Or.inl rfl, ?_⟩, fun hlt => ⟨Or.inr rfl, ?_⟩⟩⟩⟩
  · have hne : ¬ nI (v.2 0 a) = 0 := by rw [← ea]; exact hne
    rw [z0 _ (by omega)] at hne
    exact hspan (fun z => hne z.1)
  · have hne : ¬ nI (v.2 0 b) = 0 := by rw [← eb]; exact hne
    rw [z0 _ (by omega)] at hne
    exact hspan (fun z => hne z.2)
  all_goals
    have he : nI (v.2 0 a) = 0 := by rw [← ea]; exact he
    have he2 : nI (v.2 0 b) = 0 := by rw [← eb]; exact he2
    rw [z0 _ (by omega)] at he he2
    have n1 := (kinds a ha).2.1 he
    have n2 := (kinds b hb).2.1 he2
    unfold lessV at h1 h0
    rw [if_pos ⟨he, he2⟩] at h1 h0
  · have hlt : ¬ nI (v.2 1 a) < nI (v.2 1 b) := by rw [← na, ← nb]; exact hlt
    rw [i32_lt (by omega) (by omega)] at hlt
    exact h0 hlt
  · have hlt : nI (v.2 1 a) < nI (v.2 1 b) := by rw [← na, ← nb]; exact hlt
    rw [i32_lt (by omega) (by omega)] at hlt
    exact h1 hlt
theorem cp_self {σ : sS} {a0 a1 n i : Nat} (h : i < n) : cp σ a0 a1 n a1 i = σ a0 i := by
  unfold cp
  rw [upA_self]
  unfold va_cpy
  rw [if_pos ⟨Nat.zero_le _, by omega⟩]
  simp
theorem cp_ne {σ : sS} {a0 a1 n c : Nat} (h : c ≠ a1) : cp σ a0 a1 n c = σ c := upA_cell σ _ h
theorem c_TR_take (Y : List kd) (d t a : Nat) (hd : a + 7 ≤ t ∨ t + 7 ≤ a) {v : VT} (h20 : v.1 ≤ 20) {σ : sS} (hv : XV σ a v) (k : sS → Prop) (hk : ∀ σ', XV σ' t v → (∀ c, (c < t ∨ t + 7 ≤ c) → σ' c = σ c) → k σ') : CJ Y (d + 2) y_TR_take [sR t (.inl 3), sR a (.inl 3)] σ (rN k) := by
  refine s_TR_take_0 Y (d + 1) t a σ (rN k) ?_
  refine c_GF_copy Y d _ _ 20 (by decide) _ _ ?_
  refine c_GF_copy Y d _ _ 20 (by decide) _ _ ?_
  refine c_GF_copy Y d _ _ 20 (by decide) _ _ ?_
  refine c_GF_copy Y d _ _ 20 (by decide) _ _ ?_
  refine c_GF_copy Y d _ _ 20 (by decide) _ _ ?_
  refine c_GF_copy Y d _ _ 20 (by decide) _ _ ?_
  refine hk _ ⟨?_, ?_⟩ ?_
  · rw [up_self]
    repeat rw [cp_ne (by omega)]
    exact hv.1
  · intro f hf p hp
    have h20' : p < 20 := by omega
    rw [up_cell _ _ (by omega)]
    rcases (show f = 0 ∨ f = 1 ∨ f = 2 ∨ f = 3 ∨ f = 4 ∨ f = 5 by omega) with rfl | rfl | rfl | rfl | rfl | rfl
    all_goals
      repeat rw [cp_ne (by omega)]
      rw [cp_self h20']
      repeat rw [cp_ne (by omega)]
      exact hv.2 _ (by omega) p hp
  · intro c hc
    rw [up_cell _ _ (by omega)]
    repeat rw [cp_ne (by omega)]
