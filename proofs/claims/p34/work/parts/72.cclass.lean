/-! the class's CheckReader: its small methods -/
theorem bitsD : ∀ N, N < 64 → ∀ d, d < 6 → ((((nI N >>> (nI d &&& 31)) &&& 1) = (1 : Int32)) ↔ N / 2 ^ d % 2 = 1) := by decide +kernel
theorem c_PL_add (Y : List kd) (d T n : Nat) {σ : sS} (hn : σ T 13 = nI n) (hnb : n < 2 ^ 31) (sg lo hi : Int32) (k : Int32 → sS → Prop)
    (h0 : 24 ≤ n → k 0 σ)
    (h1 : ∀ σ', n < 24 → σ' T 13 = nI (n + 1) → (∀ i, i ≠ 13 → σ' T i = σ T i) → σ' (T + 1) n = sg → σ' (T + 2) n = lo → σ' (T + 3) n = hi → σ' (T + 4) n = 1 → (∀ x, T + 5 ≤ x → x < T + 11 → σ' x n = 0) → (∀ x, T < x → x < T + 11 → ∀ y, y ≠ n → σ' x y = σ x y) → (∀ x, (x < T ∨ T + 11 ≤ x) → σ' x = σ x) → k 1 σ') :
    CJ Y (d + 1) y_PL_add [sR T (.inl 2), sI sg, sI lo, sI hi] σ (rI k) := by
  have h24 : (24 : Nat) < 2 ^ 31 := by omega
  have c1 : ∀ (τ : sS) (i : Nat) (x : Int32), up τ (T + 1) i x T = τ T := fun _ _ _ => up_cell _ _ (by omega)
  have c2 : ∀ (τ : sS) (i : Nat) (x : Int32), up τ (T + 2) i x T = τ T := fun _ _ _ => up_cell _ _ (by omega)
  have c3 : ∀ (τ : sS) (i : Nat) (x : Int32), up τ (T + 3) i x T = τ T := fun _ _ _ => up_cell _ _ (by omega)
  have c4 : ∀ (τ : sS) (i : Nat) (x : Int32), up τ (T + 4) i x T = τ T := fun _ _ _ => up_cell _ _ (by omega)
  have c5 : ∀ (τ : sS) (i : Nat) (x : Int32), up τ (T + 5) i x T = τ T := fun _ _ _ => up_cell _ _ (by omega)
  have c6 : ∀ (τ : sS) (i : Nat) (x : Int32), up τ (T + 6) i x T = τ T := fun _ _ _ => up_cell _ _ (by omega)
  have c7 : ∀ (τ : sS) (i : Nat) (x : Int32), up τ (T + 7) i x T = τ T := fun _ _ _ => up_cell _ _ (by omega)
  have c8 : ∀ (τ : sS) (i : Nat) (x : Int32), up τ (T + 8) i x T = τ T := fun _ _ _ => up_cell _ _ (by omega)
  have c9 : ∀ (τ : sS) (i : Nat) (x : Int32), up τ (T + 9) i x T = τ T := fun _ _ _ => up_cell _ _ (by omega)
  have c10 : ∀ (τ : sS) (i : Nat) (x : Int32), up τ (T + 10) i x T = τ T := fun _ _ _ => up_cell _ _ (by omega)
  refine s_PL_add_0 Y d T _ _ _ σ (rI k) ⟨fun hlt => ?_, fun hge => ⟨Or.inl rfl, ?_⟩⟩
  · rw [hn, lit 24, i32_lt hnb (by omega)] at hlt
    have hk := fun σ' => h1 σ' hlt
    rw [hn, wr_nI hlt h24]
    refine s_PL_add_23 Y d T _ _ _ (rI k) ?_
    simp only [c1, hn, wr_nI hlt h24]
    refine s_PL_add_35 Y d T _ _ (rI k) ?_
    simp only [c1, c2, hn, wr_nI hlt h24]
    refine s_PL_add_47 Y d T _ (rI k) ?_
    simp only [c1, c2, c3, hn, wr_nI hlt h24]
    refine s_PL_add_59 Y d T _ (rI k) ?_
    simp only [c1, c2, c3, c4, hn, wr_nI hlt h24]
    refine s_PL_add_71 Y d T _ (rI k) ?_
    simp only [c1, c2, c3, c4, c5, hn, wr_nI hlt h24]
    refine s_PL_add_83 Y d T _ (rI k) ?_
    simp only [c1, c2, c3, c4, c5, c6, hn, wr_nI hlt h24]
    refine s_PL_add_95 Y d T _ (rI k) ?_
    simp only [c1, c2, c3, c4, c5, c6, c7, hn, wr_nI hlt h24]
    refine s_PL_add_107 Y d T _ (rI k) ?_
    simp only [c1, c2, c3, c4, c5, c6, c7, c8, hn, wr_nI hlt h24]
    refine s_PL_add_119 Y d T _ (rI k) ?_
    simp only [c1, c2, c3, c4, c5, c6, c7, c8, c9, hn, wr_nI hlt h24]
    refine s_PL_add_131 Y d T _ (rI k) ⟨Or.inr rfl, ?_⟩
    simp only [c1, c2, c3, c4, c5, c6, c7, c8, c9, c10, hn, nI_s1]
    refine hk _ (up_self _ _ _ _) (fun i hi => ?_) ?_ ?_ ?_ ?_ (fun x x1 x2 => ?_) (fun x x1 x2 y hy => ?_) (fun x hx => ?_)
    · rw [up_other _ _ (Or.inr hi)]
      simp only [c1, c2, c3, c4, c5, c6, c7, c8, c9, c10]
    · repeat (first | rw [up_self] | rw [up_cell _ _ (by omega)])
    · repeat (first | rw [up_self] | rw [up_cell _ _ (by omega)])
    · repeat (first | rw [up_self] | rw [up_cell _ _ (by omega)])
    · repeat (first | rw [up_self] | rw [up_cell _ _ (by omega)])
    · rcases (show x = T + 5 ∨ x = T + 6 ∨ x = T + 7 ∨ x = T + 8 ∨ x = T + 9 ∨ x = T + 10 by omega) with rfl | rfl | rfl | rfl | rfl | rfl
      all_goals repeat (first | rw [up_self] | rw [up_cell _ _ (by omega)])
    · rw [up_cell _ _ (show x ≠ T by omega)]
      repeat rw [up_other _ _ (Or.inr hy)]
    · by_cases e : x = T
      · omega
      · rw [up_cell _ _ e]
        repeat rw [up_cell _ _ (by omega)]
  · rw [hn, lit 24, i32_lt hnb (by omega)] at hge
    exact h0 (by omega)
def wsc (σ : sS) (t : Nat) (c : CT) : Nat → List Nat → Prop
  | _, [] => True
  | b, q :: r => σ (t + 16) r.length = nI (wnt (cF c 0 q) - (cF c 10 q - b)) ∧ wsc σ t c 1 r
theorem wsc.kept {σ σ' : sS} {t : Nat} {c c' : CT} : ∀ {s : List Nat} {b : Nat}, wsc σ t c b s → (∀ i, i < s.length → σ' (t + 16) i = σ (t + 16) i) → (∀ q, q ∈ s → cF c' 0 q = cF c 0 q ∧ cF c' 10 q = cF c 10 q) → wsc σ' t c' b s
  | [], _, _, _, _ => True.intro
  | q :: r, b, h, g, e => by
    obtain ⟨e0, e1⟩ := e q List.mem_cons_self
    refine ⟨?_, wsc.kept h.2 (fun i hi => g i (by rw [List.length_cons]; omega)) (fun x hx => e x (List.mem_cons_of_mem _ hx))⟩
    rw [e0, e1, g _ (by rw [List.length_cons]; omega)]
    exact h.1
/-- what the class has made so far: at the reader t -/
def XCB (σ : sS) (t : Nat) (c : CT) (b : Nat) (s : List Nat) (dg fr rt : Nat) : Prop := σ t 1 = nI s.length ∧ stk σ (t + 1) s ∧ wsc σ t c b s ∧ σ t 8 = nI rt ∧ σ t 9 = nI dg ∧ σ t 10 = nI fr ∧ σ (t + 2) 13 = nI (cM c) ∧ σ (t + 2) 14 = nI (cW c) ∧ (∀ f, f < 10 → f ≠ 3 → ∀ q, q < cM c → σ (t + 3 + f) q = nI (cF c f q)) ∧ (∀ q, q < cM c → q ∉ s → σ (t + 6) q = nI (cF c 3 q)) ∧ ∀ f, f < 3 → ∀ w, w < cW c → σ (t + 13 + f) w = nI (cD c f w)
/-- only the reader's cells change -/
def cvK (t : Nat) (σ σ' : sS) : Prop := ∀ x, (x < t ∨ t + 17 ≤ x) → σ' x = σ x
theorem cvK.trans {t : Nat} {σ σ1 σ2 : sS} (h : cvK t σ σ1) (g : cvK t σ1 σ2) : cvK t σ σ2 := fun x hx => by rw [g x hx, h x hx]
theorem StkOK.len {v : VT} : ∀ {r : List Nat} {q : Nat}, StkOK v (q :: r) → r.length ≤ q
  | [], _, _ => Nat.zero_le _
  | p :: r, q, h => by
    have h1 := StkOK.len h.tail
    have h2 := h.low p List.mem_cons_self
    rw [List.length_cons]
    omega
theorem GC.slen {b : Nat} {c : CT} {s : List Nat} {dg : Nat} (h : GC b c s dg) : s.length ≤ cM c := by
  cases s with
  | nil => exact Nat.zero_le _
  | cons q r =>
    have h1 := h.2.2.2.1.len
    have h2 : q < cM c := (h.2.2.2.1.mem q List.mem_cons_self).1
    rw [List.length_cons]
    omega
theorem lev0 {c : CT} (hC : ∀ q, q < cM c → gC c q) (h0 : cF c 11 0 = 0) {q : Nat} {r : List Nat} (hs : StkOK (shp c) (q :: r)) : cF c 11 q = clv c r := by
  cases r with
  | nil =>
    have e : q = 0 := hs.1
    rw [e]
    exact h0
  | cons p r =>
    have hp : p < cM c := (hs.mem p (by simp)).1
    have h1 : 1 ≤ cF c 10 p := hs.2.2.2.1
    have e1 : cch c p (cF c 10 p - 1) = q := hs.2.2.2.2.1
    have := (hC p hp (cF c 10 p - 1) (by omega)).1
    rw [e1] at this
    exact this
theorem clv_iff0 {c : CT} (hC : ∀ q, q < cM c → gC c q) (h0 : cF c 11 0 = 0) : ∀ {s : List Nat}, StkOK (shp c) s → (1 ≤ clv c s ↔ ∃ q, q ∈ s ∧ (cF c 0 q = 123 ∨ cF c 0 q = 64))
  | [], _ => ⟨fun h => absurd h (Nat.not_lt_zero 0), fun ⟨q, h, _⟩ => absurd h List.not_mem_nil⟩
  | q :: r, hs => by
    have e1 := lev0 hC h0 hs
    have ih := clv_iff0 hC h0 hs.tail
    show 1 ≤ cF c 11 q + (if cF c 0 q = 123 ∨ cF c 0 q = 64 then 1 else 0) ↔ _
    rw [e1]
    by_cases z : cF c 0 q = 123 ∨ cF c 0 q = 64
    · rw [if_pos z]
      exact ⟨fun _ => ⟨q, List.mem_cons_self, z⟩, fun _ => by omega⟩
    · rw [if_neg z, Nat.add_zero, ih]
      constructor
      · rintro ⟨x, x1, x2⟩
        exact ⟨x, List.mem_cons_of_mem _ x1, x2⟩
      · rintro ⟨x, x1, x2⟩
        rcases List.mem_cons.mp x1 with e | x1
        · subst e; exact absurd x2 z
        · exact ⟨x, x1, x2⟩
theorem GC.clv_iff {b : Nat} {c : CT} {s : List Nat} {dg : Nat} (h : GC b c s dg) : 1 ≤ clv c s ↔ ∃ q, q ∈ s ∧ (cF c 0 q = 123 ∨ cF c 0 q = 64) := by
  cases s with
  | nil => exact ⟨fun h => absurd h (Nat.not_lt_zero 0), fun ⟨q, h, _⟩ => absurd h List.not_mem_nil⟩
  | cons q r =>
    have hm : q < cM c := (h.2.2.2.1.mem q List.mem_cons_self).1
    exact clv_iff0 (fun x hx => (h.2.2.2.2.2.2.2.1 x hx).2.2.1) (h.2.2.2.2.1 (by omega)).2.1 h.2.2.2.1
theorem stk_at {σ : sS} {a : Nat} : ∀ {s : List Nat}, stk σ a s → ∀ k, k < s.length → ∃ q, q ∈ s ∧ σ a k = nI q
  | [], _, k, hk => absurd hk (Nat.not_lt_zero _)
  | q :: r, h, k, hk => by
    rw [List.length_cons] at hk
    by_cases e : k = r.length
    · subst e
      exact ⟨q, List.mem_cons_self, h.1⟩
    · obtain ⟨x, x1, x2⟩ := stk_at h.2 k (by omega)
      exact ⟨x, List.mem_cons_of_mem _ x1, x2⟩
theorem stk_in {σ : sS} {a : Nat} : ∀ {s : List Nat}, stk σ a s → ∀ q, q ∈ s → ∃ k, k < s.length ∧ σ a k = nI q
  | [], _, q, hq => absurd hq List.not_mem_nil
  | x :: r, h, q, hq => by
    rcases List.mem_cons.mp hq with e | hq
    · subst e
      exact ⟨r.length, by rw [List.length_cons]; omega, h.1⟩
    · obtain ⟨k, k1, k2⟩ := stk_in h.2 q hq
      exact ⟨k, by rw [List.length_cons]; omega, k2⟩
theorem c_CR_canReturn (Y : List kd) (d t : Nat) {σ : sS} {c : CT} {b : Nat} {s : List Nat} {dg dg' fr rt : Nat} (h : GC b c s dg) (hx : XCB σ t c b s dg' fr rt) (hrt : rt < 200) (k : Int32 → sS → Prop)
    (hk1 : ∀ σ', rt < 3 → 1 ≤ clv c s → XCB σ' t c b s dg' fr (rt + 1) → cvK t σ σ' → k 1 σ')
    (hk0 : ∀ σ', ¬ (rt < 3 ∧ 1 ≤ clv c s) → cvK t σ σ' → k 0 σ') : CJ Y (d + 1) y_CR_canReturn [sR t (.inl 0)] σ (rI k) := by
  obtain ⟨x1, x2, x3, x4, x5, x6, x7, x8, x9, x10, x11⟩ := hx
  have hM := h.1
  have hl := h.slen
  have gK : cvK t σ (up σ t 8 (nI (rt + 1))) := fun y hy => up_cell _ _ (by omega)
  have uc : ∀ y, y ≠ t → (up σ t 8 (nI (rt + 1))) y = σ y := fun y hy => up_cell _ _ hy
  have gX : XCB (up σ t 8 (nI (rt + 1))) t c b s dg' fr (rt + 1) := by
    refine ⟨?_, x2.kept (fun i _ => by rw [uc _ (by omega)]), x3.kept (fun i _ => by rw [uc _ (by omega)]) (fun _ _ => ⟨rfl, rfl⟩), up_self _ _ _ _, ?_, ?_, ?_, ?_, fun f f1 f3 q hq => ?_, fun q hq hn => ?_, fun f f1 w hw => ?_⟩
    · rw [up_other _ _ (Or.inr (by omega))]; exact x1
    · rw [up_other _ _ (Or.inr (by omega))]; exact x5
    · rw [up_other _ _ (Or.inr (by omega))]; exact x6
    · rw [uc _ (by omega)]; exact x7
    · rw [uc _ (by omega)]; exact x8
    · rw [uc _ (by omega)]; exact x9 f f1 f3 q hq
    · rw [uc _ (by omega)]; exact x10 q hq hn
    · rw [uc _ (by omega)]; exact x11 f f1 w hw
  refine s_CR_canReturn_0 Y d t σ (rI k) ?_
  rw [x4, nI_s1, up_self, lit 3, i32_lt (by omega) (by omega)]
  refine ⟨fun hn => ?_, fun hlt => ⟨Or.inl rfl, hk0 _ (fun z => by omega) gK⟩⟩
  have key : ∀ m i, i + m = s.length → (∀ j, j < i → ∀ q, q < cM c → (up σ t 8 (nI (rt + 1))) (t + 1) j = nI q → ¬ (cF c 0 q = 123 ∨ cF c 0 q = 64)) → Jd Y (d + 1) y_CR_canReturn 22 [(0, sR t (.inl 0)), (1, sI (nI i))] [] (up σ t 8 (nI (rt + 1))) (rI k) := by
    intro m
    induction m with
    | zero =>
      intro i hi hno
      refine s_CR_canReturn_22 Y d t _ _ (rI k) ⟨fun _ => ⟨Or.inl rfl, hk0 _ (fun z => ?_) gK⟩, fun hlt => ?_⟩
      · obtain ⟨q, q1, q2⟩ := h.clv_iff.mp z.2
        obtain ⟨j, j1, j2⟩ := stk_in gX.2.1 q q1
        exact hno j (by omega) q (h.2.2.2.1.mem q q1).1 j2 q2
      · rw [gX.1, i32_lt (by omega) (by omega)] at hlt
        omega
    | succ m ih =>
      intro i hi hno
      refine s_CR_canReturn_22 Y d t _ _ (rI k) ⟨fun hlt => ?_, fun _ => ?_⟩
      · rw [gX.1, i32_lt (by omega) (by omega)] at hlt
        omega
      · obtain ⟨q, q1, q2⟩ := stk_at gX.2.1 i (by omega)
        have hq : q < cM c := (h.2.2.2.1.mem q q1).1
        have h3 : (up σ t 8 (nI (rt + 1))) (t + 3) q = nI (cF c 0 q) := gX.2.2.2.2.2.2.2.2.1 0 (by omega) (by omega) q hq
        have hsg : cF c 0 q < 2 ^ 31 := by
          have := opn_mem h.2.2.2.2.2.2.2.2.1 q q1
          unfold openS at this
          omega
        rw [rd_nI (by omega) (by omega), q2, rd_nI (by omega) (by omega), h3, z_eq hsg 123 (by omega), z_eq hsg 64 (by omega)]
        have yes : (cF c 0 q = 123 ∨ cF c 0 q = 64) → ((1 : Int32) = 0 ∨ (1 : Int32) = 1) ∧ k 1 (up σ t 8 (nI (rt + 1))) := fun z => ⟨Or.inr rfl, hk1 _ (by omega) (h.clv_iff.mpr ⟨q, q1, z⟩) gX gK⟩
        refine ⟨fun e => yes (Or.inl e), fun n1 => ⟨fun n2 => ?_, fun e => yes (Or.inr e)⟩⟩
        rw [nI_s1]
        refine ih (i + 1) (by omega) (fun j hj p hp hjp => ?_)
        by_cases e : j = i
        · subst e
          rw [q2] at hjp
          have := nI_inj' hjp (by omega) (by omega)
          subst this
          exact fun z => by
            rcases z with z | z
            · exact n1 z
            · exact n2 z
        · exact hno j (by omega) p hp hjp
  exact key s.length 0 (by omega) (fun j hj => absurd hj (Nat.not_lt_zero _))
theorem c_CR_settle (Y : List kd) (d t : Nat) {σ : sS} {c : CT} {s : List Nat} {dg fr rt : Nat} (h : GC 1 c s 0) (hx : XCB σ t c 1 s dg fr rt) (k : sS → Prop)
    (hk : ∀ σ', XCB σ' t c 0 (cset c s) dg fr rt → cvK t σ σ' → k σ') : CJ Y (d + 2) y_CR_settle [sR t (.inl 0)] σ (rN k) := by
  refine s_CR_settle_0 Y (d + 1) t σ (rN k) ?_
  have key : ∀ (r : List Nat) (i : Nat) (τ : sS), i + r.length ≤ 24 → GC 1 c r 0 → XCB τ t c 1 r dg fr rt → cvK t σ τ → cset c r = cset c s → Jd Y (d + 2) y_CR_settle 2 [(0, sR t (.inl 0)), (1, sI (nI i))] [] τ (rN k) := by
    intro r
    induction r with
    | nil =>
      intro i τ hi g gx gk e
      have e : [] = cset c s := e
      have fin : k τ := by
        refine hk τ ?_ gk
        rw [← e]
        exact gx
      refine s_CR_settle_2 Y (d + 1) t _ τ (rN k) ⟨fun _ => fin, fun _ => ⟨fun _ => fin, fun hlt => ?_⟩⟩
      rw [gx.1, lit 0, i32_lt (by show (0 : Nat) < 2 ^ 31; omega) (by show (0 : Nat) < 2 ^ 31; omega)] at hlt
      exact absurd hlt (Nat.lt_irrefl _)
    | cons q r ih =>
      intro i τ hi g gx gk e
      obtain ⟨x1, x2, x3, x4, x5, x6, x7, x8, x9, x10, x11⟩ := id gx
      rw [List.length_cons] at hi x1
      have hM := g.1
      have hq : q < cM c := (g.2.2.2.1.mem q List.mem_cons_self).1
      have hsp : q + cF c 3 q = cM c := (g.2.2.2.1.mem q List.mem_cons_self).2.1
      obtain ⟨p1, p2, p3, p4⟩ := g.2.2.2.2.2.2.2.2.1.1
      have hw24 : wnt (cF c 0 q) ≤ 24 := by
        unfold wnt
        split
        · omega
        · split <;> omega
      have epr : nI (r.length + 1) - 1 = nI r.length := nI_subm (a := r.length + 1) (b := 1) (by omega)
      have elf : nI (wnt (cF c 0 q) - (cF c 10 q - 1)) - 1 = nI (wnt (cF c 0 q) - cF c 10 q) := by
        have := nI_subm (a := wnt (cF c 0 q) - (cF c 10 q - 1)) (b := 1) (by omega)
        have e2 : wnt (cF c 0 q) - (cF c 10 q - 1) - 1 = wnt (cF c 0 q) - cF c 10 q := by omega
        rw [e2] at this
        exact this
      refine s_CR_settle_2 Y (d + 1) t _ τ (rN k) ⟨fun hlt => ?_, fun _ => ⟨fun hlt => ?_, fun _ => ?_⟩⟩
      · rw [lit 24, i32_lt (by omega) (by omega)] at hlt
        omega
      · rw [x1, lit 0, i32_lt (by omega) (by omega)] at hlt
        omega
      · rw [x1, epr, rd_nI (by omega) (by omega), show τ (t + 16) r.length = _ from x3.1, elf, wr_nI (by omega) (by omega), lit 0, i32_lt (by omega) (by omega)]
        have uc : ∀ (x : Int32) y, y ≠ t + 16 → (up τ (t + 16) r.length x) y = τ y := fun x y hy => up_cell _ _ hy
        have gk1 : ∀ x, cvK t σ (up τ (t + 16) r.length x) := fun x y hy => by rw [uc x y (by omega), gk y hy]
        refine ⟨fun hle => ?_, fun hlt => ?_⟩
        · have ec : cset c (q :: r) = cset c r := by
            show (if cF c 10 q < wnt (cF c 0 q) then q :: r else cset c r) = cset c r
            rw [if_neg (by omega)]
          have hkk : cF c 0 q ≠ 123 → cF c 10 q = inMany (cF c 0 q) 0 := fun y => by
            unfold wnt at hle p3
            unfold inMany
            unfold openS at p1
            rw [if_neg y] at hle p3 ⊢
            by_cases x : cF c 0 q = 47
            · rw [if_pos x] at hle p3 ⊢; omega
            · rw [if_neg x] at hle p3 ⊢
              rw [if_pos (by omega)]
              omega
          have t1 : ∀ x, (up τ (t + 16) r.length x) t 1 = nI (q :: r).length := fun x => by rw [uc x t (by omega)]; exact x1
          have t2 : ∀ x, stk (up τ (t + 16) r.length x) (t + 1) (q :: r) := fun x => x2.kept (fun i _ => by rw [uc x _ (by omega)])
          have hl2 : (q :: r).length ≤ 96 := by rw [List.length_cons]; omega
          refine c_RD_topC Y d t (t1 _) (t2 _) hl2 _ ?_
          refine c_RD_topC Y d t (t1 _) (t2 _) hl2 _ ?_
          show CJ Y (d + 1) y_RD_pop [sR t (.inl 0)] (wr _ (t + 6) 24 (nI q) (_ - nI q)) _
          have e13 : (up τ (t + 16) r.length (nI (wnt (cF c 0 q) - cF c 10 q))) (t + 2) 13 = nI (cM c) := by rw [uc _ _ (by omega)]; exact x7
          rw [e13, nI_subm (by omega), wr_nI (by omega) (by omega)]
          refine c_RD_popC Y (d + 1) t (s := q :: r) (by rw [up_cell _ _ (by omega)]; exact t1 _) hl2 _ (fun σ3 b1 b2 b3 => ?_)
          rw [nI_s1]
          have b1 : σ3 t 1 = nI r.length := b1
          have v : ∀ y, y ≠ t → y ≠ t + 6 → y ≠ t + 16 → σ3 y = τ y := fun y y1 y2 y3 => by rw [b2 y y1, up_cell _ _ y2, uc _ y y3]
          have v0 : ∀ y, y ≠ 1 → σ3 t y = τ t y := fun y hy => by rw [b3 y hy, up_cell _ _ (by omega), uc _ _ (by omega)]
          refine ih (i + 1) σ3 (by omega) (g.pop hkk) ⟨b1, x2.2.kept (fun j _ => by rw [v _ (by omega) (by omega) (by omega)]), x3.2.kept (fun j hj => ?_) (fun _ _ => ⟨rfl, rfl⟩), ?_, ?_, ?_, ?_, ?_, fun f f1 f3 p hp => ?_, fun p hp hn => ?_, fun f f1 w hw => ?_⟩ (fun y hy => by rw [v y (by omega) (by omega) (by omega), gk y hy]) (by rw [← ec]; exact e)
          · rw [b2 _ (by omega), up_cell _ _ (by omega), up_other _ _ (Or.inr (by omega))]
          · rw [v0 8 (by omega)]; exact x4
          · rw [v0 9 (by omega)]; exact x5
          · rw [v0 10 (by omega)]; exact x6
          · rw [v _ (by omega) (by omega) (by omega)]; exact x7
          · rw [v _ (by omega) (by omega) (by omega)]; exact x8
          · rw [v _ (by omega) (by omega) (by omega)]; exact x9 f f1 f3 p hp
          · by_cases ep : p = q
            · subst ep
              rw [b2 _ (by omega), up_self]
              congr 1
              omega
            · rw [b2 _ (by omega), up_other _ _ (Or.inr ep), uc _ _ (by omega)]
              exact x10 p hp (fun z => by
                rcases List.mem_cons.mp z with y | y
                · exact ep y
                · exact hn y)
          · rw [v _ (by omega) (by omega) (by omega)]; exact x11 f f1 w hw
        · have ec : cset c (q :: r) = q :: r := by
            show (if cF c 10 q < wnt (cF c 0 q) then q :: r else cset c r) = q :: r
            rw [if_pos (by omega)]
          refine hk _ ?_ (gk1 _)
          rw [← e, ec]
          refine ⟨by rw [uc _ t (by omega)]; exact x1, x2.kept (fun j _ => by rw [uc _ _ (by omega)]), ⟨?_, x3.2.kept (fun j hj => up_other _ _ (Or.inr (by omega))) (fun _ _ => ⟨rfl, rfl⟩)⟩, ?_, ?_, ?_, ?_, ?_, fun f f1 f3 p hp => ?_, fun p hp hn => ?_, fun f f1 w hw => ?_⟩
          · rw [up_self]; rfl
          · rw [uc _ _ (by omega)]; exact x4
          · rw [uc _ _ (by omega)]; exact x5
          · rw [uc _ _ (by omega)]; exact x6
          · rw [uc _ _ (by omega)]; exact x7
          · rw [uc _ _ (by omega)]; exact x8
          · rw [uc _ _ (by omega)]; exact x9 f f1 f3 p hp
          · rw [uc _ _ (by omega)]; exact x10 p hp hn
          · rw [uc _ _ (by omega)]; exact x11 f f1 w hw
  have hM := h.1
  have hl := h.slen
  exact key s 0 σ (by omega) h hx (fun _ _ => rfl) rfl
theorem c_PL_knowsN (Y : List kd) (d T : Nat) {σ : sS} {q N dg : Nat} (hq : q < 24) (hN : σ (T + 8) q = nI N) (hN64 : N < 64) (hd : dg < 6) (k : Int32 → sS → Prop) (h1 : N / 2 ^ dg % 2 = 1 → k 1 σ) (h0 : ¬ N / 2 ^ dg % 2 = 1 → k 0 σ) : CJ Y (d + 1) y_PL_knows [sR T (.inl 2), sI (nI q), sI (nI dg)] σ (rI k) := by
  refine s_PL_knows_0 Y d T _ _ σ (rI k) ?_
  rw [rd_nI hq (by omega), hN]
  exact ⟨fun z => ⟨Or.inl rfl, h0 (fun y => z ((bitsD N hN64 dg hd).mpr y))⟩, fun z => ⟨Or.inr rfl, h1 ((bitsD N hN64 dg hd).mp z)⟩⟩
