/-! the reference's rows of parts -/
theorem z_eq {n : Nat} (h : n < 2 ^ 31) (m : Nat) (hm : m < 2 ^ 31) : (nI n = (OfNat.ofNat m : Int32)) ↔ n = m := i32_eq h hm
theorem cl_nI {n : Nat} (h : n < 2 ^ 31) : Int32.toNatClampNeg (nI n) = n := nI_clamp h
theorem c_MO_partAt (Y : List kd) (d : Nat) {v : VT} (h20 : v.1 ≤ 20) {σ : sS} (hv : MV σ v) (s : Int32) (k : Int32 → sS → Prop) (hk : k (if findV v s < v.1 then nI (findV v s) else -9) σ) : CJ Y d y_MO_partAt [sR 0 (.inl 6), sI s] σ (rI k) := by
  refine s_MO_partAt_0 Y d 0 s σ (rI k) ?_
  have key : ∀ m i, i + m = v.1 → k (if fst_ (fun p => decide (nI (v.2 5 p) = s)) m i < v.1 then nI (fst_ (fun p => decide (nI (v.2 5 p) = s)) m i) else -9) σ → Jd Y d y_MO_partAt 2 [(0, sR 0 (.inl 6)), (1, sI s), (2, sI (nI i))] [] σ (rI k) := by
    intro m
    induction m with
    | zero =>
      intro i hi hq
      have e : fst_ (fun p => decide (nI (v.2 5 p) = s)) 0 i = i := rfl
      rw [e, if_neg (by omega)] at hq
      refine s_MO_partAt_2 Y d 0 s (nI i) σ (rI k) ⟨fun _ => hq, fun hlt => ?_⟩
      rw [hv.1, i32_lt (by omega) (by omega)] at hlt
      omega
    | succ m ih =>
      intro i hi hq
      have er : σ (0 + 6) (Int32.toNatClampNeg (nI i)) = nI (v.2 5 i) := by rw [cl_nI (by omega)]; exact (hv.2.1 i (by omega)).2.2.2
      refine s_MO_partAt_2 Y d 0 s (nI i) σ (rI k) ⟨fun hlt => ?_, fun _ => ⟨vinI (by omega) (by omega), fun hne => ?_, fun he => ?_⟩⟩
      · rw [hv.1, i32_lt (by omega) (by omega)] at hlt
        omega
      · rw [er] at hne
        rw [nI_s1]
        refine ih (i + 1) (by omega) ?_
        have e : fst_ (fun p => decide (nI (v.2 5 p) = s)) (m + 1) i = fst_ (fun p => decide (nI (v.2 5 p) = s)) m (i + 1) := by
          show (if decide (nI (v.2 5 i) = s) = true then i else _) = _
          rw [if_neg (by simpa using hne)]
        rw [e] at hq
        exact hq
      · rw [er] at he
        have e : fst_ (fun p => decide (nI (v.2 5 p) = s)) (m + 1) i = i := by
          show (if decide (nI (v.2 5 i) = s) = true then i else _) = _
          rw [if_pos (by simpa using he)]
        rw [e, if_pos (by omega)] at hq
        exact hq
  exact key v.1 0 (by omega) hk
theorem c_MO_childOf (Y : List kd) (d : Nat) {v : VT} (w : WFV v) {σ : sS} (hv : MV σ v) {p j : Nat} (hp : p < v.1) (hj : j ≤ v.2 2 p) (k : Int32 → sS → Prop) (hk : k (nI (kch v p j)) σ) : CJ Y d y_MO_childOf [sR 0 (.inl 6), sI (nI p), sI (nI j)] σ (rI k) := by
  have h20 := w.2.1
  have hk5 := w.kids5 hp
  refine s_MO_childOf_0 Y d 0 _ _ σ (rI k) ?_
  rw [nI_s1]
  have key : ∀ m i, i + m = j → Jd Y d y_MO_childOf 7 [(0, sR 0 (.inl 6)), (2, sI (nI j)), (3, sI (nI (kch v p i))), (4, sI (nI i))] [] σ (rI k) := by
    intro m
    induction m with
    | zero =>
      intro i hi
      refine s_MO_childOf_7 Y d 0 _ _ _ σ (rI k) ⟨fun _ => ?_, fun hlt => ?_⟩
      · have : i = j := by omega
        subst this
        exact hk
      · rw [i32_lt (by omega) (by omega)] at hlt; omega
    | succ m ih =>
      intro i hi
      have hc := (w.kchlt hp (show i < v.2 2 p by omega)).2
      refine s_MO_childOf_7 Y d 0 _ _ _ σ (rI k) ⟨fun hlt => ?_, fun _ => ⟨vinI (by omega) (by omega), ?_⟩⟩
      · rw [i32_lt (by omega) (by omega)] at hlt; omega
      · rw [cl_nI (by omega), show σ (0 + 5) (kch v p i) = nI (v.2 4 (kch v p i)) from (hv.2.1 _ hc).2.2.1, nI_add, nI_s1]
        exact ih (i + 1) (by omega)
  exact key j 0 (by omega)
theorem MV.num {σ : sS} {v : VT} (hv : MV σ v) (w : WFV v) {p : Nat} (hp : p < v.1) (h2 : v.2 0 p ≠ 0) : σ 3 p = nI (v.2 2 p) := by
  rw [(hv.2.1 p hp).2.1, if_neg h2]
theorem c_MO_isLess (Y : List kd) (d : Nat) {v : VT} (w : WFV v) {σ : sS} (hv : MV σ v) {a b : Nat} (ha : a < v.1) (hb : b < v.1) (k : Int32 → sS → Prop) (h1 : lessV v a b → k 1 σ) (h0 : ¬ lessV v a b → k 0 σ) : CJ Y d y_MO_isLess [sR 0 (.inl 6), sI (nI a), sI (nI b)] σ (rI k) := by
  have h20 := w.2.1
  have kinds := fun p (hp : p < v.1) => (w.2.2.2.2.2.2.2 p hp)
  have ca : Int32.toNatClampNeg (nI a) = a := cl_nI (by omega)
  have cb : Int32.toNatClampNeg (nI b) = b := cl_nI (by omega)
  have va : vp_in (nI a) 21 := vinI (by omega) (by omega)
  have vb : vp_in (nI b) 21 := vinI (by omega) (by omega)
  have ka := (kinds a ha).1
  have kb := (kinds b hb).1
  have spa := w.sp20 ha
  have spb := w.sp20 hb
  obtain ⟨ea, na, sa, -⟩ := hv.2.1 a ha
  obtain ⟨eb, nb, sb, -⟩ := hv.2.1 b hb
  have hspan : ¬ (v.2 0 a = 0 ∧ v.2 0 b = 0) → Jd Y d y_MO_isLess 39 [(0, sR 0 (.inl 6)), (1, sI (nI a)), (2, sI (nI b))] [] σ (rI k) := by
    intro hn
    unfold lessV at h1 h0
    rw [if_neg hn] at h1 h0
    refine s_MO_isLess_39 Y d 0 _ _ σ (rI k) ⟨va, vb, fun hlt => ⟨Or.inl rfl, ?_⟩, fun hlt => ⟨Or.inr rfl, ?_⟩⟩
    · rw [ca, cb, show σ (0 + 5) a = _ from sa, show σ (0 + 5) b = _ from sb, i32_lt (by omega) (by omega)] at hlt
      exact h0 hlt
    · rw [ca, cb, show σ (0 + 5) a = _ from sa, show σ (0 + 5) b = _ from sb, i32_lt (by omega) (by omega)] at hlt
      exact h1 hlt
  refine s_MO_isLess_0 Y d 0 _ _ σ (rI k) ⟨va, fun hne => ?_, fun he => ⟨vb, fun hne => ?_, fun he2 => ⟨va, vb, fun hlt => ⟨Or.inl rfl, ?_⟩, fun hlt => ⟨Or.inr rfl, ?_⟩⟩⟩⟩
  · rw [ca, show σ (0 + 2) a = _ from ea, z_eq (by omega) 0 (by omega)] at hne
    exact hspan (fun z => hne z.1)
  · rw [cb, show σ (0 + 2) b = _ from eb, z_eq (by omega) 0 (by omega)] at hne
    exact hspan (fun z => hne z.2)
  all_goals
    rw [ca, show σ (0 + 2) a = _ from ea, z_eq (by omega) 0 (by omega)] at he
    rw [cb, show σ (0 + 2) b = _ from eb, z_eq (by omega) 0 (by omega)] at he2
    have n1 := (kinds a ha).2.1 he
    have n2 := (kinds b hb).2.1 he2
    rw [if_pos he] at na
    rw [if_pos he2] at nb
    unfold lessV at h1 h0
    rw [if_pos ⟨he, he2⟩] at h1 h0
    rw [ca, cb, show σ (0 + 3) a = _ from na, show σ (0 + 3) b = _ from nb, i32_lt (by omega) (by omega)] at hlt
  · exact h0 hlt
  · exact h1 hlt
/-- what the reference's rows hold ahead of the measuring -/
def MB (σ : sS) (v : VT) : Prop := σ 0 6 = nI v.1 ∧ (∀ p, p < v.1 → σ 2 p = nI (v.2 0 p) ∧ σ 3 p = nI (if v.2 0 p = 0 then v.2 1 p else v.2 2 p)) ∧ ∀ p k, p < v.1 → v.2 0 p = 2 → k < v.2 2 p → σ 4 (kch v p k) = nI (v.2 3 (kch v p k))
theorem MB.kept {σ σ' : sS} {v : VT} (h : MB σ v) (h0 : σ' 0 6 = σ 0 6) (hk : ∀ c, 2 ≤ c → c < 5 → σ' c = σ c) : MB σ' v := ⟨by rw [h0]; exact h.1, fun p hp => by
  rw [hk 2 (by omega) (by omega), hk 3 (by omega) (by omega)]
  exact h.2.1 p hp, fun p k hp h2 hk2 => by rw [hk 4 (by omega) (by omega)]; exact h.2.2 p k hp h2 hk2⟩
theorem MB.many {σ : sS} {v : VT} (h : MB σ v) (w : WFV v) {p : Nat} (hp : p < v.1) : iMany σ 0 p = nI (v.2 2 p) := by
  obtain ⟨b1, b2, b3, b4, b5, b6, b7⟩ := w.2.2.2.2.2.2.2 p hp
  obtain ⟨e1, e2⟩ := h.2.1 p hp
  unfold iMany
  rw [show σ (0 + 2) p = _ from e1, show σ (0 + 3) p = _ from e2]
  rcases (show v.2 0 p = 0 ∨ v.2 0 p = 1 ∨ v.2 0 p = 2 ∨ v.2 0 p = 3 by omega) with e | e | e | e
  · rw [e, b4 (by omega)]; rfl
  · rw [e, b4 (by omega)]; rfl
  · rw [e]; rfl
  · rw [e]; rfl
theorem c_MO_measures (Y : List kd) (d : Nat) {v : VT} (w : WFV v) {σ : sS} (hb : MB σ v) (k : sS → Prop) (hk : ∀ σ', MV σ' v → (∀ c, c ≠ 5 → c ≠ 6 → σ' c = σ c) → k σ') : CJ Y (d + 2) y_MO_measures [sR 0 (.inl 6)] σ (rN k) := by
  have h20 := w.2.1
  have h1n := w.1
  have hT := w.2.2.1
  -- the second half: paths
  have half2 : ∀ m i, i + m = v.1 → ∀ τ : sS, (∀ c, c ≠ 5 → c ≠ 6 → τ c = σ c) → (∀ p, p < v.1 → τ 5 p = nI (v.2 4 p)) → (∀ p, p < v.1 → (p = 0 ∨ ∃ q j, q < i ∧ j < v.2 2 q ∧ kch v q j = p) → τ 6 p = nI (v.2 5 p)) → Jd Y (d + 2) y_MO_measures 65 [(0, sR 0 (.inl 6)), (1, sI (nI i))] [] τ (rN k) := by
    intro m
    induction m with
    | zero =>
      intro i hi τ f1 f2 f3
      have hbτ : MB τ v := hb.kept (by rw [f1 0 (by omega) (by omega)]) (fun c h2 h5 => f1 c (by omega) (by omega))
      refine s_MO_measures_65 Y (d + 1) 0 _ τ (rN k) ⟨fun _ => ?_, fun hlt => ?_⟩
      · refine hk τ ⟨hbτ.1, fun p hp => ⟨(hbτ.2.1 p hp).1, (hbτ.2.1 p hp).2, f2 p hp, ?_⟩, hbτ.2.2⟩ f1
        by_cases e : p = 0
        · exact f3 p hp (Or.inl e)
        · obtain ⟨q, j, h1, h2, h3⟩ := par hT (by have := w.2.2.2.1; omega) hp (by omega)
          exact f3 p hp (Or.inr ⟨q, j, by omega, h2, h3⟩)
      · rw [hbτ.1, i32_lt (by omega) (by omega)] at hlt
        omega
    | succ m ih =>
      intro i hi τ f1 f2 f3
      have hin : i < v.1 := by omega
      have hi5 := w.kids5 hin
      have hbτ : MB τ v := hb.kept (by rw [f1 0 (by omega) (by omega)]) (fun c h2 h5 => f1 c (by omega) (by omega))
      refine s_MO_measures_65 Y (d + 1) 0 _ τ (rN k) ⟨fun hlt => ?_, fun _ => ?_⟩
      · rw [hbτ.1, i32_lt (by omega) (by omega)] at hlt
        omega
      · rw [nI_s1]
        -- the children of i
        have inner : ∀ m2 j, j + m2 = v.2 2 i → ∀ ρ : sS, (∀ c, c ≠ 5 → c ≠ 6 → ρ c = σ c) → (∀ p, p < v.1 → ρ 5 p = nI (v.2 4 p)) → (∀ p, p < v.1 → (p = 0 ∨ (∃ q j, q < i ∧ j < v.2 2 q ∧ kch v q j = p) ∨ ∃ j', j' < j ∧ kch v i j' = p) → ρ 6 p = nI (v.2 5 p)) → Jd Y (d + 2) y_MO_measures 79 [(0, sR 0 (.inl 6)), (1, sI (nI i)), (2, sI (nI (kch v i j))), (3, sI (nI j))] [] ρ (rN k) := by
          intro m2
          induction m2 with
          | zero =>
            intro j hj ρ g1 g2 g3
            have hbρ : MB ρ v := hb.kept (by rw [g1 0 (by omega) (by omega)]) (fun c h2 h5 => g1 c (by omega) (by omega))
            refine s_MO_measures_79 Y (d + 1) 0 _ _ _ ρ (rN k) (c_MO_many Y d 0 _ (vinI (by omega) (by omega)) ρ _ ?_)
            rw [cl_nI (by omega), hbρ.many w hin]
            refine ⟨fun _ => ?_, fun hlt => ?_⟩
            · rw [nI_s1]
              refine ih (i + 1) (by omega) ρ g1 g2 (fun p hp hq => g3 p hp ?_)
              rcases hq with hq | ⟨q, j2, a, b, c⟩
              · exact Or.inl hq
              · by_cases e : q = i
                · subst e
                  exact Or.inr (Or.inr ⟨j2, by omega, c⟩)
                · exact Or.inr (Or.inl ⟨q, j2, by omega, b, c⟩)
            · rw [i32_lt (by omega) (by omega)] at hlt
              omega
          | succ m2 ih2 =>
            intro j hj ρ g1 g2 g3
            have hbρ : MB ρ v := hb.kept (by rw [g1 0 (by omega) (by omega)]) (fun c h2 h5 => g1 c (by omega) (by omega))
            have hjK : j < v.2 2 i := by omega
            have hc := w.kchlt hin hjK
            obtain ⟨b1, b2, b3, b4, b5, b6, b7⟩ := w.2.2.2.2.2.2.2 i hin
            obtain ⟨d1, d2, d3, d4⟩ := b7 j hjK
            have hri : ρ 6 i = nI (v.2 5 i) := by
              refine g3 i hin ?_
              by_cases e : i = 0
              · exact Or.inl e
              · obtain ⟨q, j2, h1, h2, h3⟩ := par hT (by have := w.2.2.2.1; omega) hin (by omega)
                exact Or.inr (Or.inl ⟨q, j2, h1, h2, h3⟩)
            refine s_MO_measures_79 Y (d + 1) 0 _ _ _ ρ (rN k) (c_MO_many Y d 0 _ (vinI (by omega) (by omega)) ρ _ ?_)
            rw [cl_nI (by omega), hbρ.many w hin, cl_nI (by omega)]
            have e10 : (10 * ρ (0 + 6) i : Int32) = nI (10 * v.2 5 i) := by rw [show ρ (0 + 6) i = _ from hri, show (10 : Int32) = nI 10 from rfl, pk_mul]
            have last : ∀ s0 : Int32, s0 = nI (v.2 3 (kch v i j)) → Jd Y (d + 2) y_MO_measures 125 [(0, sR 0 (.inl 6)), (1, sI (nI i)), (2, sI (nI (kch v i j))), (3, sI (nI j))] [sI s0, sI (10 * ρ (0 + 6) i), sI (nI (kch v i j)), sR (0 + 6) (.inr 21)] ρ (rN k) := by
              intro s0 hs0
              refine s_MO_measures_125 Y (d + 1) 0 _ _ _ _ _ _ _ ρ (rN k) ⟨vinI (by omega) (by omega), vinI (by omega) (by omega), ?_⟩
              rw [hs0, e10, nI_add, cl_nI (by omega), ← d3]
              have e5 : up ρ (0 + 6) (kch v i j) (nI (v.2 5 (kch v i j))) (0 + 5) (kch v i j) = nI (v.2 4 (kch v i j)) := by
                rw [up_cell _ _ (by omega)]
                exact g2 _ hc.2
              rw [e5, nI_add, nI_s1]
              refine ih2 (j + 1) (by omega) _ (fun c h5 h6 => ?_) (fun p hp => ?_) (fun p hp hq => ?_)
              · rw [up_cell _ _ (by omega)]; exact g1 c h5 h6
              · rw [up_cell _ _ (by omega)]; exact g2 p hp
              · by_cases e : p = kch v i j
                · rw [e]; exact up_self ρ 6 _ _
                · show up ρ 6 _ _ 6 p = _
                  rw [up_other _ _ (Or.inr e)]
                  refine g3 p hp ?_
                  rcases hq with hq | hq | ⟨j', a, b⟩
                  · exact Or.inl hq
                  · exact Or.inr (Or.inl hq)
                  · by_cases e2 : j' = j
                    · subst e2; exact absurd b.symm e
                    · exact Or.inr (Or.inr ⟨j', by omega, b⟩)
            refine ⟨fun hlt => ?_, fun _ => ⟨vinI (by omega) (by omega), vinI (by omega) (by omega), fun hne => ⟨vinI (by omega) (by omega), ?_⟩, fun he => ?_⟩⟩
            · rw [i32_lt (by omega) (by omega)] at hlt
              omega
            · rw [show ρ (0 + 2) i = _ from (hbρ.2.1 i hin).1, z_eq (by omega) 3 (by omega)] at hne
              have hk2 : v.2 0 i = 2 := by
                rcases (show v.2 0 i ≤ 1 ∨ v.2 0 i = 2 by omega) with z | z
                · have := b4 z; omega
                · exact z
              exact last _ (hbρ.2.2 i j hin hk2 hjK)
            · rw [show ρ (0 + 2) i = _ from (hbρ.2.1 i hin).1, z_eq (by omega) 3 (by omega)] at he
              refine last _ ?_
              rw [d1 he, show (6 : Int32) = nI 6 from rfl, nI_add]
        refine inner (v.2 2 i) 0 (by omega) τ f1 f2 (fun p hp hq => f3 p hp ?_)
        rcases hq with hq | hq | ⟨j', a, b⟩
        · exact Or.inl hq
        · exact Or.inr hq
        · omega
  -- the first half: spans, from the last part on
  have half1 : ∀ i, i ≤ v.1 → ∀ τ : sS, (∀ c, c ≠ 5 → τ c = σ c) → (∀ p, i ≤ p → p < v.1 → τ 5 p = nI (v.2 4 p)) → Jd Y (d + 2) y_MO_measures 7 [(0, sR 0 (.inl 6)), (1, sI (nI i - 1))] [] τ (rN k) := by
    intro i
    induction i with
    | zero =>
      intro _ τ f1 f2
      refine s_MO_measures_7 Y (d + 1) 0 _ τ (rN k) ⟨fun _ => ⟨vinI (n := 0) (by omega) (by omega), ?_⟩, fun h => absurd (by decide +kernel) h⟩
      have hz : Int32.toNatClampNeg 0 = 0 := rfl
      rw [hz]
      refine half2 v.1 0 (by omega) _ (fun c h5 h6 => ?_) (fun p hp => ?_) (fun p hp hq => ?_)
      · rw [up_cell _ _ (by omega)]; exact f1 c h5
      · rw [up_cell _ _ (by omega)]; exact f2 p (Nat.zero_le _) hp
      · rcases hq with rfl | ⟨q, j, a, b, c⟩
        · rw [w.2.2.2.2.1]; exact up_self τ 6 0 0
        · omega
    | succ i ih =>
      intro hin τ f1 f2
      have hi : i < v.1 := by omega
      have hi5 := w.kids5 hi
      have hbτ : MB τ v := hb.kept (by rw [f1 0 (by omega)]) (fun c h2 h5 => f1 c (by omega))
      rw [nI_pred]
      refine s_MO_measures_7 Y (d + 1) 0 _ τ (rN k) ⟨fun h => absurd h (nI_pos (by omega)), fun _ => ?_⟩
      rw [nI_s1]
      have inner : ∀ m2 j, j + m2 = v.2 2 i → Jd Y (d + 2) y_MO_measures 17 [(0, sR 0 (.inl 6)), (1, sI (nI i)), (2, sI (nI (kch v i j))), (3, sI (nI j))] [] τ (rN k) := by
        intro m2
        induction m2 with
        | zero =>
          intro j hj
          refine s_MO_measures_17 Y (d + 1) 0 _ _ _ τ (rN k) (c_MO_many Y d 0 _ (vinI (by omega) (by omega)) τ _ ?_)
          rw [cl_nI (by omega), hbτ.many w hi]
          refine ⟨fun _ => ⟨vinI (by omega) (by omega), ?_⟩, fun hlt => ?_⟩
          · have hj' : j = v.2 2 i := by omega
            subst hj'
            have hT1 := hT i hi
            have ek : kch v i (v.2 2 i) = i + v.2 4 i := hT1.2.1
            rw [ek, nI_subm (by omega), Nat.add_sub_cancel_left]
            have em : nI i + -1 = nI i - 1 := by rw [Int32.sub_eq_add_neg]
            rw [em]
            refine ih (by omega) _ (fun c hc => ?_) (fun p h1 h2 => ?_)
            · rw [up_cell _ _ (by omega)]; exact f1 c hc
            · by_cases e : p = i
              · rw [e]; exact up_self τ 5 i _
              · show up τ 5 i _ 5 p = _
                rw [up_other _ _ (Or.inr e)]
                exact f2 p (by omega) h2
          · rw [i32_lt (by omega) (by omega)] at hlt
            omega
        | succ m2 ih2 =>
          intro j hj
          have hc := w.kchlt hi (show j < v.2 2 i by omega)
          refine s_MO_measures_17 Y (d + 1) 0 _ _ _ τ (rN k) (c_MO_many Y d 0 _ (vinI (by omega) (by omega)) τ _ ?_)
          rw [cl_nI (by omega), hbτ.many w hi, cl_nI (by omega)]
          refine ⟨fun hlt => ?_, fun _ => ⟨vinI (by omega) (by omega), ?_⟩⟩
          · rw [i32_lt (by omega) (by omega)] at hlt
            omega
          · rw [show τ (0 + 5) (kch v i j) = _ from f2 _ (by omega) hc.2, nI_add, nI_s1]
            exact ih2 (j + 1) (by omega)
      exact inner (v.2 2 i) 0 (by omega)
  refine s_MO_measures_0 Y (d + 1) 0 σ (rN k) ?_
  rw [hb.1]
  exact half1 v.1 (Nat.le_refl _) σ (fun c _ => rfl) (fun p h1 h2 => by omega)
