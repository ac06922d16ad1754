/-! the class's Tree: paths, leaving out -/
/-- the tree at t holds the value but for its paths and the digits of elements -/
def XP (σ : sS) (t : Nat) (v : VT) : Prop := σ t 6 = nI v.1 ∧ (∀ f, f < 6 → f ≠ 3 → f ≠ 5 → ∀ p, p < v.1 → σ (t + 1 + f) p = nI (v.2 f p)) ∧ (∀ p k, p < v.1 → v.2 0 p = 2 → k < v.2 2 p → σ (t + 4) (kch v p k) = nI (v.2 3 (kch v p k))) ∧ σ (t + 4) 0 = 0
theorem XP.kept {σ σ' : sS} {t : Nat} {v : VT} (h : XP σ t v) (hk : ∀ c, t ≤ c → c < t + 7 → c ≠ t + 6 → σ' c = σ c) : XP σ' t v := ⟨by rw [hk t (Nat.le_refl _) (by omega) (by omega)]; exact h.1, fun f hf h3 h5 p hp => by rw [hk _ (by omega) (by omega) (by omega)]; exact h.2.1 f hf h3 h5 p hp, fun p k hp h2 hk2 => by rw [hk _ (by omega) (by omega) (by omega)]; exact h.2.2.1 p k hp h2 hk2, by rw [hk _ (by omega) (by omega) (by omega)]; exact h.2.2.2⟩
theorem c_TR_link (Y : List kd) (d t : Nat) {v : VT} (w : WFV v) {σ : sS} (hx : XP σ t v) (k : sS → Prop) (hk : ∀ σ', XV σ' t v → (∀ c, c ≠ t + 4 → c ≠ t + 6 → σ' c = σ c) → k σ') : CJ Y (d + 1) y_TR_link [sR t (.inl 3)] σ (rN k) := by
  have h20 := w.2.1
  have h1n := w.1
  have hT := w.2.2.1
  refine s_TR_link_0 Y d t σ (rN k) ?_
  rw [show (0 : Int32) = nI 0 from rfl, wr_nI (by omega) (by omega)]
  have outer : ∀ m i, i + m = v.1 → ∀ τ : sS, (∀ c, c ≠ t + 4 → c ≠ t + 6 → τ c = σ c) → (∀ p q k, p < v.1 → q < v.1 → k < v.2 2 q → kch v q k = p → (q < i → τ (t + 4) p = nI (v.2 3 p)) ∧ (i ≤ q → τ (t + 4) p = σ (t + 4) p)) → τ (t + 4) 0 = 0 → (∀ p, p < v.1 → (p = 0 ∨ ∃ q j, q < i ∧ j < v.2 2 q ∧ kch v q j = p) → τ (t + 6) p = nI (v.2 5 p)) → Jd Y (d + 1) y_TR_link 11 [(0, sR t (.inl 3)), (1, sI (nI i))] [] τ (rN k) := by
    intro m
    induction m with
    | zero =>
      intro i hi τ f1 f2 f3 f4
      refine s_TR_link_11 Y d t _ τ (rN k) ⟨fun _ => ?_, fun hlt => ?_⟩
      · refine hk τ ⟨by rw [f1 t (by omega) (by omega)]; exact hx.1, fun f hf p hp => ?_⟩ f1
        by_cases e3 : f = 3
        · subst e3
          by_cases e : p = 0
          · subst e
            rw [w.2.2.2.2.2.2.1]
            exact f3
          · obtain ⟨q, j, h1, h2, h3, h4, -⟩ := w.hold hp (by omega)
            exact (f2 p q j hp h2 h3 h4).1 (by omega)
        · by_cases e5 : f = 5
          · subst e5
            by_cases e : p = 0
            · exact f4 p hp (Or.inl e)
            · obtain ⟨q, j, h1, h2, h3, h4, -⟩ := w.hold hp (by omega)
              exact f4 p hp (Or.inr ⟨q, j, by omega, h3, h4⟩)
          · rw [f1 _ (by omega) (by omega)]
            exact hx.2.1 f hf e3 e5 p hp
      · rw [f1 t (by omega) (by omega), hx.1, i32_lt (by omega) (by omega)] at hlt
        omega
    | succ m ih =>
      intro i hi τ f1 f2 f3 f4
      have hin : i < v.1 := by omega
      have hi5 := w.kids5 hin
      refine s_TR_link_11 Y d t _ τ (rN k) ⟨fun hlt => ?_, fun _ => ?_⟩
      · rw [f1 t (by omega) (by omega), hx.1, i32_lt (by omega) (by omega)] at hlt
        omega
      · have ek : rd τ (t + 3) 20 (nI i) = nI (v.2 2 i) := by
          rw [rd_nI (by omega) (by omega), f1 _ (by omega) (by omega)]
          exact hx.2.1 2 (by omega) (by omega) (by omega) i hin
        rw [ek, nI_s1]
        obtain ⟨b1, b2, b3, b4, b5, b6, b7⟩ := w.2.2.2.2.2.2.2 i hin
        have inner : ∀ m2 j, j + m2 = v.2 2 i → ∀ ρ : sS, (∀ c, c ≠ t + 4 → c ≠ t + 6 → ρ c = σ c) → (∀ p q k, p < v.1 → q < v.1 → k < v.2 2 q → kch v q k = p → ((q < i ∨ (q = i ∧ k < j)) → ρ (t + 4) p = nI (v.2 3 p)) ∧ ((i < q ∨ (q = i ∧ j ≤ k)) → ρ (t + 4) p = σ (t + 4) p)) → ρ (t + 4) 0 = 0 → (∀ p, p < v.1 → (p = 0 ∨ (∃ q j, q < i ∧ j < v.2 2 q ∧ kch v q j = p) ∨ ∃ j', j' < j ∧ kch v i j' = p) → ρ (t + 6) p = nI (v.2 5 p)) → Jd Y (d + 1) y_TR_link 35 [(0, sR t (.inl 3)), (1, sI (nI i)), (2, sI (nI (v.2 2 i))), (3, sI (nI (kch v i j))), (4, sI (nI j))] [] ρ (rN k) := by
          intro m2
          induction m2 with
          | zero =>
            intro j hj ρ g1 g2 g3 g4
            have hj' : j = v.2 2 i := by omega
            refine s_TR_link_35 Y d t _ _ _ _ ρ (rN k) ⟨fun _ => ?_, fun hlt => ?_⟩
            · rw [nI_s1]
              refine ih (i + 1) (by omega) ρ g1 (fun p q k hp hq hk2 e => ⟨fun z => (g2 p q k hp hq hk2 e).1 ?_, fun z => (g2 p q k hp hq hk2 e).2 (by omega)⟩) g3 (fun p hp hq => g4 p hp ?_)
              · by_cases e2 : q = i
                · subst e2; exact Or.inr ⟨rfl, by omega⟩
                · exact Or.inl (by omega)
              · rcases hq with hq | ⟨q, j2, a, b, c⟩
                · exact Or.inl hq
                · by_cases e : q = i
                  · subst e
                    exact Or.inr (Or.inr ⟨j2, by omega, c⟩)
                  · exact Or.inr (Or.inl ⟨q, j2, by omega, b, c⟩)
            · rw [i32_lt (by omega) (by omega)] at hlt
              omega
          | succ m2 ih2 =>
            intro j hj ρ g1 g2 g3 g4
            have hjK : j < v.2 2 i := by omega
            have hc := w.kchlt hin hjK
            obtain ⟨d1, d2, d3, d4⟩ := b7 j hjK
            have hri : ρ (t + 6) i = nI (v.2 5 i) := by
              refine g4 i hin ?_
              by_cases e : i = 0
              · exact Or.inl e
              · obtain ⟨q, j2, h1, h2, h3, h4, -⟩ := w.hold hin (by omega)
                exact Or.inr (Or.inl ⟨q, j2, h1, h3, h4⟩)
            -- behind the digit
            have last : ∀ ν : sS, (∀ c, c ≠ t + 4 → ν c = ρ c) → (∀ p, p ≠ kch v i j → ν (t + 4) p = ρ (t + 4) p) → ν (t + 4) (kch v i j) = nI (v.2 3 (kch v i j)) → Jd Y (d + 1) y_TR_link 66 [(0, sR t (.inl 3)), (1, sI (nI i)), (2, sI (nI (v.2 2 i))), (3, sI (nI (kch v i j))), (4, sI (nI j))] [] ν (rN k) := by
              intro ν n1 n2 n3
              refine s_TR_link_66 Y d t _ _ _ _ ν (rN k) ?_
              rw [rd_nI (show i < 20 by omega) (by omega), rd_nI (σ := ν) (a := t + 4) (show kch v i j < 20 by omega) (by omega), wr_nI (show kch v i j < 20 by omega) (by omega), n3, n1 (t + 6) (by omega), hri, show (10 : Int32) = nI 10 from rfl, pk_mul, nI_add, ← d3]
              have e5 : rd (up ν (t + 6) (kch v i j) (nI (v.2 5 (kch v i j)))) (t + 5) 20 (nI (kch v i j)) = nI (v.2 4 (kch v i j)) := by
                rw [rd_nI (show kch v i j < 20 by omega) (by omega), up_cell _ _ (by omega), n1 _ (by omega), g1 _ (by omega) (by omega)]
                exact hx.2.1 4 (by omega) (by omega) (by omega) _ hc.2
              rw [e5, nI_add, nI_s1]
              refine ih2 (j + 1) (by omega) _ (fun c h5 h6 => ?_) (fun p q k hp hq hk2 e => ?_) ?_ (fun p hp hq => ?_)
              · rw [up_cell _ _ h6, n1 _ h5]; exact g1 c h5 h6
              · rw [up_cell _ _ (by omega)]
                by_cases e2 : q = i ∧ k = j
                · obtain ⟨rfl, rfl⟩ := e2
                  rw [← e]
                  exact ⟨fun _ => n3, fun z => by omega⟩
                · have hne : p ≠ kch v i j := by
                    intro z
                    have := par1 hT hq hin hk2 hjK (e.trans z)
                    exact e2 this
                  rw [n2 p hne]
                  exact ⟨fun z => (g2 p q k hp hq hk2 e).1 (by omega), fun z => (g2 p q k hp hq hk2 e).2 (by omega)⟩
              · rw [up_cell _ _ (by omega), n2 0 (by omega)]; exact g3
              · by_cases e : p = kch v i j
                · rw [e]; exact up_self ν (t + 6) _ _
                · rw [up_other _ _ (Or.inr e), n1 _ (by omega)]
                  refine g4 p hp ?_
                  rcases hq with hq | hq | ⟨j', a, b⟩
                  · exact Or.inl hq
                  · exact Or.inr (Or.inl hq)
                  · by_cases e2 : j' = j
                    · subst e2; exact absurd b.symm e
                    · exact Or.inr (Or.inr ⟨j', by omega, b⟩)
            have ekd : rd ρ (t + 1) 20 (nI i) = nI (v.2 0 i) := by
              rw [rd_nI (by omega) (by omega), g1 _ (by omega) (by omega)]
              exact hx.2.1 0 (by omega) (by omega) (by omega) i hin
            refine s_TR_link_35 Y d t _ _ _ _ ρ (rN k) ⟨fun hlt => ?_, fun _ => ⟨fun hne => ?_, fun he => ?_⟩⟩
            · rw [i32_lt (by omega) (by omega)] at hlt
              omega
            · rw [ekd, z_eq (by omega) 3 (by omega)] at hne
              have hk2 : v.2 0 i = 2 := by
                rcases (show v.2 0 i ≤ 1 ∨ v.2 0 i = 2 by omega) with z | z
                · have := b4 z; omega
                · exact z
              refine last ρ (fun c _ => rfl) (fun p _ => rfl) ?_
              rw [(g2 (kch v i j) i j hc.2 hin hjK rfl).2 (Or.inr ⟨rfl, Nat.le_refl _⟩)]
              exact hx.2.2.1 i j hin hk2 hjK
            · rw [ekd, z_eq (by omega) 3 (by omega)] at he
              rw [show (6 : Int32) = nI 6 from rfl, nI_add, wr_nI (by omega) (by omega), ← d1 he]
              exact last _ (fun c hc => up_cell _ _ hc) (fun p hp => up_other _ _ (Or.inr hp)) (up_self _ _ _ _)
        refine inner (v.2 2 i) 0 (by omega) τ f1 (fun p q k hp hq hk2 e => ⟨fun z => (f2 p q k hp hq hk2 e).1 (by omega), fun z => (f2 p q k hp hq hk2 e).2 (by omega)⟩) f3 (fun p hp hq => f4 p hp ?_)
        rcases hq with hq | hq | ⟨j', a, b⟩
        · exact Or.inl hq
        · exact Or.inr hq
        · omega
  refine outer v.1 0 (by omega) _ (fun c h4 h6 => up_cell _ _ h6) (fun p q k hp hq hk2 e => ⟨fun z => by omega, fun _ => by rw [up_cell _ _ (by omega)]⟩) ?_ (fun p hp hq => ?_)
  · rw [up_cell _ _ (by omega)]; exact hx.2.2.2
  · rcases hq with rfl | ⟨q, j, a, b, c⟩
    · rw [w.2.2.2.2.1]; exact up_self σ (t + 6) 0 _
    · omega
theorem c_TR_parentOf (Y : List kd) (d t : Nat) {v : VT} (w : WFV v) {σ : sS} (hv : XV σ t v) {r : Nat} (hr : r < v.1) (k : Int32 → sS → Prop) (hk : k (nI (pa (v.2 4) r r)) σ) : CJ Y (d + 1) y_TR_parentOf [sR t (.inl 3), sI (nI r)] σ (rI k) := by
  have h20 := w.2.1
  refine s_TR_parentOf_0 Y d t _ σ (rI k) ?_
  have key : ∀ m i, i + m = r → Jd Y (d + 1) y_TR_parentOf 4 [(0, sR t (.inl 3)), (1, sI (nI r)), (2, sI (nI (pa (v.2 4) r i))), (3, sI (nI i))] [] σ (rI k) := by
    intro m
    induction m with
    | zero =>
      intro i hi
      refine s_TR_parentOf_4 Y d t _ _ _ σ (rI k) ⟨fun _ => ?_, fun hlt => ?_⟩
      · have : i = r := by omega
        subst this
        exact hk
      · rw [i32_lt (by omega) (by omega)] at hlt; omega
    | succ m ih =>
      intro i hi
      have spi := w.sp20 (show i < v.1 by omega)
      have es : rd σ (t + 5) 20 (nI i) = nI (v.2 4 i) := hv.rd h20 (f := 4) (by omega) (by omega) rfl
      have e1 : pa (v.2 4) r (i + 1) = if r < i + v.2 4 i then i else pa (v.2 4) r i := rfl
      have nx := ih (i + 1) (by omega)
      rw [e1] at nx
      refine s_TR_parentOf_4 Y d t _ _ _ σ (rI k) ⟨fun hlt => ?_, fun _ => ⟨fun hlt => ?_, fun hlt => ?_⟩⟩
      · rw [i32_lt (by omega) (by omega)] at hlt; omega
      · rw [es, nI_add, i32_lt (by omega) (by omega)] at hlt
        rw [if_neg hlt] at nx
        refine s_TR_parentOf_25 Y d t _ _ _ σ (rI k) ?_
        rw [nI_s1]
        exact nx
      · rw [es, nI_add, i32_lt (by omega) (by omega)] at hlt
        rw [if_pos hlt] at nx
        refine s_TR_parentOf_25 Y d t _ _ _ σ (rI k) ?_
        rw [nI_s1]
        exact nx
  exact key r 0 (by omega)
theorem c_TR_leaveOut (Y : List kd) (d t : Nat) {v : VT} (w : WFV v) {σ : sS} (hv : XV σ t v) {r : Nat} (hr : r < v.1) (h0 : 0 < r) (k : sS → Prop) (hk : ∀ σ', XV σ' t (outV v r) → (∀ c, (c < t ∨ t + 7 ≤ c) → σ' c = σ c) → k σ') : CJ Y (d + 3) y_TR_leaveOut [sR t (.inl 3), sI (nI r)] σ (rN k) := by
  have h20 := w.2.1
  have wo := w.out hr h0
  obtain ⟨P, j, h1, h2, h3, h4, h5⟩ := w.hold hr h0
  have spr := w.sp20 hr
  have hK := w.kids5 h2
  have hPe := (w.2.2.1 P h2).2.2.2 j h3
  have h4' : ch (v.2 4) P j = r := h4
  refine s_TR_leaveOut_0 Y (d + 2) t _ σ (rN k) ⟨fun hlt => ?_, fun _ => ⟨fun _ => ?_, fun hlt => ?_⟩⟩
  · rw [show (0 : Int32) = nI 0 from rfl, i32_lt (by omega) (by omega)] at hlt
    omega
  · refine c_TR_parentOf Y (d + 1) t w hv hr _ ?_
    rw [h5]
    have eK : rd σ (t + 3) 20 (nI P) = nI (v.2 2 P) := hv.rd h20 (f := 2) (by omega) h2 rfl
    rw [eK, show (1 : Int32) = nI 1 from rfl, nI_subm (by omega), wr_nI (by omega) (by omega)]
    have eS : rd (up σ (t + 3) P (nI (v.2 2 P - 1))) (t + 5) 20 (nI r) = nI (v.2 4 r) := by
      rw [rd_nI (by omega) (by omega), up_cell _ _ (by omega)]
      exact hv.2 4 (by omega) r hr
    rw [eS]
    refine c_TR_takeOut Y d t r (v.2 4 r) v.1 (v.2 4) (by omega) h20 (by rw [up_cell _ _ (by omega)]; exact hv.1) (fun q hq => ?_) _ (fun σ1 e1 e2 e3 e4 => ?_)
    · have spq := w.sp20 (show q < v.1 by omega)
      refine ⟨by rw [up_cell _ _ (by omega)]; exact hv.2 4 (by omega) q (by omega), by omega, fun hh => ?_⟩
      have := lam' w.2.2.1 (show q < v.1 by omega) hq hh
      omega
    · have em : ∀ y, y < v.1 - v.2 4 r → mq r (v.2 4 r) y < v.1 := by
        intro y hy
        rcases Nat.lt_or_ge y r with z | z
        · rw [mq_lt z]; omega
        · rw [mq_ge z]; omega
      have ev : outV v r = lnk (outV0 v r P) := by unfold outV; rw [h5]
      have wp := w.out0 hr h2 h3 h4
      have hxp : XP σ1 t (outV v r) := by
        rw [ev]
        refine ⟨e1, fun f hf n3 n5 y hy => ?_, fun p k hp hp2 hk2 => ?_, ?_⟩
        · have hy : y < v.1 - v.2 4 r := hy
          rcases (show f = 0 ∨ f = 1 ∨ f = 2 ∨ f = 4 by omega) with rfl | rfl | rfl | rfl
          · rw [e2 0 (by omega) (by omega) y hy, up_cell _ _ (by omega)]
            exact hv.2 0 (by omega) _ (em y hy)
          · rw [e2 1 (by omega) (by omega) y hy, up_cell _ _ (by omega)]
            exact hv.2 1 (by omega) _ (em y hy)
          · rw [e2 2 (by omega) (by omega) y hy]
            show up σ (t + 3) P (nI (v.2 2 P - 1)) (t + 3) (mq r (v.2 4 r) y) = nI (oK (v.2 2) (v.2 4) r P y)
            unfold oK
            by_cases z : y = P
            · subst z
              rw [mq_lt (by omega), up_self, if_pos rfl]
            · rw [up_other _ _ (Or.inr ?_), if_neg z]
              · exact hv.2 2 (by omega) _ (em y hy)
              · intro z2
                rcases Nat.lt_or_ge y r with z3 | z3
                · rw [mq_lt z3] at z2; omega
                · rw [mq_ge z3] at z2; omega
          · show σ1 (t + 5) y = nI (oS (v.2 4) r y)
            rw [e3 y hy]
            unfold oS
            by_cases z : y < r
            · rw [if_pos z]
              simp only [mq_lt z]
              by_cases z2 : r < y + v.2 4 y
              · rw [if_pos z2, if_pos ⟨z, z2⟩]
              · rw [if_neg z2, if_neg (by omega)]
            · rw [if_neg z]
              simp only [mq_ge (show r ≤ y by omega)]
              rw [if_neg (by omega), up_cell _ _ (by omega)]
              exact hv.2 4 (by omega) _ (by omega)
        · have hp : p < v.1 - v.2 4 r := hp
          have hp2 : (outV0 v r P).2 0 p = 2 := hp2
          have hk2 : k < (outV0 v r P).2 2 p := hk2
          have e9 : kch (lnk (outV0 v r P)) p k = kch (outV0 v r P) p k := rfl
          have e8 := lkD_rec wp hp hk2 hp2
          have e7 := ch_part wp.2.2.1 hp hk2
          rw [e9]
          show σ1 (t + 4) (kch (outV0 v r P) p k) = nI (lkD (outV0 v r P) (kch (outV0 v r P) p k))
          rw [e8]
          have := e2 3 (by omega) (by omega) (kch (outV0 v r P) p k) e7
          rw [show σ1 (t + 4) (kch (outV0 v r P) p k) = _ from this, up_cell _ _ (by omega)]
          exact hv.2 3 (by omega) _ (em _ e7)
        · have := e2 3 (by omega) (by omega) 0 (by omega)
          rw [mq_lt h0, up_cell _ _ (by omega)] at this
          rw [show σ1 (t + 4) 0 = _ from this, hv.2 3 (by omega) 0 (by omega), w.2.2.2.2.2.2.1]
          rfl
      refine c_TR_link Y (d + 1) t wo hxp _ (fun σ2 g1 g2 => hk σ2 g1 (fun c hc => ?_))
      rw [g2 c (by omega) (by omega), e4 c hc, up_cell _ _ (by omega)]
  · rw [hv.1, i32_lt (by omega) (by omega)] at hlt
    omega
