/-! the class's Tree: paths, leaving out -/
/-- the tree at t holds the value but for its paths and the digits of elements -/
def XP (σ : sS) (t : Nat) (v : VT) : Prop := σ t 6 = nI v.1 ∧ (∀ f, f < 6 → f ≠ 3 → f ≠ 5 → ∀ p, p < v.1 → σ (t + 1 + f) p = nI (v.2 f p)) ∧ (∀ p k, p < v.1 → v.2 0 p = 2 → k < v.2 2 p → σ (t + 4) (kch v p k) = nI (v.2 3 (kch v p k))) ∧ σ (t + 4) 0 = 0
theorem XP.kept {σ σ' : sS} {t : Nat} {v : VT} (h : XP σ t v) (hk : ∀ c, t ≤ c → c < t + 7 → c ≠ t + 6 → σ' c = σ c) : XP σ' t v := ⟨by rw [hk t (Nat.le_refl _) (by omega) (by omega)]; exact h.1, fun f hf h3 h5 p hp => by rw [hk _ (by omega) (by omega) (by omega)]; exact h.2.1 f hf h3 h5 p hp, fun p k hp h2 hk2 => by rw [hk _ (by omega) (by omega) (by omega)]; exact h.2.2.1 p k hp h2 hk2, by rw [hk _ (by omega) (by omega) (by omega)]; exact h.2.2.2⟩
theorem c_TR_link (Y : List kd) (d t : Nat) {v : VT} (w : WFV v) {σ : sS} (hx : XP σ t v) (k : sS → Prop) (hk : ∀ σ', XV σ' t v → (∀ c, c ≠ t + 4 → c ≠ t + 6 → σ' c = σ c) → k σ') : CJ Y (d + 1) y_TR_link [sR t (.inl 3)] σ (rN k) := by
  have h20 := w.2.1
  have h1n := w.1
  have hT := w.2.2.1
  refine s_TR_link_0 Y d t σ (rN k) ?_
  rw [show (0 : Int32) = nI 0 from rfl, wr_nI (by omega) (by omega)]
  have outer : ∀ m i, i + m = v.1 → ∀ τ : sS, (∀ c, c ≠ t + 4 → c ≠ t + 6 → τ c = σ c) → (∀ p q k, p < v.1 → q < v.1 → k < v.2 2 q → kch v q k = p → (q < i → τ (t + 4) p = nI (v.2 3 p)) ∧ (i ≤ q → τ (t + 4) p = σ (t + 4) p)) → τ (t + 4) 0 = 0 → (∀ p, p < v.1 → (p = 0 ∨ ∃ q j, q < i ∧ j < v.2 2 q ∧ kch v q j = p) → τ (t + 6) p = nI (v.2 5 p)) → Jd Y (d + 1) y_TR_link 11 [(0, sR t (.inl 3)), (1, sI (nI i))] [] τ (rN k) := by
    intro m
    induction m with
    | zero =>
      intro i hi τ f1 f2 f3 f4
      refine s_TR_link_11 Y d t _ τ (rN k) ⟨fun _ => ?_, fun hlt => ?_⟩
      · refine hk τ ⟨by rw [f1 t (by omega) (by omega)]; exact hx.1, fun f hf p hp => ?_⟩ f1
        by_cases e3 : f = 3
        · subst e3
          by_cases e : p = 0
          · subst e
            rw [w.2.2.2.2.2.2.1]
            exact f3
          · obtain ⟨q, j, h1, h2, h3, h4, -⟩ := w.hold hp (by omega)
            exact (f2 p q j hp h2 h3 h4).1 (by omega)
        · by_cases e5 : f = 5
          · subst e5
            by_cases e : p = 0
            · exact f4 p hp (Or.inl e)
            · obtain ⟨q, j, h1, h2, h3, h4, -⟩ := w.hold hp (by omega)
              exact f4 p hp (Or.inr ⟨q, j, by omega, h3, h4⟩)
          · rw [f1 _ (by omega) (by omega)]
            exact hx.2.1 f hf e3 e5 p hp
      · rw [f1 t (by omega) (by omega), hx.1, i32_lt (by omega) (by omega)] at hlt
        omega
    | succ m ih =>
      intro i hi τ f1 f2 f3 f4
      have hin : i < v.1 := by omega
      have hi5 := w.kids5 hin
      refine s_TR_link_11 Y d t _ τ (rN k) ⟨fun hlt => ?_, fun _ => ?_⟩
      · rw [f1 t (by omega) (by omega), hx.1, i32_lt (by omega) (by omega)] at hlt
        omega
      · have ek : rd τ (t + 3) 20 (nI i) = nI (v.2 2 i) := by
          rw [rd_nI (by omega) (by omega), f1 _ (by omega) (by omega)]
          exact hx.2.1 2 (by omega) (by omega) (by omega) i hin
        rw [ek, nI_s1]
        obtain ⟨b1, b2, b3, b4, b5, b6, b7⟩ := w.2.2.2.2.2.2.2 i hin
        have inner : ∀ m2 j, j + m2 = v.2 2 i → ∀ ρ : sS, (∀ c, c ≠ t + 4 → c ≠ t + 6 → ρ c = σ c) → (∀ p q k, p < v.1 → q < v.1 → k < v.2 2 q → kch v q k = p → ((q < i ∨ (q = i ∧ k < j)) → ρ (t + 4) p = nI (v.2 3 p)) ∧ ((i < q ∨ (q = i ∧ j ≤ k)) → ρ (t + 4) p = σ (t + 4) p)) → ρ (t + 4) 0 = 0 → (∀ p, p < v.1 → (p = 0 ∨ (∃ q j, q < i ∧ j < v.2 2 q ∧ kch v q j = p) ∨ ∃ j', j' < j ∧ kch v i j' = p) → ρ (t + 6) p = nI (v.2 5 p)) → Jd Y (d + 1) y_TR_link 35 [(0, sR t (.inl 3)), (1, sI (nI i)), (2, sI (nI (v.2 2 i))), (3, sI (nI (kch v i j))), (4, sI (nI j))] [] ρ (rN k) := by
          intro m2
          induction m2 with
          | zero =>
            intro j hj ρ g1 g2 g3 g4
            have hj' : j = v.2 2 i := by omega
            refine s_TR_link_35 Y d t _ _ _ _ ρ (rN k) ⟨fun _ => ?_, fun hlt => ?_⟩
            · rw [nI_s1]
              refine ih (i + 1) (by omega) ρ g1 (fun p q k hp hq hk2 e => ⟨fun z => (g2 p q k hp hq hk2 e).1 ?_, fun z => (g2 p q k hp hq hk2 e).2 (by omega)⟩) g3 (fun p hp hq => g4 p hp ?_)
              · by_cases e2 : q = i
                · subst e2; exact Or.inr ⟨rfl, by omega⟩
                · exact Or.inl (by omega)
              · rcases hq with hq | ⟨q, j2, a, b, c⟩
                · exact Or.inl hq
                · by_cases e : q = i
                  · subst e
                    exact Or.inr (Or.inr ⟨j2, by omega, c⟩)
                  · exact Or.inr (Or.inl ⟨q, j2, by omega, b, c⟩)
            · rw [i32_lt (by omega) (by omega)] at hlt
              omega
          | succ m2 ih2 =>
            intro j hj ρ g1 g2 g3 g4
            have hjK : j < v.2 2 i := by omega
            have hc := w.kchlt hin hjK
            obtain ⟨d1, d2, d3, d4⟩ := b7 j hjK
            have hri : ρ (t + 6) i = nI (v.2 5 i) := by
              refine g4 i hin ?_
              by_cases e : i = 0
              · exact Or.inl e
              · obtain ⟨q, j2, h1, h2, h3, h4, -⟩ := w.hold hin (by omega)
                exact Or.inr (Or.inl ⟨q, j2, h1, h3, h4⟩)
            -- behind the digit
            have last : ∀ ν : sS, (∀ c, c ≠ t + 4 → ν c = ρ c) → (∀ p, p ≠ kch v i j → ν (t + 4) p = ρ (t + 4) p) → ν (t + 4) (kch v i j) = nI (v.2 3 (kch v i j)) → Jd Y (d + 1) y_TR_link 66 [(0, sR t (.inl 3)), (1, sI (nI i)), (2, sI (nI (v.2 2 i))), (3, sI (nI (kch v i j))), (4, sI (nI j))] [] ν (rN k) := by
              intro ν n1 n2 n3
              refine s_TR_link_66 Y d t _ _ _ _ ν (rN k) ?_
              rw [rd_nI (show i < 20 by omega) (by omega), rd_nI (σ := ν) (a := t + 4) (show kch v i j < 20 by omega) (by omega), wr_nI (show kch v i j < 20 by omega) (by omega), n3, n1 (t + 6) (by omega), hri, show (10 : Int32) = nI 10 from rfl, pk_mul, nI_add, ← d3]
              have e5 : rd (up ν (t + 6) (kch v i j) (nI (v.2 5 (kch v i j)))) (t + 5) 20 (nI (kch v i j)) = nI (v.2 4 (kch v i j)) := by
                rw [rd_nI (show kch v i j < 20 by omega) (by omega), up_cell _ _ (by omega), n1 _ (by omega), g1 _ (by omega) (by omega)]
                exact hx.2.1 4 (by omega) (by omega) (by omega) _ hc.2
              rw [e5, nI_add, nI_s1]
              refine ih2 (j + 1) (by omega) _ (fun c h5 h6 => ?_) (fun p q k hp hq hk2 e => ?_) ?_ (fun p hp hq => ?_)
              · rw [up_cell _ _ h6, n1 _ h5]; exact g1 c h5 h6
              · rw [up_cell _ _ (by omega)]
                by_cases e2 : q = i ∧ k = j
                · obtain ⟨rfl, rfl⟩ := e2
                  rw [← e]
                  exact ⟨fun _ => n3, fun z => by omega⟩
                · have hne : p ≠ kch v i j := by
                    intro z
                    have := par1 hT hq hin hk2 hjK (e.trans z)
                    exact e2 this
                  rw [n2 p hne]
                  exact ⟨fun z => (g2 p q k hp hq hk2 e).1 (by omega), fun z => (g2 p q k hp hq hk2 e).2 (by omega)⟩
              · rw [up_cell _ _ (by omega), n2 0 (by omega)]; exact g3
              · by_cases e : p = kch v i j
                · rw [e]; exact up_self ν (t + 6) _ _
                · rw [up_other _ _ (Or.inr e), n1 _ (by omega)]
                  refine g4 p hp ?_
                  rcases hq with hq | hq | ⟨j', a, b⟩
                  · exact Or.inl hq
                  · exact Or.inr (Or.inl hq)
                  · by_cases e2 : j' = j
                    · subst e2; exact absurd b.symm e
                    · exact Or.inr (Or.inr ⟨j', by omega, b⟩)
            have ekd : rd ρ (t + 1) 20 (nI i) = nI (v.2 0 i) := by
              rw [rd_nI (by omega) (by omega), g1 _ (by omega) (by omega)]
              exact hx.2.1 0 (by omega) (by omega) (by omega) i hin
            refine s_TR_link_35 Y d t _ _ _ _ ρ (rN k) ⟨fun hlt => ?_, fun _ => ⟨fun hne => ?_, fun he => ?_⟩⟩
            · rw [i32_lt (by omega) (by omega)] at hlt
              omega
            · rw [ekd, z_eq (by omega) 3 (by omega)] at hne
              have hk2 : v.2 0 i = 2 := by
                rcases (show v.2 0 i ≤ 1 ∨ v.2 0 i = 2 by omega) with z | z
                · have := b4 z; omega
                · exact z
              refine last ρ (fun c _ => rfl) (fun p _ => rfl) ?_
              rw [(g2 (kch v i j) i j hc.2 hin hjK rfl).2 (Or.inr ⟨rfl, Nat.le_refl _⟩)]
              exact hx.2.2.1 i j hin hk2 hjK
            · rw [ekd, z_eq (by omega) 3 (by omega)] at he
              rw [show (6 : Int32) = nI 6 from rfl, nI_add, wr_nI (by omega) (by omega), ← d1 he]
              exact last _ (fun c hc => up_cell _ _ hc) (fun p hp => up_other _ _ (Or.inr hp)) (up_self _ _ _ _)
        refine inner (v.2 2 i) 0 (by omega) τ f1 (fun p q k hp hq hk2 e => ⟨fun z => (f2 p q k hp hq hk2 e).1 (by omega), fun z => (f2 p q k hp hq hk2 e).2 (by omega)⟩) f3 (fun p hp hq => f4 p hp ?_)
        rcases hq with hq | hq | ⟨j', a, b⟩
        · exact Or.inl hq
        · exact Or.inr hq
        · omega
  refine outer v.1 0 (by omega) _ (fun c h4 h6 => up_cell _ _ h6) (fun p q k hp hq hk2 e => ⟨fun z => by omega, fun _ => by rw [up_cell _ _ (by omega)]⟩) ?_ (fun p hp hq => ?_)
  · rw [up_cell _ _ (by omega)]; exact hx.2.2.2
  · rcases hq with rfl | ⟨q, j, a, b, c⟩
    · rw [w.2.2.2.2.1]; exact up_self σ (t + 6) 0 _
    · omega
