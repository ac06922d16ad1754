/-! the class's ValueReader: what it makes -/
theorem c_TR_add (Y : List kd) (d T n : Nat) {σ : sS} (hn : σ T 6 = nI n) (hnb : n < 2 ^ 31) (a b c : Nat) (k : Int32 → sS → Prop)
    (h0 : 20 ≤ n → k 0 σ)
    (h1 : ∀ σ', n < 20 → σ' T 6 = nI (n + 1) → σ' (T + 1) n = nI a → σ' (T + 2) n = nI b → σ' (T + 3) n = 0 → σ' (T + 4) n = nI c → σ' (T + 5) n = 1 → (∀ x, T < x → x < T + 6 → ∀ y, y ≠ n → σ' x y = σ x y) → (∀ x, x < T ∨ T + 6 ≤ x → σ' x = σ x) → k 1 σ') :
    CJ Y (d + 1) y_TR_add [sR T (.inl 3), sI (nI a), sI (nI b), sI (nI c)] σ (rI k) := by
  refine s_TR_add_0 Y d T _ _ _ σ (rI k) ⟨fun hlt => ?_, fun hge => ⟨Or.inl rfl, ?_⟩⟩
  · rw [hn, lit 20, i32_lt hnb (by omega)] at hlt
    have hk := fun σ' => h1 σ' hlt
    rw [hn, wr_nI hlt (by omega)]
    refine s_TR_add_23 Y d T _ _ _ (rI k) ?_
    rw [up_cell _ _ (show T ≠ T + 1 by omega), hn, wr_nI hlt (by omega)]
    refine s_TR_add_35 Y d T _ _ (rI k) ?_
    rw [up_cell _ _ (show T ≠ T + 2 by omega), up_cell _ _ (show T ≠ T + 1 by omega), hn, wr_nI hlt (by omega)]
    refine s_TR_add_47 Y d T _ _ (rI k) ?_
    rw [up_cell _ _ (show T ≠ T + 3 by omega), up_cell _ _ (show T ≠ T + 2 by omega), up_cell _ _ (show T ≠ T + 1 by omega), hn, wr_nI hlt (by omega)]
    refine s_TR_add_59 Y d T _ (rI k) ?_
    rw [up_cell _ _ (show T ≠ T + 4 by omega), up_cell _ _ (show T ≠ T + 3 by omega), up_cell _ _ (show T ≠ T + 2 by omega), up_cell _ _ (show T ≠ T + 1 by omega), hn, wr_nI hlt (by omega)]
    refine s_TR_add_71 Y d T _ (rI k) ⟨Or.inr rfl, ?_⟩
    rw [up_cell _ _ (show T ≠ T + 5 by omega), up_cell _ _ (show T ≠ T + 4 by omega), up_cell _ _ (show T ≠ T + 3 by omega), up_cell _ _ (show T ≠ T + 2 by omega), up_cell _ _ (show T ≠ T + 1 by omega), hn, nI_s1]
    refine hk _ (up_self _ _ _ _) ?_ ?_ ?_ ?_ ?_ (fun x x1 x2 y hy => ?_) (fun x hx => ?_)
    · rw [up_cell _ _ (show T + 1 ≠ T by omega), up_cell _ _ (show T + 1 ≠ T + 5 by omega), up_cell _ _ (show T + 1 ≠ T + 4 by omega), up_cell _ _ (show T + 1 ≠ T + 3 by omega), up_cell _ _ (show T + 1 ≠ T + 2 by omega), up_self]
    · rw [up_cell _ _ (show T + 2 ≠ T by omega), up_cell _ _ (show T + 2 ≠ T + 5 by omega), up_cell _ _ (show T + 2 ≠ T + 4 by omega), up_cell _ _ (show T + 2 ≠ T + 3 by omega), up_self]
    · rw [up_cell _ _ (show T + 3 ≠ T by omega), up_cell _ _ (show T + 3 ≠ T + 5 by omega), up_cell _ _ (show T + 3 ≠ T + 4 by omega), up_self]
    · rw [up_cell _ _ (show T + 4 ≠ T by omega), up_cell _ _ (show T + 4 ≠ T + 5 by omega), up_self]
    · rw [up_cell _ _ (show T + 5 ≠ T by omega), up_self]
    · rw [up_cell _ _ (show x ≠ T by omega)]
      rw [up_other _ _ (Or.inr hy), up_other _ _ (Or.inr hy), up_other _ _ (Or.inr hy), up_other _ _ (Or.inr hy), up_other _ _ (Or.inr hy)]
    · by_cases e : x = T
      · omega
      · rw [up_cell _ _ e, up_cell _ _ (show x ≠ T + 5 by omega), up_cell _ _ (show x ≠ T + 4 by omega), up_cell _ _ (show x ≠ T + 3 by omega), up_cell _ _ (show x ≠ T + 2 by omega), up_cell _ _ (show x ≠ T + 1 by omega)]
  · rw [hn, lit 20, i32_lt hnb (by omega)] at hge
    exact h0 (by omega)
/-- what the class has made so far: at the reader t -/
def XB (σ : sS) (t : Nat) (v : VT) (s : List Nat) (dg : Nat) : Prop := σ t 1 = nI s.length ∧ stk σ (t + 1) s ∧ σ t 5 = nI dg ∧ σ (t + 2) 6 = nI v.1 ∧
  ∀ p, p < v.1 → σ (t + 3) p = nI (v.2 0 p) ∧ σ (t + 4) p = nI (v.2 1 p) ∧ σ (t + 5) p = nI (v.2 2 p) ∧ σ (t + 6) p = nI (v.2 3 p) ∧ (p ∉ s → σ (t + 7) p = nI (v.2 4 p))
/-- only the reader's cells change -/
def vK (t : Nat) (σ σ' : sS) : Prop := ∀ x, (x < t ∨ t + 9 ≤ x) → σ' x = σ x
theorem c_VR_adds (Y : List kd) (d t : Nat) {σ : sS} {v : VT} {s : List Nat} {dg : Nat} (w : WFQ v s) (hs5 : s.length ≤ 5) (hx : XB σ t v s dg) {kd x : Nat} (hk3 : kd ≤ 3) (k : Int32 → sS → Prop)
    (h0 : ∀ σ', badQ v s → vK t σ σ' → k 0 σ')
    (h1 : ∀ σ', ¬ badQ v s → vK t σ σ' → XB σ' t (addV v s kd x (vdg v s dg)) (if 2 ≤ kd then v.1 :: s else s) (vdg v s dg) → k 1 σ') :
    CJ Y (d + 2) y_VR_adds [sR t (.inl 4), sI (nI kd), sI (nI x)] σ (rI k) := by
  obtain ⟨x1, x2, x3, x4, x5⟩ := hx
  have hv20 := w.1
  have at69 : ∀ τ : sS, τ t 1 = nI s.length → stk τ (t + 1) s → τ t 5 = nI (vdg v s dg) → τ (t + 2) 6 = nI v.1 → (¬ ∃ q r, s = q :: r ∧ v.2 0 q = 3 ∧ 4 ≤ v.2 2 q) → vK t σ τ →
      (∀ p, p < v.1 → τ (t + 3) p = nI (v.2 0 p) ∧ τ (t + 4) p = nI (v.2 1 p) ∧ τ (t + 5) p = nI (if s.head? = some p then v.2 2 p + 1 else v.2 2 p) ∧ τ (t + 6) p = nI (v.2 3 p) ∧ (p ∉ s → τ (t + 7) p = nI (v.2 4 p))) →
      Jd Y (d + 2) y_VR_adds 69 [(0, sR t (.inl 4)), (1, sI (nI kd)), (2, sI (nI x))] [] τ (rI k) := by
    intro τ t1 t2 t3 t4 t5 t6 t7
    refine s_VR_adds_69 Y (d + 1) t _ _ τ (rI k) ⟨fun h4 => ⟨Or.inl rfl, ?_⟩, fun h4 => ?_⟩
    · rw [t1, lit 4, i32_lt (by omega) (by omega)] at h4
      exact h0 τ (Or.inr (Or.inl (by omega))) t6
    · rw [t1, lit 4, i32_lt (by omega) (by omega)] at h4
      rw [t3]
      refine c_TR_add Y d (t + 2) v.1 t4 (by omega) kd x (vdg v s dg) _ (fun hge => ⟨fun h => absurd rfl h, fun _ => ⟨Or.inl rfl, h0 τ (Or.inl hge) t6⟩⟩) ?_
      intro σ' hlt g6 g1 g2 g3 g4 g5 gy gx
      have g1 : σ' (t + 3) v.1 = nI kd := g1
      have g2 : σ' (t + 4) v.1 = nI x := g2
      have g3 : σ' (t + 5) v.1 = 0 := g3
      have g4 : σ' (t + 6) v.1 = nI (vdg v s dg) := g4
      have g5 : σ' (t + 7) v.1 = 1 := g5
      have nb : ¬ badQ v s := by
        rintro (z | z | z)
        · omega
        · omega
        · exact t5 z
      have u1 : σ' t 1 = nI s.length := by rw [gx t (by omega)]; exact t1
      have u5 : σ' t 5 = nI (vdg v s dg) := by rw [gx t (by omega)]; exact t3
      have u2 : stk σ' (t + 1) s := t2.kept (fun i _ => by rw [gx (t + 1) (by omega)])
      have uK : vK t σ σ' := fun y hy => by rw [gx y (by omega), t6 y hy]
      have rows : ∀ s' : List Nat, (∀ q, q ∈ s → q ∈ s') → ∀ p, p < v.1 + 1 → σ' (t + 3) p = nI ((addV v s kd x (vdg v s dg)).2 0 p) ∧ σ' (t + 4) p = nI ((addV v s kd x (vdg v s dg)).2 1 p) ∧ σ' (t + 5) p = nI ((addV v s kd x (vdg v s dg)).2 2 p) ∧ σ' (t + 6) p = nI ((addV v s kd x (vdg v s dg)).2 3 p) ∧ (p ∉ s' → σ' (t + 7) p = nI ((addV v s kd x (vdg v s dg)).2 4 p)) := by
        intro s' hss p hp
        rw [aV0, aV1, aV2, aV3, aV4]
        by_cases e : p = v.1
        · subst e
          rw [if_pos rfl, if_pos rfl, if_pos rfl, if_pos rfl, if_pos rfl]
          exact ⟨g1, g2, g3, g4, fun _ => g5⟩
        · obtain ⟨r1, r2, r3, r4, r5⟩ := t7 p (by omega)
          rw [if_neg e, if_neg e, if_neg e, if_neg e, if_neg e]
          refine ⟨?_, ?_, ?_, ?_, fun hns => ?_⟩
          · rw [gy (t + 3) (by omega) (by omega) p e]; exact r1
          · rw [gy (t + 4) (by omega) (by omega) p e]; exact r2
          · rw [gy (t + 5) (by omega) (by omega) p e]; exact r3
          · rw [gy (t + 6) (by omega) (by omega) p e]; exact r4
          · have hns2 : p ∉ s := fun z => hns (hss p z)
            rw [gy (t + 7) (by omega) (by omega) p e, if_neg hns2]; exact r5 hns2
      have at105 : 2 ≤ kd → Jd Y (d + 2) y_VR_adds 105 [(0, sR t (.inl 4))] [] σ' (rI k) := by
        intro hk2
        refine s_VR_adds_105 Y (d + 1) t σ' (rI k) ?_
        have e : nI (v.1 + 1) - 1 = nI v.1 := nI_subm (a := v.1 + 1) (b := 1) (by omega)
        rw [g6, e]
        refine c_RD_pushV Y d t u1 u2 (by omega) v.1 _ (fun σ2 p1 p2 p3 p4 => ⟨Or.inr rfl, ?_⟩)
        refine h1 σ2 nb (fun y hy => by rw [p3 y (by omega) (by omega), uK y hy]) ?_
        rw [if_pos hk2]
        refine ⟨p1, p2, ?_, ?_, fun p hp => ?_⟩
        · rw [p4 5 (by omega)]; exact u5
        · rw [p3 (t + 2) (by omega) (by omega)]; exact g6
        · rw [p3 (t + 3) (by omega) (by omega), p3 (t + 4) (by omega) (by omega), p3 (t + 5) (by omega) (by omega), p3 (t + 6) (by omega) (by omega), p3 (t + 7) (by omega) (by omega)]
          exact rows (v.1 :: s) (fun q hq => List.mem_cons_of_mem _ hq) p hp
      refine ⟨fun _ => ⟨fun e2 => ?_, fun n2 => ⟨fun n3 => ⟨Or.inr rfl, ?_⟩, fun e3 => ?_⟩⟩, fun h => absurd h (by decide)⟩
      · rw [z_eq (by omega) 2 (by omega)] at e2
        exact at105 (by omega)
      · rw [z_eq (by omega) 2 (by omega)] at n2
        rw [z_eq (by omega) 3 (by omega)] at n3
        refine h1 σ' nb uK ?_
        rw [if_neg (by omega)]
        exact ⟨u1, u2, u5, g6, rows s (fun q hq => hq)⟩
      · rw [z_eq (by omega) 3 (by omega)] at e3
        exact at105 (by omega)
  refine s_VR_adds_0 Y (d + 1) t _ _ σ (rI k) ?_
  refine c_RD_topV Y d t x1 x2 (by omega) _ ?_
  cases s with
  | nil =>
    refine ⟨fun _ => at69 σ x1 x2 x3 x4 (fun ⟨q, r, e, _⟩ => by cases e) (fun _ _ => rfl) (fun p hp => ?_), fun h => absurd (by decide) h⟩
    obtain ⟨r1, r2, r3, r4, r5⟩ := x5 p hp
    exact ⟨r1, r2, by rw [if_neg (fun z => by cases z)]; exact r3, r4, r5⟩
  | cons q r =>
    have hm := w.2.2.1.mem q List.mem_cons_self
    have hw := w.2.2.2.2 q hm.1
    obtain ⟨r1, r2, r3, r4, r5⟩ := x5 q hm.1
    have hK : v.2 2 q < 2 ^ 30 := by
      have h1 := w.2.1 q hm.1
      have := ch_big w.2.1 hm.1 (v.2 2 q) (Nat.le_refl _)
      rw [h1.2.1] at this
      omega
    show (nI q < 0 → _) ∧ (¬ nI q < 0 → _)
    refine ⟨fun h => absurd h (nI_pos (by omega)), fun _ => ?_⟩
    rw [rd_nI (by omega) (by omega), rd_nI (by omega) (by omega), r1, r3]
    have ev : vdg v (q :: r) dg = if v.2 0 q = 3 then 6 + v.2 2 q else dg := rfl
    have rows : ∀ τ : sS, (∀ y, y ≠ t → τ y = σ y) → ∀ p, p < v.1 → (up τ (t + 5) q (nI (v.2 2 q + 1))) (t + 3) p = nI (v.2 0 p) ∧ (up τ (t + 5) q (nI (v.2 2 q + 1))) (t + 4) p = nI (v.2 1 p) ∧ (up τ (t + 5) q (nI (v.2 2 q + 1))) (t + 5) p = nI (if (q :: r).head? = some p then v.2 2 p + 1 else v.2 2 p) ∧ (up τ (t + 5) q (nI (v.2 2 q + 1))) (t + 6) p = nI (v.2 3 p) ∧ (p ∉ q :: r → (up τ (t + 5) q (nI (v.2 2 q + 1))) (t + 7) p = nI (v.2 4 p)) := by
      intro τ hτ p hp
      obtain ⟨c1, c2, c3, c4, c5⟩ := x5 p hp
      rw [up_cell _ _ (show t + 3 ≠ t + 5 by omega), up_cell _ _ (show t + 4 ≠ t + 5 by omega), up_cell _ _ (show t + 6 ≠ t + 5 by omega), up_cell _ _ (show t + 7 ≠ t + 5 by omega), hτ (t + 3) (by omega), hτ (t + 4) (by omega), hτ (t + 6) (by omega), hτ (t + 7) (by omega)]
      refine ⟨c1, c2, ?_, c4, c5⟩
      by_cases e : q = p
      · subst e
        rw [up_self, if_pos (show (q :: r).head? = some q from rfl)]
      · rw [up_other _ _ (Or.inr (fun z => e z.symm)), hτ (t + 5) (by omega), if_neg (fun z => e (head_eq.mp z))]
        exact c3
    refine ⟨fun n3 => ?_, fun e3 => ⟨fun lt4 => ?_, fun ge4 => ⟨Or.inl rfl, ?_⟩⟩⟩
    · rw [z_eq (by omega) 3 (by omega)] at n3
      refine s_VR_adds_54 Y (d + 1) t _ _ _ _ σ (rI k) ?_
      rw [nI_s1, wr_nI (by omega) (by omega)]
      rw [if_neg n3] at ev
      refine at69 _ ?_ ?_ ?_ ?_ (fun ⟨q', r', e, e2, _⟩ => by cases e; exact n3 e2) (fun y hy => up_cell _ _ (by omega)) (rows σ (fun _ _ => rfl))
      · rw [up_cell _ _ (by omega)]; exact x1
      · exact x2.kept (fun i _ => by rw [up_cell _ _ (by omega)])
      · rw [up_cell _ _ (by omega), ev]; exact x3
      · rw [up_cell _ _ (by omega)]; exact x4
    · rw [z_eq (by omega) 3 (by omega)] at e3
      rw [lit 4, i32_lt (by omega) (by omega)] at lt4
      refine s_VR_adds_54 Y (d + 1) t _ _ _ _ _ (rI k) ?_
      rw [nI_s1, wr_nI (by omega) (by omega), lit 6, nI_add]
      rw [if_pos e3] at ev
      refine at69 _ ?_ ?_ ?_ ?_ (fun ⟨q', r', e, e2, e4⟩ => by cases e; omega) (fun y hy => by rw [up_cell _ _ (by omega), up_cell _ _ (by omega)]) (rows _ (fun y hy => up_cell _ _ hy))
      · rw [up_cell _ _ (by omega), up_other _ _ (Or.inr (by omega))]; exact x1
      · exact x2.kept (fun i _ => by rw [up_cell _ _ (by omega), up_cell _ _ (by omega)])
      · rw [up_cell _ _ (by omega), up_self, ev]
      · rw [up_cell _ _ (by omega), up_cell _ _ (by omega)]; exact x4
    · rw [z_eq (by omega) 3 (by omega)] at e3
      rw [lit 4, i32_lt (by omega) (by omega)] at ge4
      exact h0 σ (Or.inr (Or.inr ⟨q, r, rfl, e3, by omega⟩)) (fun _ _ => rfl)
