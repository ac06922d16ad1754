/-! the reference: finding faults -/
theorem run_all (Y : List kd) (d : Nat) {v : VT} (w : WFV v) {c : CT} (wc : WFC c) : ∀ (n q p base D : Nat), InC c v n q p base → D ≤ 24 * base + q → RnM Y d c v q p D (UB base q) (lk c v n q p) := by
  intro n
  induction n with
  | zero =>
    intro q p base D hin
    exact (hin.n0 wc w).elim
  | succ n ih =>
    intro q p base D hin hD
    have hq := hin.1
    have hp := hin.2.1
    have hm := wc.2.1
    have hb4 := hin.b4 w
    have sp := w.sp20 hp
    have hU := UB_max hb4 (show q < 24 by omega)
    have cq := wc.2.2.2.2.2.2.2.1 q hq
    have hsg : cF c 0 q ≤ 126 := by have := cq.1; unfold sgOK at this; omega
    have el := lk_succ c v n q p
    have hs9 := cq.1
    unfold sgOK at hs9
    have simple : ∀ (h : ∀ (σ : sS) (L : List Nat) (wt : Nat) (Q : Option sv → sS → Prop), Tp σ D q p 0 → GM σ v c → FM σ L wt → L.length + 6 * v.2 4 p ≤ UB base q → (∀ σ', FM σ' (L ++ (lk c v (n + 1) q p).1) (wt + (lk c v (n + 1) q p).2) → mF D σ σ' → σ' 0 35 = nI D → hdM Y d σ' Q) → CJ Y (d + 6) y_MO_goesOn [sR 0 (.inl 6), sI (nI q), sI (nI p)] σ (rN fun σ' => hdM Y d σ' Q)), RnM Y d c v q p D (UB base q) (lk c v (n + 1) q p) := fun h σ L wt Q ht hx hf hl hk => itM Y d ht (by omega) Q (h σ L wt Q ht hx hf hl hk)
    rcases hs9 with hs | hs | hs | hs | hs | hs | hs | hs | hs
    · -- "*"
      have e1 : lk c v (n + 1) q p = ([], 0) := by rw [el, if_neg (by omega), if_neg (by omega), if_neg (by omega), if_neg (by omega), if_neg (by omega), if_neg (by omega), if_neg (by omega), if_neg (by omega)]
      refine simple (fun σ L wt Q ht hx hf hl hk => ?_)
      rw [e1, List.append_nil] at hk
      refine c_MO_goesOn Y (d + 5) (hx.2.2.2.2.1 q hq).1 hsg (by omega) _ (by intro z; omega) (by intro z; omega) (by intro z; omega) (by intro z; omega) (by intro z; omega) (by intro z; omega) (by intro z; omega) (fun _ _ _ _ _ _ _ _ => ?_)
      rw [ht.pred]
      exact hk _ (hf.pop _) (mF_pop D σ _) (up_self _ _ _ _)
    · -- "#"
      have e1 : lk c v (n + 1) q p = (numL c v q p, 0) := by rw [el, if_pos hs]
      refine simple (fun σ L wt Q ht hx hf hl hk => ?_)
      rw [e1] at hk
      exact c_MO_goesOn Y (d + 5) (hx.2.2.2.2.1 q hq).1 hsg (by omega) _ (by intro z; omega) (fun _ => c_MO_findsNumber Y (d + 4) w wc ht hx hf (by omega) hq hp _ hk) (by intro z; omega) (by intro z; omega) (by intro z; omega) (by intro z; omega) (by intro z; omega) (by intros; omega)
    · -- "!"
      have hc1 := wc.c1 hq (Or.inl hs)
      have hin' := hin.down wc hc1.1 (by omega)
      refine simple (fun σ L wt Q ht hx hf hl hk => ?_)
      refine c_MO_goesOn Y (d + 5) (hx.2.2.2.2.1 q hq).1 hsg (by omega) _ (fun _ => c_MO_findsThere Y (d + 4) w wc ht (by omega) hx hf (by omega) hq hp (Or.inl hs) _ (fun z σ' a1 a2 a3 => ?_) (fun z σ' a1 a2 a3 => ?_)) (by intro z; omega) (by intro z; omega) (by intro z; omega) (by intro z; omega) (by intro z; omega) (by intro z; omega) (by intros; omega)
      · have e1 : lk c v (n + 1) q p = ([100 * v.2 5 p + 4], 0) := by rw [el, if_neg (by omega), if_pos hs, if_pos z]
        rw [e1] at hk
        rw [if_pos hs] at a1
        exact hk σ' a1 a2 a3
      · have e1 : lk c v (n + 1) q p = lk c v n (q + 1) p := by rw [el, if_neg (by omega), if_pos hs, if_neg z]
        rw [e1] at hk
        exact ih (q + 1) p base D hin' (by omega) σ' L wt Q a1 (hx.keptF wc a2) a3 (by have := UB_mono (base := base) (show q ≤ q + 1 by omega); omega) (fun σ2 b1 b2 b3 => hk σ2 b1 (a2.trans b2) b3)
    · -- "~"
      have hc1 := wc.c1 hq (Or.inr (Or.inl hs))
      have hin' := hin.down wc hc1.1 (by omega)
      refine simple (fun σ L wt Q ht hx hf hl hk => ?_)
      refine c_MO_goesOn Y (d + 5) (hx.2.2.2.2.1 q hq).1 hsg (by omega) _ (fun _ => c_MO_findsThere Y (d + 4) w wc ht (by omega) hx hf (by omega) hq hp (Or.inr hs) _ (fun z σ' a1 a2 a3 => ?_) (fun z σ' a1 a2 a3 => ?_)) (by intro z; omega) (by intro z; omega) (by intro z; omega) (by intro z; omega) (by intro z; omega) (by intro z; omega) (by intros; omega)
      · have e1 : lk c v (n + 1) q p = ([], 0) := by rw [el, if_neg (by omega), if_neg (by omega), if_pos hs, if_pos z]
        rw [e1] at hk
        rw [if_neg (by omega)] at a1
        exact hk σ' a1 a2 a3
      · have e1 : lk c v (n + 1) q p = lk c v n (q + 1) p := by rw [el, if_neg (by omega), if_neg (by omega), if_pos hs, if_neg z]
        rw [e1] at hk
        exact ih (q + 1) p base D hin' (by omega) σ' L wt Q a1 (hx.keptF wc a2) a3 (by have := UB_mono (base := base) (show q ≤ q + 1 by omega); omega) (fun σ2 b1 b2 b3 => hk σ2 b1 (a2.trans b2) b3)
    · -- "{"
      have e1 : lk c v (n + 1) q p = (if v.2 0 p = 2 then recR c v q p (lk c v n) else ([100 * v.2 5 p + 5], 0)) := by rw [el, if_neg (by omega), if_neg (by omega), if_neg (by omega), if_neg (by omega), if_pos hs]
      rw [e1]
      refine run_record Y d w wc hU hq hs hp (by omega) (lk c v n) (fun r x hr hx => lk_len wc w n r x hr hx) (fun r x hr hx => okF_lk wc w n r x hr hx) (fun _ i j hi hj => ?_)
      have hg := ch_gt (cF c 3) q i
      have hg : q < cch c q i := hg
      have := ih (cch c q i) (kch v p j) base (D + 1) (hin.into wc w hi hj) (by omega)
      intro σ L wt Q u1 u2 u3 u4 u5
      exact this σ L wt Q u1 u2 u3 (by have := UB_mono (base := base) (show q ≤ cch c q i by omega); omega) u5
    · -- "@"
      have hc1 := wc.c1 hq (by omega)
      have e1 : lk c v (n + 1) q p = (if v.2 0 p = 3 then (lenL c v q p ++ (foldR (fun k => lk c v n (q + 1) (kch v p k)) (v.2 2 p)).1, (foldR (fun k => lk c v n (q + 1) (kch v p k)) (v.2 2 p)).2) else ([100 * v.2 5 p + 10], 0)) := by rw [el, if_neg (by omega), if_neg (by omega), if_neg (by omega), if_neg (by omega), if_neg (by omega), if_pos hs]
      rw [e1]
      refine run_list Y d w wc hU hq hs hp (by omega) (fun k => lk c v n (q + 1) (kch v p k)) (fun j hj => lk_len wc w n _ _ hc1.2 (w.kchlt hp hj).2) (fun j hj => ?_)
      have := ih (q + 1) (kch v p j) base (D + 1) (hin.into wc w hc1.1 hj) (by omega)
      intro σ L wt Q u1 u2 u3 u4 u5
      exact this σ L wt Q u1 u2 u3 (by have := UB_mono (base := base) (show q ≤ q + 1 by omega); omega) u5
    · -- "&"
      have hc1 := wc.c1 hq (by omega)
      have e1 : lk c v (n + 1) q p = (if (lk c v n (q + 1) p).1 = [] then (if v.2 0 p = 3 then (twL v p (v.2 2 p)).1 else [], (lk c v n (q + 1) p).2) else ((lk c v n (q + 1) p).1, (lk c v n (q + 1) p).2 + 1)) := by rw [el, if_neg (by omega), if_neg (by omega), if_neg (by omega), if_neg (by omega), if_neg (by omega), if_neg (by omega), if_pos hs]
      rw [e1]
      refine run_again Y d w wc hU hq hs hp (by omega) _ (lk_len wc w n _ _ hc1.2 hp) ?_
      have := ih (q + 1) p base (D + 1) (hin.down wc hc1.1 (by omega)) (by omega)
      intro σ L wt Q u1 u2 u3 u4 u5
      exact this σ L wt Q u1 u2 u3 (by have := UB_mono (base := base) (show q ≤ q + 1 by omega); omega) u5
    · -- "/"
      have hc1 := wc.c1 hq (by omega)
      have hc2 := wc.c2 hq hs
      have hs1 := (wc.2.2.2.2.1 (q + 1) hc1.2).1
      have slv := sp_lev w (p + 1) p (by omega) hp
      have hlv := hin.2.2.1
      have e1 : lk c v (n + 1) q p = (if (lk c v n (q + 1) p).1 = [] then lk c v n (q + 1) p else if (lk c v n (q + 1 + cF c 3 (q + 1)) p).1.length < (lk c v n (q + 1) p).1.length then lk c v n (q + 1 + cF c 3 (q + 1)) p else lk c v n (q + 1) p) := by rw [el, if_neg (by omega), if_neg (by omega), if_neg (by omega), if_neg (by omega), if_neg (by omega), if_neg (by omega), if_neg (by omega), if_pos hs]
      rw [e1]
      have hu2 := UB_two (base := base) (show q + 2 ≤ q + 1 + cF c 3 (q + 1) by omega)
      refine run_either Y d w wc hU hq hs hp (by omega) _ _ (lk_len wc w n _ _ hc1.2 hp) (lk_len wc w n _ _ hc2.2 hp) (U2 := UB base (q + 1 + cF c 3 (q + 1))) (by omega) (UB_max hb4 (by omega)) ?_ ?_
      · have := ih (q + 1) p base (D + 1) (hin.down wc hc1.1 (by omega)) (by omega)
        intro σ L wt Q u1 u2 u3 u4 u5
        exact this σ L wt Q u1 u2 u3 (by have := UB_mono (base := base) (show q ≤ q + 1 by omega); omega) u5
      · exact ih (q + 1 + cF c 3 (q + 1)) p base (D + 1) (hin.down wc hc2.1 (by omega)) (by omega)
    · -- "^"
      obtain ⟨b1, b2⟩ := hin.back wc hs
      have hb4' := b1.b4 w
      have hu := UB_up b2 hb4' (show q < 24 by omega)
      have e1 : lk c v (n + 1) q p = lk c v n 0 p := by rw [el, if_neg (by omega), if_neg (by omega), if_neg (by omega), if_pos hs]
      refine simple (fun σ L wt Q ht hx hf hl hk => ?_)
      rw [e1] at hk
      refine c_MO_goesOn Y (d + 5) (hx.2.2.2.2.1 q hq).1 hsg (by omega) _ (by intro z; omega) (by intro z; omega) (by intro z; omega) (by intro z; omega) (by intro z; omega) (fun _ => c_MO_looksAs Y (d + 5) ht (by omega) 0 _ (fun σ' a1 a2 a3 a4 => ?_)) (by intro z; omega) (by intros; omega)
      exact ih 0 p (v.2 6 p) D b1 (by omega) σ' L wt Q a1 (hx.keptF wc a2) (hf.far a3 a4) (by omega) (fun σ2 g1 g2 g3 => hk σ2 g1 (a2.trans g2) g3)
/-- a world that differs in what is found and in the stack alone -/
def gK (σ σ' : sS) : Prop := (∀ x, x ≠ 0 → (x < 20 ∨ 28 < x) → σ' x = σ x) ∧ ∀ i, i ≠ 33 → i ≠ 34 → i ≠ 35 → σ' 0 i = σ 0 i
theorem c_MO_findFaults (Y : List kd) (d : Nat) {v : VT} (w : WFV v) {c : CT} (wc : WFC c) {σ : sS} (hx : GM σ v c) (k : sS → Prop) (hk : ∀ σ', FM σ' (fl c v).1 (fl c v).2 → gK σ σ' → k σ') : CJ Y (d + 7) y_MO_findFaults [sR 0 (.inl 6)] σ (rN k) := by
  have h1 := wc.1
  have h2 := w.1
  have sp := w.sp20 (show 0 < v.1 by omega)
  refine s_MO_findFaults_0 Y (d + 6) 0 σ (rN k) ?_
  obtain ⟨τ, hτ⟩ : ∃ τ, τ = up (up (up σ 0 33 0) 0 34 0) 0 35 0 := ⟨_, rfl⟩
  rw [← hτ]
  have t35 : τ 0 35 = nI 0 := by rw [hτ]; exact up_self _ _ _ _
  have K1 : gK σ τ := by
    rw [hτ]
    exact ⟨fun x a b => by rw [up_cell _ _ a, up_cell _ _ a, up_cell _ _ a], fun i a b e => by rw [up_other _ _ (Or.inr e), up_other _ _ (Or.inr b), up_other _ _ (Or.inr a)]⟩
  have F1 : FM τ [] 0 := by
    rw [hτ]
    exact ⟨by rw [up_other _ _ (Or.inr (by omega)), up_other _ _ (Or.inr (by omega)), up_self]; rfl, by rw [up_other _ _ (Or.inr (by omega)), up_self]; rfl, fun i x hx => by simp at hx⟩
  have G1 : GM τ v c := ⟨hx.1.kept (K1.2 6 (by omega) (by omega) (by omega)) (fun x a b => K1.1 x (by omega) (by omega)), hx.2.kept wc (fun i a b => K1.2 i (by omega) (by omega) (by omega)) (fun x a b => K1.1 x (by omega) (by omega))⟩
  have hin : InC c v 120 0 0 0 := ⟨by omega, by omega, by rw [wc.2.2.2.2.2.2.1]; omega, by omega⟩
  refine c_MO_looks Y (d + 6) t35 (by omega) 0 0 _ (fun σ2 a1 a2 a3 a4 => ?_)
  refine run_all Y d w wc 120 0 0 0 0 hin (Nat.zero_le _) σ2 [] 0 _ a1 (G1.keptF wc a2) (F1.far a3 a4) ?_ (fun σ3 b1 b2 b3 => ?_)
  · show 0 + 6 * v.2 4 0 ≤ 120
    omega
  · rw [List.nil_append, Nat.zero_add] at b1
    refine s_MO_findFaults_21 Y (d + 6) 0 σ3 (rN k) ⟨fun _ => hk σ3 b1 ⟨fun x a b => ?_, fun i a b e => ?_⟩, fun h => ?_⟩
    · rw [(a2.trans b2).1 x a b, K1.1 x a b]
    · rw [(a2.trans b2).2.1 i a b e, K1.2 i a b e]
    · rw [b3] at h
      exact absurd h (by decide)
