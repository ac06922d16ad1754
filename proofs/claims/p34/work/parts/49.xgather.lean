/-! the class's Gatherer: who decides, looking, gathering -/
theorem lk_succ (c : CT) (v : VT) (n q p : Nat) : lk c v (n + 1) q p = 
    if cF c 0 q = 35 then (numL c v q p, 0)
    else if cF c 0 q = 33 then (if v.2 0 p = 1 then ([100 * v.2 5 p + 4], 0) else lk c v n (q + 1) p)
    else if cF c 0 q = 126 then (if v.2 0 p = 1 then ([], 0) else lk c v n (q + 1) p)
    else if cF c 0 q = 94 then lk c v n 0 p
    else if cF c 0 q = 123 then (if v.2 0 p = 2 then recR c v q p (lk c v n) else ([100 * v.2 5 p + 5], 0))
    else if cF c 0 q = 64 then (if v.2 0 p = 3 then (lenL c v q p ++ (foldR (fun k => lk c v n (q + 1) (kch v p k)) (v.2 2 p)).1, (foldR (fun k => lk c v n (q + 1) (kch v p k)) (v.2 2 p)).2) else ([100 * v.2 5 p + 10], 0))
    else if cF c 0 q = 38 then (if (lk c v n (q + 1) p).1 = [] then (if v.2 0 p = 3 then (twL v p (v.2 2 p)).1 else [], (lk c v n (q + 1) p).2) else ((lk c v n (q + 1) p).1, (lk c v n (q + 1) p).2 + 1))
    else if cF c 0 q = 47 then (if (lk c v n (q + 1) p).1 = [] then lk c v n (q + 1) p else if (lk c v n (q + 1 + cF c 3 (q + 1)) p).1.length < (lk c v n (q + 1) p).1.length then lk c v n (q + 1 + cF c 3 (q + 1)) p else lk c v n (q + 1) p)
    else ([], 0) := rfl
theorem InC.n0 {c : CT} (wc : WFC c) {v : VT} (w : WFV v) {q p base : Nat} (h : InC c v 0 q p base) : False := by
  have := h.b4 w
  have := wc.2.1
  obtain ⟨a, b, e, f⟩ := h
  omega
theorem c_dec (Y : List kd) (d tr : Nat) {v : VT} (w : WFV v) {c : CT} (wc : WFC c) : ∀ (n q p base i : Nat) (σ : sS) (L : List Nat) (wt : Nat) (k : Int32 → sS → Prop), InC c v n q p base → i + (if cF c 11 q = 0 then 24 - q else 48 - q) ≤ 48 → GX Y σ tr v c → FX σ L wt → L.length < 6144 →
    (∀ σ', FX σ' (L ++ (lk c v n q p).1) (wt + (lk c v n q p).2) → xK σ σ' → k (-1) σ') →
    (∀ n' q' base', InC c v (n' + 1) q' p base' → n' + 1 ≤ n → ¬ goS (cF c 0 q') → lk c v (n' + 1) q' p = lk c v n q p → 24 * base + q ≤ 24 * base' + q' → UB base q ≤ UB base' q' → k (nI q') σ) →
    Jd Y (d + 2) y_GA_deciderOf 5 [(0, sR 15 (.inl 1)), (2, sI (nI p)), (3, sI (nI q)), (4, sI (nI i))] [] σ (rI k) := by
  intro n
  induction n with
  | zero =>
    intro q p base i σ L wt k hin
    exact (hin.n0 wc w).elim
  | succ n ih =>
    intro q p base i σ L wt k hin hi hx hf hl stop go
    have hq := hin.1
    have hp := hin.2.1
    have h20 := w.2.1
    have hm := wc.2.1
    have cq := wc.2.2.2.2.2.2.2.1 q hq
    have kd := w.2.2.2.2.2.2.2 p hp
    have hb4 := hin.b4 w
    have hsg : cF c 0 q ≤ 126 := by have := cq.1; unfold sgOK at this; omega
    have c0 : rd σ (15 + 2) 24 (nI q) = nI (cF c 0 q) := hx.rdc wc (f := 0) (by omega) hq rfl
    have r0 : rd σ (tr + 1) 20 (nI p) = nI (v.2 0 p) := hx.rdv w (f := 0) (by omega) hp rfl
    have r5 : rd σ (tr + 6) 20 (nI p) = nI (v.2 5 p) := hx.rdv w (f := 5) (by omega) hp rfl
    have hi48 : i < 48 := by split at hi <;> omega
    have el := lk_succ c v n q p
    -- "!" and "~"
    have h53 : (cF c 0 q = 33 ∨ cF c 0 q = 126) → Jd Y (d + 2) y_GA_deciderOf 53 [(0, sR 15 (.inl 1)), (2, sI (nI p)), (3, sI (nI q)), (4, sI (nI i)), (5, sI (nI (cF c 0 q)))] [] σ (rI k) := by
      intro hs
      have hc1 := wc.c1 hq (by omega)
      refine s_GA_deciderOf_53 Y (d + 1) 15 _ _ _ _ σ (rI k) ⟨hx.ref, ?_⟩
      rw [hx.tr, r0, r5]
      refine ⟨fun h1 => ⟨fun hn => ?_, fun he => ⟨hx.2.2.1, ?_⟩⟩, fun h1 => ?_⟩
      · rw [z_eq (by omega) 1 (by omega)] at h1
        rw [z_eq (by omega) 33 (by omega)] at hn
        have : lk c v (n + 1) q p = ([], 0) := by rw [el, if_neg (by omega), if_neg hn, if_pos (by omega), if_pos h1]
        rw [this, List.append_nil] at stop
        exact stop σ hf (xK.refl σ)
      · rw [z_eq (by omega) 1 (by omega)] at h1
        rw [z_eq (by omega) 33 (by omega)] at he
        have : lk c v (n + 1) q p = ([100 * v.2 5 p + 4], 0) := by rw [el, if_neg (by omega), if_pos he, if_pos h1]
        rw [this] at stop
        exact c_GA_add Y d hf hl _ 4 _ stop
      · rw [z_eq (by omega) 1 (by omega)] at h1
        have e1 : lk c v (n + 1) q p = lk c v n (q + 1) p := by
          rw [el, if_neg (by omega)]
          rcases hs with hs | hs
          · rw [if_pos hs, if_neg h1]
          · rw [if_neg (by omega), if_pos hs, if_neg h1]
        have hho := (cq.2.2.2.2.2.2.2.2.2 0 hc1.1).1
        rw [if_neg (by omega)] at hho
        have hho : cF c 11 (q + 1) = cF c 11 q := hho
        refine s_GA_deciderOf_99 Y (d + 1) 15 _ _ _ σ (rI k) ?_
        rw [nI_s1, nI_s1]
        refine ih (q + 1) p base (i + 1) σ L wt k (hin.down wc hc1.1 (by omega)) ?_ hx hf hl (by rw [← e1]; exact stop) (fun n' q' base' g1 g2 g3 g4 g5 g6 => go n' q' base' g1 (by omega) g3 (by rw [g4, e1]) (by omega) (Nat.le_trans (UB_mono (by omega)) g6))
        rw [hho]
        split at hi <;> split <;> omega
    refine s_GA_deciderOf_5 Y (d + 1) 15 _ _ _ σ (rI k) ⟨fun h => ?_, fun _ => ⟨fun h94 => ?_, fun h94 => ?_⟩⟩
    · rw [show (48 : Int32) = nI 48 from rfl, i32_lt (by omega) (by omega)] at h
      omega
    · rw [c0, z_eq (by omega) 94 (by omega)] at h94
      rw [c0]
      refine ⟨fun h => h53 (Or.inl ((z_eq (by omega) 33 (by omega)).mp h)), fun h => ⟨fun h' => h53 (Or.inr ((z_eq (by omega) 126 (by omega)).mp h')), fun h' => ?_⟩⟩
      rw [z_eq (by omega) 33 (by omega)] at h
      rw [z_eq (by omega) 126 (by omega)] at h'
      exact go n q base hin (Nat.le_refl _) (fun z => by unfold goS at z; omega) rfl (Nat.le_refl _) (Nat.le_refl _)
    · rw [c0, z_eq (by omega) 94 (by omega)] at h94
      obtain ⟨b1, b2⟩ := hin.back wc h94
      have hb4' := b1.b4 w
      have e1 : lk c v (n + 1) q p = lk c v n 0 p := by rw [el, if_neg (by omega), if_neg (by omega), if_neg (by omega), if_pos h94]
      have hu := UB_up b2 hb4' (show q < 24 by omega)
      refine s_GA_deciderOf_99 Y (d + 1) 15 _ _ _ σ (rI k) ?_
      rw [nI_s1]
      refine ih 0 p (v.2 6 p) (i + 1) σ L wt k b1 ?_ hx hf hl (by rw [← e1]; exact stop) (fun n' q' base' g1 g2 g3 g4 g5 g6 => go n' q' base' g1 (by omega) g3 (by rw [g4, e1]) (by omega) (Nat.le_trans hu g6))
      have hho := cq.2.2.2.2.2.2.2.2.1 h94
      rw [wc.2.2.2.2.2.2.1, if_pos rfl]
      rw [if_neg (by omega)] at hi
      omega
theorem c_GA_look (Y : List kd) (tr : Nat) {v : VT} (w : WFV v) {c : CT} (wc : WFC c) : ∀ (n q p base dp : Nat), InC c v n q p base → dp ≤ 24 * base + q → LkX Y (n + 2 * (4 - v.2 6 p) + 12) tr c v q p dp (UB base q) (lk c v n q p) := by
  intro n
  induction n using Nat.strongRecOn with
  | ind n ih =>
    intro q p base dp hin hdp σ L wt k hl hx hf hk
    have hq := hin.1
    have hp := hin.2.1
    have hm := wc.2.1
    have hb4 := hin.b4 w
    have sp := w.sp20 hp
    have hU := UB_max hb4 (show q < 24 by omega)
    obtain ⟨d, hd⟩ : ∃ d, n + 2 * (4 - v.2 6 p) + 12 = d + 9 := ⟨n + 2 * (4 - v.2 6 p) + 3, by omega⟩
    rw [hd]
    refine s_GA_look_0 Y (d + 8) 15 _ _ _ σ (rN k) (s_GA_deciderOf_0 Y (d + 7) 15 _ _ σ _ (c_dec Y (d + 6) tr w wc n q p base 0 σ L wt _ hin (by split <;> omega) hx hf (by omega) (fun σ1 a1 a2 => ?_) (fun n' q' base' g1 g2 g3 g4 g5 g6 => ?_)))
    · refine ⟨fun h => ?_, fun _ => ⟨fun h => absurd (by decide) h, fun _ => hk σ1 a1 a2⟩⟩
      rw [show (128 : Int32) = nI 128 from rfl, i32_lt (by omega) (by omega)] at h
      omega
    · have hq' := g1.1
      have hb4' := g1.b4 w
      have hU' := UB_max hb4' (show q' < 24 by omega)
      have cq := wc.2.2.2.2.2.2.2.1 q' hq'
      have hsg : cF c 0 q' ≤ 126 := by have := cq.1; unfold sgOK at this; omega
      have el := lk_succ c v n' q' p
      have c0 : rd σ (15 + 2) 24 (nI q') = nI (cF c 0 q') := hx.rdc wc (f := 0) (by omega) hq' rfl
      unfold goS at g3
      rw [← g4] at hk
      refine ⟨fun h => ?_, fun _ => ⟨fun _ => ?_, fun h => absurd h (nI_pos (by omega))⟩⟩
      · rw [show (128 : Int32) = nI 128 from rfl, i32_lt (by omega) (by omega)] at h
        omega
      · rw [c0]
        refine ⟨fun h35 => ?_, fun h35 => ⟨fun h38 => ?_, fun h38 => ⟨fun h47 => ?_, fun h47 => ⟨fun h64 => ?_, fun h64 => ⟨fun h123 => ?_, fun h123 => ?_⟩⟩⟩⟩⟩
        · rw [z_eq (by omega) 35 (by omega)] at h35
          have e1 : lk c v (n' + 1) q' p = (numL c v q' p, 0) := by rw [el, if_pos h35]
          rw [e1] at hk
          exact c_GA_lookAtNumber Y (d + 6) w wc hx hf (by omega) hq' hp _ hk
        all_goals rw [z_eq (by omega) 35 (by omega)] at h35
        · rw [z_eq (by omega) 38 (by omega)] at h38
          have hc1 := wc.c1 hq' (by omega)
          have g1' := g1.down wc hc1.1 (by omega)
          have e1 : lk c v (n' + 1) q' p = (if (lk c v n' (q' + 1) p).1 = [] then (if v.2 0 p = 3 then (twL v p (v.2 2 p)).1 else [], (lk c v n' (q' + 1) p).2) else ((lk c v n' (q' + 1) p).1, (lk c v n' (q' + 1) p).2 + 1)) := by
            rw [el, if_neg h35, if_neg (by omega), if_neg (by omega), if_neg (by omega), if_neg (by omega), if_neg (by omega), if_pos h38]
          rw [e1] at hk
          have ll := lk_len wc w n' (q' + 1) p hc1.2 hp
          have hk5 := w.kids5 hp
          rw [nI_s1, nI_s1]
          refine CJ.mono (ih n' (by omega) (q' + 1) p base' (dp + 1) g1' (by omega) σ L wt _ (by have := UB_mono (base := base') (show q' ≤ q' + 1 by omega); omega) hx hf (fun σ1 a1 a2 => ?_)) (by omega)
          have hx1 := hx.kept a2
          rw [hf.1]
          refine c_GA_twins Y (d + 1) w hx1 a1 hp (by rw [List.length_append]; omega) _ (fun σ2 b1 b2 => hk σ2 ?_ (a2.trans b2))
          by_cases z : (lk c v n' (q' + 1) p).1 = []
          · rw [if_pos z] at b1 ⊢
            rw [if_pos z] at b1
            exact b1
          · rw [if_neg z] at b1 ⊢
            rw [if_neg z] at b1
            exact b1
        all_goals rw [z_eq (by omega) 38 (by omega)] at h38
        · rw [z_eq (by omega) 47 (by omega)] at h47
          have hc1 := wc.c1 hq' (by omega)
          have hc2 := wc.c2 hq' h47
          have hs1 := (wc.2.2.2.2.1 (q' + 1) hc1.2).1
          have g1' := g1.down wc hc1.1 (by omega)
          have g1'' := g1.down wc hc2.1 (by omega)
          have e1 : lk c v (n' + 1) q' p = (if (lk c v n' (q' + 1) p).1 = [] then lk c v n' (q' + 1) p else if (lk c v n' (q' + 1 + cF c 3 (q' + 1)) p).1.length < (lk c v n' (q' + 1) p).1.length then lk c v n' (q' + 1 + cF c 3 (q' + 1)) p else lk c v n' (q' + 1) p) := by
            rw [el, if_neg h35, if_neg (by omega), if_neg (by omega), if_neg (by omega), if_neg (by omega), if_neg (by omega), if_neg h38, if_pos h47]
          rw [e1] at hk
          have ll := lk_len wc w n' (q' + 1) p hc1.2 hp
          have ll2 := lk_len wc w n' (q' + 1 + cF c 3 (q' + 1)) p hc2.2 hp
          have slv := sp_lev w (p + 1) p (by omega) hp
          have hlv := g1.2.2.1
          rw [nI_s1, nI_s1]
          refine CJ.mono (ih n' (by omega) (q' + 1) p base' (dp + 1) g1' (by omega) σ L wt _ (by have := UB_mono (base := base') (show q' ≤ q' + 1 by omega); omega) hx hf (fun σ1 a1 a2 => ?_)) (by omega)
          have hx1 := hx.kept a2
          have la : (L ++ (lk c v n' (q' + 1) p).1).length = L.length + (lk c v n' (q' + 1) p).1.length := List.length_append
          refine ⟨fun h => hk σ1 ?_ a2, fun h => ?_⟩
          · rw [hf.1, a1.1, i32_lt (by omega) (by omega)] at h
            have z : (lk c v n' (q' + 1) p).1 = [] := List.eq_nil_of_length_eq_zero (by omega)
            rw [if_pos z]
            exact a1
          · rw [hf.1, a1.1, i32_lt (by omega) (by omega)] at h
            have z : (lk c v n' (q' + 1) p).1 ≠ [] := by
              intro z
              rw [z, List.append_nil] at h
              omega
            rw [if_neg z] at hk
            rw [show rd σ1 (15 + 5) 24 (nI (q' + 1)) = nI (cF c 3 (q' + 1)) from hx1.rdc wc (f := 3) (by omega) hc1.2 rfl, nI_add]
            have hu2 := UB_two (base := base') (show q' + 2 ≤ q' + 1 + cF c 3 (q' + 1) by omega)
            refine CJ.mono (ih n' (by omega) (q' + 1 + cF c 3 (q' + 1)) p base' (dp + 1) g1'' (by omega) σ1 _ _ _ (by rw [la]; omega) hx1 a1 (fun σ2 b1 b2 => ?_)) (by omega)
            rw [hf.1, hf.2.1, a1.1, a1.2.1]
            refine c_GA_keepFewer Y (d + 6) b1 (by
              rw [List.length_append, la]
              have := UB_max hb4' (show q' + 1 + cF c 3 (q' + 1) < 24 by omega)
              omega) _ (fun σ3 d1 d2 => hk σ3 ?_ (a2.trans (b2.trans d2)))
            by_cases z2 : (lk c v n' (q' + 1 + cF c 3 (q' + 1)) p).1.length < (lk c v n' (q' + 1) p).1.length
            · rw [if_pos z2] at d1 ⊢
              rw [if_pos z2] at d1
              exact d1
            · rw [if_neg z2] at d1 ⊢
              rw [if_neg z2] at d1
              exact d1
        all_goals rw [z_eq (by omega) 47 (by omega)] at h47
        · rw [z_eq (by omega) 64 (by omega)] at h64
          have hc1 := wc.c1 hq' (by omega)
          have e1 : lk c v (n' + 1) q' p = (if v.2 0 p = 3 then (lenL c v q' p ++ (foldR (fun k => lk c v n' (q' + 1) (kch v p k)) (v.2 2 p)).1, (foldR (fun k => lk c v n' (q' + 1) (kch v p k)) (v.2 2 p)).2) else ([100 * v.2 5 p + 10], 0)) := by
            rw [el, if_neg h35, if_neg (by omega), if_neg (by omega), if_neg (by omega), if_neg (by omega), if_pos h64]
          rw [e1] at hk
          refine c_GA_list Y (d + 6) tr w wc hU' hq' hp (by omega) (fun k => lk c v n' (q' + 1) (kch v p k)) (fun j hj => lk_len wc w n' _ _ hc1.2 (w.kchlt hp hj).2) (fun j hj => ?_) hx hf (by omega) _ hk
          have hlc := ((w.2.2.2.2.2.2.2 p hp).2.2.2.2.2.2 j hj).2.2.2
          have hlc4 := (w.2.2.2.2.2.2.2 _ (w.kchlt hp hj).2).2.2.2.2.2.1
          have := ih n' (by omega) (q' + 1) (kch v p j) base' (dp + 1) (g1.into wc w hc1.1 hj) (by omega)
          intro σ1 L1 wt1 k1 u1 u2 u3 u4
          exact CJ.mono (this σ1 L1 wt1 k1 (by have := UB_mono (base := base') (show q' ≤ q' + 1 by omega); omega) u2 u3 u4) (by omega)
        all_goals rw [z_eq (by omega) 64 (by omega)] at h64
        · rw [z_eq (by omega) 123 (by omega)] at h123
          have e1 : lk c v (n' + 1) q' p = (if v.2 0 p = 2 then recR c v q' p (lk c v n') else ([100 * v.2 5 p + 5], 0)) := by
            rw [el, if_neg h35, if_neg (by omega), if_neg (by omega), if_neg (by omega), if_pos h123]
          rw [e1] at hk
          refine c_GA_record Y d tr w wc hU' hq' h123 hp (by omega) (lk c v n') (fun r x hr hx => lk_len wc w n' r x hr hx) (fun r x hr hx => okF_lk wc w n' r x hr hx) (fun _ i j hi hj => ?_) hx hf (by omega) _ hk
          have hg := ch_gt (cF c 3) q' i
          have hg : q' < cch c q' i := hg
          have hlc := ((w.2.2.2.2.2.2.2 p hp).2.2.2.2.2.2 j hj).2.2.2
          have hlc4 := (w.2.2.2.2.2.2.2 _ (w.kchlt hp hj).2).2.2.2.2.2.1
          have := ih n' (by omega) (cch c q' i) (kch v p j) base' (dp + 1) (g1.into wc w hi hj) (by omega)
          intro σ1 L1 wt1 k1 u1 u2 u3 u4
          exact CJ.mono (this σ1 L1 wt1 k1 (by have := UB_mono (base := base') (show q' ≤ cch c q' i by omega); omega) u2 u3 u4) (by omega)
        · rw [z_eq (by omega) 123 (by omega)] at h123
          have e1 : lk c v (n' + 1) q' p = ([], 0) := by
            rw [el, if_neg h35, if_neg (by omega), if_neg (by omega), if_neg (by omega), if_neg h123, if_neg h64, if_neg h38, if_neg h47]
          rw [e1, List.append_nil] at hk
          exact hk σ hf (xK.refl σ)
/-- the faults of a value by a check, and how many wait -/
noncomputable def fl (c : CT) (v : VT) : List Nat × Nat := lk c v 120 0 0
theorem fl_len {c : CT} (wc : WFC c) {v : VT} (w : WFV v) : (fl c v).1.length ≤ 120 := by
  have h1 := wc.1
  have h2 := w.1
  have h3 := w.2.1
  have := lk_len wc w 120 0 0 (by omega) (by omega)
  have := w.sp20 (show 0 < v.1 by omega)
  unfold fl
  omega
theorem fl_ok {c : CT} (wc : WFC c) {v : VT} (w : WFV v) : okF (fl c v).1 := okF_lk wc w 120 0 0 (by have := wc.1; omega) (by have := w.1; omega)
theorem c_GA_gather (Y : List kd) (tr : Nat) {v : VT} (w : WFV v) {c : CT} (wc : WFC c) {σ : sS} (ht : tr + 7 ≤ 15) (hY : Y[tr]? = some (.inl 3)) (hv : XV σ tr v) (hc : XC σ 16 c) (k : Int32 → sS → Prop) (hk : ∀ σ', FX σ' (fl c v).1 (fl c v).2 → (∀ x, x ≠ 15 → x ≠ 37 → σ' x = σ x) → k (nI (fl c v).1.length) σ') : CJ Y 141 y_GA_gather [sR 15 (.inl 1), sR tr (.inl 3)] σ (rI k) := by
  have h1 := wc.1
  have h2 := w.1
  refine s_GA_gather_0 Y 140 15 tr σ (rI k) ?_
  have hin : InC c v 120 0 0 0 := ⟨by omega, by omega, by rw [wc.2.2.2.2.2.2.1]; omega, by omega⟩
  have hlv : v.2 6 0 = 0 := w.2.2.2.2.2.1
  have := c_GA_look Y tr w wc 120 0 0 0 0 hin (Nat.zero_le _)
  rw [hlv] at this
  refine this _ [] 0 _ ?_ ⟨?_, ht, hY, ?_, ?_⟩ ⟨?_, ?_, fun i x hx => ?_⟩ (fun σ1 a1 a2 => ?_)
  · have := w.sp20 (show 0 < v.1 by omega)
    show 0 + 6 * v.2 4 0 ≤ 120
    omega
  · rw [up_other _ _ (Or.inr (by omega)), up_other _ _ (Or.inr (by omega)), up_self]
  · exact hv.kept (fun x q1 q2 => by rw [up_cell _ _ (by omega), up_cell _ _ (by omega), up_cell _ _ (by omega)])
  · exact hc.kept (fun x q1 q2 => by rw [up_cell _ _ (by omega), up_cell _ _ (by omega), up_cell _ _ (by omega)])
  · rw [up_other _ _ (Or.inr (by omega)), up_self]; rfl
  · rw [up_self]; rfl
  · simp at hx
  · rw [List.nil_append, Nat.zero_add] at a1
    have e3 : σ1 15 3 = nI (fl c v).1.length := a1.1
    rw [e3]
    refine hk σ1 a1 (fun x q1 q2 => ?_)
    rw [a2.1 x q1 q2, up_cell _ _ q1, up_cell _ _ q1, up_cell _ _ q1]
