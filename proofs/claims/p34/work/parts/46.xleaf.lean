/-! the class's Gatherer: numbers, strangers, dependent ones, twins, the fewer -/
theorem GX.rdv {Y : List kd} {σ : sS} {tr : Nat} {v : VT} {c : CT} (h : GX Y σ tr v c) (w : WFV v) {f p a : Nat} (hf : f < 6) (hp : p < v.1) (ha : a = tr + 1 + f) : rd σ a 20 (nI p) = nI (v.2 f p) := h.2.2.2.1.rd w.2.1 hf hp ha
theorem GX.rdc {Y : List kd} {σ : sS} {tr : Nat} {v : VT} {c : CT} (h : GX Y σ tr v c) (wc : WFC c) {f q a : Nat} (hf : f < 10) (hq : q < cM c) (ha : a = 17 + f) : rd σ a 24 (nI q) = nI (cF c f q) := h.2.2.2.2.ra wc hf hq ha
theorem GX.rdd {Y : List kd} {σ : sS} {tr : Nat} {v : VT} {c : CT} (h : GX Y σ tr v c) (wc : WFC c) {f u a : Nat} (hf : f < 3) (hu : u < cW c) (ha : a = 27 + f) : rd σ a 32 (nI u) = nI (cD c f u) := h.2.2.2.2.rb wc hf hu ha
theorem c_GA_lookAtNumber (Y : List kd) (d : Nat) {v : VT} (w : WFV v) {c : CT} (wc : WFC c) {σ : sS} {tr : Nat} (hx : GX Y σ tr v c) {L : List Nat} {wt : Nat} (hf : FX σ L wt) (hl : L.length < 6144) {q p : Nat} (hq : q < cM c) (hp : p < v.1) (k : sS → Prop) (hk : ∀ σ', FX σ' (L ++ numL c v q p) wt → xK σ σ' → k σ') : CJ Y (d + 2) y_GA_lookAtNumber [sR 15 (.inl 1), sI (nI q), sI (nI p)] σ (rN k) := by
  have kd := w.2.2.2.2.2.2.2 p hp
  have cq := wc.2.2.2.2.2.2.2.1 q hq
  have r0 : rd σ (tr + 1) 20 (nI p) = nI (v.2 0 p) := hx.rdv w (f := 0) (by omega) hp rfl
  have r1 : rd σ (tr + 2) 20 (nI p) = nI (v.2 1 p) := hx.rdv w (f := 1) (by omega) hp rfl
  have r5 : rd σ (tr + 6) 20 (nI p) = nI (v.2 5 p) := hx.rdv w (f := 5) (by omega) hp rfl
  have c1 : rd σ (15 + 3) 24 (nI q) = nI (cF c 1 q) := hx.rdc wc (f := 1) (by omega) hq rfl
  have c2 : rd σ (15 + 4) 24 (nI q) = nI (cF c 2 q) := hx.rdc wc (f := 2) (by omega) hq rfl
  have nb : v.2 1 p ≤ 99 := by
    by_cases z : v.2 0 p = 0
    · exact kd.2.1 z
    · rw [kd.2.2.1 z]; omega
  have hnum : ∀ M, numL c v q p = M → (∀ σ', FX σ' (L ++ M) wt → xK σ σ' → k σ') := fun M e σ' h1 h2 => hk σ' (by rw [e]; exact h1) h2
  refine s_GA_lookAtNumber_0 Y (d + 1) 15 _ _ σ (rN k) ⟨hx.ref, hx.ref, hx.ref, ?_⟩
  rw [hx.tr, r0, r1, r5, c1, c2, i32_lt (by omega) (by omega), i32_lt (by omega) (by omega)]
  refine ⟨fun he => ?_, fun hne => ?_⟩
  · rw [z_eq (by omega) 0 (by omega)] at he
    refine ⟨fun h1 => ⟨fun h2 => ?_, fun h2 => ?_⟩, fun h1 => ?_⟩
    · have := hnum [] (by unfold numL; rw [if_neg (by omega), if_neg h1, if_neg h2]) σ
      rw [List.append_nil] at this
      exact this hf (xK.refl σ)
    · exact c_GA_add Y d hf hl (v.2 5 p) 3 _ (hnum _ (by unfold numL; rw [if_neg (by omega), if_neg h1, if_pos h2]))
    · exact c_GA_add Y d hf hl (v.2 5 p) 2 _ (hnum _ (by unfold numL; rw [if_neg (by omega), if_pos h1]))
  · rw [z_eq (by omega) 0 (by omega)] at hne
    exact c_GA_add Y d hf hl (v.2 5 p) 1 _ (hnum _ (by unfold numL; rw [if_pos hne]))
theorem c_GA_strangers (Y : List kd) (d : Nat) {v : VT} (w : WFV v) {c : CT} (wc : WFC c) {σ : sS} {tr : Nat} (hx : GX Y σ tr v c) {L : List Nat} {wt : Nat} (hf : FX σ L wt) {q p : Nat} (hq : q < cM c) (hs : cF c 0 q = 123) (hp : p < v.1) (h2 : v.2 0 p = 2) (hl : L.length + v.2 2 p < 6144) (k : sS → Prop) (hk : ∀ σ', FX σ' (L ++ (strL c v q p (v.2 2 p)).1) wt → xK σ σ' → k σ') : CJ Y (d + 2) y_GA_lookForStrangers [sR 15 (.inl 1), sI (nI q), sI (nI p)] σ (rN k) := by
  have h20 := w.2.1
  have hk5 := w.kids5 hp
  refine s_GA_lookForStrangers_0 Y (d + 1) 15 _ _ σ (rN k) ⟨hx.ref, ?_⟩
  rw [hx.tr, show rd σ (tr + 3) 20 (nI p) = nI (v.2 2 p) from hx.rdv w (f := 2) (by omega) hp rfl, nI_s1]
  have key : ∀ m i, i + m = v.2 2 p → ∀ τ : sS, FX τ (L ++ (strL c v q p i).1) wt → xK σ τ → (strL c v q p i).1.length ≤ i → Jd Y (d + 1 + 1) y_GA_lookForStrangers 20 [(0, sR 15 (.inl 1)), (1, sI (nI q)), (3, sI (nI (v.2 2 p))), (4, sI (nI (kch v p i))), (5, sI (nI i))] [] τ (rN k) := by
    intro m
    induction m with
    | zero =>
      intro i hi τ t1 t2 t3
      have : i = v.2 2 p := by omega
      subst this
      refine s_GA_lookForStrangers_20 Y (d + 1) 15 _ _ _ _ τ (rN k) ⟨fun _ => hk τ t1 t2, fun h => ?_⟩
      rw [i32_lt (by omega) (by omega)] at h
      omega
    | succ m ih =>
      intro i hi τ t1 t2 t3
      have hx' := hx.kept t2
      have hiK : i < v.2 2 p := by omega
      have hc := w.kchlt hp hiK
      have hd := ((w.2.2.2.2.2.2.2 p hp).2.2.2.2.2.2 i hiK).2.1 h2
      have e3 : rd τ (tr + 4) 20 (nI (kch v p i)) = nI (v.2 3 (kch v p i)) := hx'.rdv w (f := 3) (by omega) hc.2 rfl
      have e5 : rd τ (tr + 6) 20 (nI (kch v p i)) = nI (v.2 5 (kch v p i)) := hx'.rdv w (f := 5) (by omega) hc.2 rfl
      have nx : ∀ τ' : sS, FX τ' (L ++ (strL c v q p (i + 1)).1) wt → xK τ τ' → (strL c v q p (i + 1)).1.length ≤ i + 1 → Jd Y (d + 1 + 1) y_GA_lookForStrangers 67 [(0, sR 15 (.inl 1)), (1, sI (nI q)), (3, sI (nI (v.2 2 p))), (4, sI (nI (kch v p i))), (5, sI (nI i))] [] τ' (rN k) := by
        intro τ' u1 u2 u3
        have hx2 := hx'.kept u2
        refine s_GA_lookForStrangers_67 Y (d + 1) 15 _ _ _ _ τ' (rN k) ⟨hx2.ref, ?_⟩
        rw [hx2.tr, show rd τ' (tr + 5) 20 (nI (kch v p i)) = nI (v.2 4 (kch v p i)) from hx2.rdv w (f := 4) (by omega) hc.2 rfl, nI_add, nI_s1]
        exact ih (i + 1) (by omega) τ' u1 (t2.trans u2) u3
      have es : strL c v q p (i + 1) = ((strL c v q p i).1 ++ (if kno c q (v.2 3 (kch v p i)) then ([], 0) else ([100 * v.2 5 (kch v p i) + 7], 0) : List Nat × Nat).1, (strL c v q p i).2 + (if kno c q (v.2 3 (kch v p i)) then ([], 0) else ([100 * v.2 5 (kch v p i) + 7], 0) : List Nat × Nat).2) := rfl
      refine s_GA_lookForStrangers_20 Y (d + 1) 15 _ _ _ _ τ (rN k) ⟨fun h => ?_, fun _ => ⟨hx'.ref, ?_⟩⟩
      · rw [i32_lt (by omega) (by omega)] at h
        omega
      · rw [hx'.tr, e3]
        refine c_PL_knows Y d 16 wc hx'.2.2.2.2 hq hs hd.1 hd.2.1 _ ?_
        cases hkn : kno c q (v.2 3 (kch v p i)) with
        | true =>
          rw [hkn] at es
          refine ⟨fun _ => nx τ ?_ (xK.refl τ) ?_, fun h => absurd h (by decide)⟩
          · rw [es]
            show FX τ (L ++ ((strL c v q p i).1 ++ [])) wt
            rw [List.append_nil]
            exact t1
          · rw [es]
            show ((strL c v q p i).1 ++ []).length ≤ i + 1
            rw [List.append_nil]
            omega
        | false =>
          rw [hkn] at es
          refine ⟨fun h => absurd rfl h, fun _ => ⟨hx'.ref, ?_⟩⟩
          rw [hx'.tr, e5]
          refine c_GA_add Y d t1 ?_ (v.2 5 (kch v p i)) 7 _ (fun τ' u1 u2 => nx τ' ?_ u2 ?_)
          · rw [List.length_append]; omega
          · rw [es, ← List.append_assoc]; exact u1
          · rw [es]
            show ((strL c v q p i).1 ++ [_]).length ≤ i + 1
            rw [List.length_append]
            show _ + 1 ≤ i + 1
            omega
  refine key (v.2 2 p) 0 (by omega) σ ?_ (xK.refl σ) (Nat.le_refl _)
  show FX σ (L ++ []) wt
  rw [List.append_nil]
  exact hf
theorem childV_some {v : VT} {p d x : Nat} (h : kidO v p d = some x) : childV v p (nI d) = nI x := by
  unfold kidO at h
  unfold childV
  split at h
  · rename_i z
    rw [if_pos z, Option.some.inj h]
  · cases h
theorem childV_none {v : VT} {p d : Nat} (h : kidO v p d = none) : childV v p (nI d) = -1 := by
  unfold kidO at h
  unfold childV
  split at h
  · cases h
  · rename_i z
    rw [if_neg z]
theorem lt_0_iff {n : Nat} (h : n < 2 ^ 31) : (0 : Int32) < nI n ↔ 0 < n := by rw [show (0 : Int32) = nI 0 from rfl]; exact i32_lt (by omega) h
theorem c_GA_dependent (Y : List kd) (d : Nat) {v : VT} (w : WFV v) {c : CT} (wc : WFC c) {σ : sS} {tr : Nat} (hx : GX Y σ tr v c) {L : List Nat} {s : List Nat × Nat} {wt : Nat} (hf : FX σ (L ++ s.1) (wt + s.2)) {u p : Nat} (hu : u < cW c) (hp : p < v.1) (hl : (L ++ s.1).length < 6144) (hok : okF s.1) (k : sS → Prop) (hk : ∀ σ', FX σ' (L ++ (dep1 c v p s u).1) (wt + (dep1 c v p s u).2) → xK σ σ' → k σ') : CJ Y (d + 7) y_GA_lookAtDependent [sR 15 (.inl 1), sI (nI u), sI (nI p), sI (nI L.length)] σ (rN k) := by
  have h20 := w.2.1
  obtain ⟨g0, g1, g2, g3, g4, -⟩ := wc.2.2.2.2.2.2.2.2.2.1 u hu
  have hv := hx.2.2.2.1
  have r1 : rd σ (15 + 13) 32 (nI u) = nI (cD c 1 u) := hx.rdd wc (f := 1) (by omega) hu rfl
  have r2 : rd σ (15 + 14) 32 (nI u) = nI (cD c 2 u) := hx.rdd wc (f := 2) (by omega) hu rfl
  have r0 : rd σ (15 + 12) 32 (nI u) = nI (cD c 0 u) := hx.rdd wc (f := 0) (by omega) hu rfl
  have hw : dep1 c v p s u = (s.1, s.2 + 1) → Jd Y (d + 6 + 1) y_GA_lookAtDependent 92 [(0, sR 15 (.inl 1))] [] σ (rN k) := by
    intro e
    refine s_GA_lookAtDependent_92 Y (d + 6) 15 σ (rN k) ?_
    rw [hf.2.1, nI_s1]
    obtain ⟨a, b⟩ := hf.wait
    refine hk _ ?_ b
    rw [e]
    exact a
  refine s_GA_lookAtDependent_0 Y (d + 6) 15 _ _ _ σ (rN k) ⟨hx.ref, ?_⟩
  rw [hx.tr, r1]
  refine c_TR_child Y (d + 5) tr w hv hp _ _ ⟨hx.ref, ?_⟩
  rw [hx.tr, r2]
  refine c_TR_child Y (d + 5) tr w hv hp _ _ ?_
  cases ha : kidO v p (cD c 1 u) with
  | none =>
    rw [childV_none ha]
    exact ⟨fun _ => hw (by unfold dep1; rw [ha]), fun h => absurd (by decide) h⟩
  | some a =>
    rw [childV_some ha]
    obtain ⟨ka, hka, rfl, -⟩ := kidO_nI w hp ha
    have hca := w.kchlt hp hka
    refine ⟨fun h => absurd h (nI_pos (by omega)), fun _ => ?_⟩
    cases hb : kidO v p (cD c 2 u) with
    | none =>
      rw [childV_none hb]
      exact ⟨fun _ => hw (by unfold dep1; rw [ha, hb]), fun h => absurd (by decide) h⟩
    | some b =>
      rw [childV_some hb]
      obtain ⟨kb, hkb, rfl, -⟩ := kidO_nI w hp hb
      have hcb := w.kchlt hp hkb
      have ra4 := w.road4 hca.2
      have rb4 := w.road4 hcb.2
      have e6a : rd σ (tr + 6) 20 (nI (kch v p ka)) = nI (v.2 5 (kch v p ka)) := hx.rdv w (f := 5) (by omega) hca.2 rfl
      have e6b : rd σ (tr + 6) 20 (nI (kch v p kb)) = nI (v.2 5 (kch v p kb)) := hx.rdv w (f := 5) (by omega) hcb.2 rfl
      have cla := cB_le s.1 (v.2 5 (kch v p ka))
      have clb := cB_le s.1 (v.2 5 (kch v p kb))
      have hl' : s.1.length < 6144 := by rw [List.length_append] at hl; omega
      refine ⟨fun h => absurd h (nI_pos (by omega)), fun _ => ⟨hx.ref, ?_⟩⟩
      rw [hx.tr, e6a]
      refine c_GA_countBelow Y (d + 5) hf (by omega) hok _ (by omega) _ ?_
      refine ⟨fun h => ?_, fun h => ⟨hx.ref, ?_⟩⟩
      · rw [lt_0_iff (by omega), cB_any] at h
        exact hw (by unfold dep1; rw [ha, hb]; simp only [h, Bool.true_or, if_true])
      · rw [lt_0_iff (by omega), cB_any] at h
        have h : anyB s.1 (v.2 5 (kch v p ka)) = false := by simpa using h
        rw [hx.tr, e6b]
        refine c_GA_countBelow Y (d + 5) hf (by omega) hok _ (by omega) _ ?_
        refine ⟨fun hb0 => ?_, fun hb0 => ?_⟩
        · rw [lt_0_iff (by omega), cB_any] at hb0
          have hb1 : anyB s.1 (v.2 5 (kch v p kb)) = false := by simpa using hb0
          have ed : dep1 c v p s u = if cD c 0 u = 60 then (if pB (lessV v (kch v p ka) (kch v p kb)) then s else (s.1 ++ [100 * v.2 5 (kch v p kb) + 8], s.2)) else (if pB (sameV v (kch v p ka) (kch v p kb)) then s else (s.1 ++ [100 * v.2 5 (kch v p kb) + 9], s.2)) := by
            unfold dep1
            rw [ha, hb]
            simp only [h, hb1, Bool.or_false]
            rfl
          refine ⟨fun hne => ⟨hx.ref, ?_⟩, fun he => ⟨hx.ref, ?_⟩⟩
          · rw [r0, z_eq (by omega) 60 (by omega)] at hne
            rw [hx.tr]
            rw [if_neg hne] at ed
            have lva := (w.2.2.2.2.2.2.2 _ hca.2).2.2.2.2.2.1
            have lka := ((w.2.2.2.2.2.2.2 p hp).2.2.2.2.2.2 ka hka).2.2.2
            refine CJ.mono (c_TR_alike Y d tr w hv 4 _ _ (by omega) hca.2 hcb.2 _ (fun hs => ?_) (fun hs => ?_)) (by omega)
            · refine ⟨fun _ => hk σ ?_ (xK.refl σ), fun z => absurd z (by decide)⟩
              rw [ed, pB_t hs]
              exact hf
            · refine ⟨fun z => absurd rfl z, fun _ => ⟨hx.ref, ?_⟩⟩
              rw [hx.tr, e6b]
              refine c_GA_add Y (d + 5) hf hl _ 9 _ (fun σ' q1 q2 => hk σ' ?_ q2)
              rw [ed, pB_f hs]
              show FX σ' (L ++ (s.1 ++ _)) (wt + s.2)
              rw [← List.append_assoc]
              exact q1
          · rw [r0, z_eq (by omega) 60 (by omega)] at he
            rw [hx.tr]
            rw [if_pos he] at ed
            refine c_TR_less Y (d + 5) tr w hv hca.2 hcb.2 _ (fun hs => ?_) (fun hs => ?_)
            · refine ⟨fun _ => hk σ ?_ (xK.refl σ), fun z => absurd z (by decide)⟩
              rw [ed, pB_t hs]
              exact hf
            · refine ⟨fun z => absurd rfl z, fun _ => ⟨hx.ref, ?_⟩⟩
              rw [hx.tr, e6b]
              refine c_GA_add Y (d + 5) hf hl _ 8 _ (fun σ' q1 q2 => hk σ' ?_ q2)
              rw [ed, pB_f hs]
              show FX σ' (L ++ (s.1 ++ _)) (wt + s.2)
              rw [← List.append_assoc]
              exact q1
        · rw [lt_0_iff (by omega), cB_any] at hb0
          exact hw (by unfold dep1; rw [ha, hb]; simp only [hb0, Bool.or_true, if_true])
