/-! the reference: looking twice, at either; all -/
theorem run_again (Y : List kd) (d : Nat) {v : VT} (w : WFV v) {c : CT} (wc : WFC c) {q p D U : Nat} (hU : U ≤ 6060) (hq : q < cM c) (hs : cF c 0 q = 38) (hp : p < v.1) (hD : D < 399) (a : List Nat × Nat) (ha : a.1.length ≤ 6 * v.2 4 p) (hlook : RnM Y d c v (q + 1) p (D + 1) U a) : RnM Y d c v q p D U (if a.1 = [] then (if v.2 0 p = 3 then (twL v p (v.2 2 p)).1 else [], a.2) else (a.1, a.2 + 1)) := by
  have h20 := w.2.1
  have hm := wc.2.1
  have hk5 := w.kids5 hp
  have hc1 := wc.c1 hq (by omega)
  have vp : vp_in (nI p) 21 := vinI (by omega) (by omega)
  have vq : vp_in (nI q) 25 := vinI (by omega) (by omega)
  intro σ L wt Q ht hx hf hl hk
  have step : ∀ (σ : sS) (ph : Nat), Tp σ D q p ph → GM σ v c → CJ Y (d + 5) y_MO_findsAgain [sR 0 (.inl 6), sI (nI q), sI (nI p)] σ (rN fun σ' => hdM Y d σ' Q) → hdM Y d σ Q := by
    intro σ ph ht hx h
    refine itM Y d ht (by omega) Q (c_MO_goesOn Y (d + 5) (hx.2.2.2.2.1 q hq).1 (by omega) (by omega) _ (by intro z; omega) (by intro z; omega) (fun _ => h) (by intro z; omega) (by intro z; omega) (by intro z; omega) (by intro z; omega) (by intros; omega))
  have vD0 : vp_in (σ 0 35 - 1) 400 := by rw [ht.pred]; exact vinI (by omega) (by omega)
  refine step σ 0 ht hx ?_
  refine s_MO_findsAgain_0 Y (d + 4) 0 _ _ σ _ ⟨vD0, fun h => ?_, fun _ => ⟨vD0, by rw [up_cell _ _ (by omega)]; exact vD0, vq, ?_⟩⟩
  · rw [ht.pred, cl_nI (show D < 2 ^ 31 by omega), show σ (0 + 24) D = _ from ht.2.2.2] at h
    exact absurd rfl h
  · rw [up_cell _ _ (show (0 : Nat) ≠ 0 + 24 by omega), ht.pred, cl_nI (show D < 2 ^ 31 by omega), cl_nI (show q < 2 ^ 31 by omega), show σ 0 33 = _ from hf.1]
    have m1 : mF D σ (up (up σ (0 + 24) D 1) (0 + 25) D (nI L.length)) := (mF_top σ 1 (by omega) (by omega)).trans (mF_top _ _ (by omega) (by omega))
    have x1 := hx.keptF wc m1
    have f1 : FM (up (up σ (0 + 24) D 1) (0 + 25) D (nI L.length)) L wt := (hf.top 1 (by omega) (by omega)).top _ (by omega) (by omega)
    have t35 : up (up σ (0 + 24) D 1) (0 + 25) D (nI L.length) 0 35 = nI (D + 1) := by rw [up_cell _ _ (by omega), up_cell _ _ (by omega)]; exact ht.1
    have und : up (up σ (0 + 24) D 1) (0 + 25) D (nI L.length) 22 D = nI q ∧ up (up σ (0 + 24) D 1) (0 + 25) D (nI L.length) 23 D = nI p ∧ up (up σ (0 + 24) D 1) (0 + 25) D (nI L.length) 24 D = nI 1 := ⟨by rw [up_cell _ _ (by omega), up_cell _ _ (by omega)]; exact ht.2.1, by rw [up_cell _ _ (by omega), up_cell _ _ (by omega)]; exact ht.2.2.1, by rw [up_cell _ _ (by omega)]; exact up_self σ 24 _ _⟩
    have um : up (up σ (0 + 24) D 1) (0 + 25) D (nI L.length) 25 D = nI L.length := up_self _ 25 _ _
    have e10 : up (up σ (0 + 24) D 1) (0 + 25) D (nI L.length) (0 + 10) q = nI (q + 1) := (x1.2.2.2.2.1 q hq).2.2.2.1 (by omega) hc1.1
    rw [e10]
    refine c_MO_looks Y (d + 4) t35 (by omega) _ _ _ (fun σ2 a1 a2 a3 a4 => ?_)
    refine hlook σ2 L wt Q a1 (x1.keptF wc a2) (f1.far a3 a4) hl (fun σ3 b1 b2 b3 => ?_)
    have T3 : Tp σ3 D q p 1 := Tp.under und (a2.trans b2) b3
    have M3 : σ3 25 D = nI L.length := by rw [(a2.trans b2).2.2 25 D (by omega) (by omega) (by omega)]; exact um
    have G3 : GM σ3 v c := (x1.keptF wc a2).keptF wc b2
    have K3 : mF D σ σ3 := m1.trans ((a2.trans b2).less (by omega))
    have vD3 : vp_in (σ3 0 35 - 1) 400 := by rw [T3.pred]; exact vinI (by omega) (by omega)
    have la : (L ++ a.1).length = L.length + a.1.length := List.length_append
    refine step σ3 1 T3 G3 ?_
    refine s_MO_findsAgain_0 Y (d + 4) 0 _ _ σ3 _ ⟨vD3, fun _ => ⟨by rw [up_self]; exact vD3, ?_⟩, fun h => ?_⟩
    · rw [up_self, T3.pred, cl_nI (show D < 2 ^ 31 by omega)]
      have e25 : up σ3 0 35 (nI D) (0 + 25) D = nI L.length := by rw [up_cell _ _ (by omega)]; exact M3
      have e33 : up σ3 0 35 (nI D) 0 33 = nI (L ++ a.1).length := by rw [up_other _ _ (Or.inr (by omega))]; exact b1.1
      rw [e25, e33, i32_lt (by omega) (by omega)]
      have G4 : GM (up σ3 0 35 (nI D)) v c := G3.keptF wc (mF_pop D σ3 _)
      have F4 := b1.pop (nI D)
      refine ⟨fun h => ?_, fun h => ?_⟩
      · have z : a.1 = [] := List.eq_nil_of_length_eq_zero (by omega)
        rw [if_pos z] at hk
        rw [z, List.append_nil] at F4
        refine c_MO_twins Y (d + 1) w wc G4 F4 hp (by omega) _ (fun σ5 d1 d2 => hk σ5 d1 (K3.trans ((mF_pop D σ3 _).trans (d2.mF D))) ?_)
        rw [d2.2 35 (by omega) (by omega)]
        exact up_self _ _ _ _
      · have z : a.1 ≠ [] := by
          intro z
          rw [z, List.append_nil] at h
          omega
        rw [if_neg z] at hk
        obtain ⟨w1, w2⟩ := F4.wait
        have e34 : up σ3 0 35 (nI D) 0 34 + 1 = nI (wt + a.2 + 1) := by rw [F4.2.1, nI_s1]
        rw [e34]
        exact hk _ w1 (K3.trans ((mF_pop D σ3 _).trans (w2.mF D))) (by rw [up_other _ _ (Or.inr (by omega))]; exact up_self _ _ _ _)
    · rw [T3.pred, cl_nI (show D < 2 ^ 31 by omega), show σ3 (0 + 24) D = _ from T3.2.2.2] at h
      exact absurd h (by decide)
theorem run_either (Y : List kd) (d : Nat) {v : VT} (w : WFV v) {c : CT} (wc : WFC c) {q p D U : Nat} (hU : U ≤ 6060) (hq : q < cM c) (hs : cF c 0 q = 47) (hp : p < v.1) (hD : D < 399) (a b : List Nat × Nat) (ha : a.1.length ≤ 6 * v.2 4 p) (hb : b.1.length ≤ 6 * v.2 4 p) {U2 : Nat} (hU2 : U + 6 * v.2 4 p ≤ U2) (hU3 : U2 ≤ 6060) (hlook : RnM Y d c v (q + 1) p (D + 1) U a) (hlook2 : RnM Y d c v (q + 1 + cF c 3 (q + 1)) p (D + 1) U2 b) : RnM Y d c v q p D U (if a.1 = [] then a else if b.1.length < a.1.length then b else a) := by
  have h20 := w.2.1
  have hm := wc.2.1
  have hc1 := wc.c1 hq (by omega)
  have vq : vp_in (nI q) 25 := vinI (by omega) (by omega)
  intro σ L wt Q ht hx hf hl hk
  have step : ∀ (σ : sS) (ph : Nat), Tp σ D q p ph → GM σ v c → CJ Y (d + 5) y_MO_findsEither [sR 0 (.inl 6), sI (nI q), sI (nI p)] σ (rN fun σ' => hdM Y d σ' Q) → hdM Y d σ Q := by
    intro σ ph ht hx h
    refine itM Y d ht (by omega) Q (c_MO_goesOn Y (d + 5) (hx.2.2.2.2.1 q hq).1 (by omega) (by omega) _ (by intro z; omega) (by intro z; omega) (by intro z; omega) (fun _ => h) (by intro z; omega) (by intro z; omega) (by intro z; omega) (by intros; omega))
  have cD : Int32.toNatClampNeg (nI D) = D := cl_nI (by omega)
  have cq : Int32.toNatClampNeg (nI q) = q := cl_nI (by omega)
  have vD0 : vp_in (σ 0 35 - 1) 400 := by rw [ht.pred]; exact vinI (by omega) (by omega)
  refine step σ 0 ht hx ?_
  have e0 : ∀ (τ : sS) (j k : Nat) (x : Int32), up τ (0 + 24) j x 0 k = τ 0 k := fun τ j k x => by rw [up_cell _ _ (by omega)]
  have e1 : ∀ (τ : sS) (j k : Nat) (x : Int32), up τ (0 + 25) j x 0 k = τ 0 k := fun τ j k x => by rw [up_cell _ _ (by omega)]
  have e2 : ∀ (τ : sS) (j k : Nat) (x : Int32), up τ (0 + 27) j x 0 k = τ 0 k := fun τ j k x => by rw [up_cell _ _ (by omega)]
  refine s_MO_findsEither_0 Y (d + 4) 0 _ _ σ _ ⟨vD0, vD0, vD0, fun h => ?_, fun _ => ⟨by rw [e0]; exact vD0, by rw [e1, e0]; exact vD0, vq, ?_⟩⟩
  · rw [ht.pred, cD, show σ (0 + 24) D = _ from ht.2.2.2] at h
    exact absurd rfl h
  · simp only [e0, e1, ht.pred, cD, cq]
    rw [show σ (0 + 24) D = _ from ht.2.2.2, nI_s1, show σ 0 33 = _ from hf.1, show σ 0 34 = _ from hf.2.1]
    obtain ⟨τ, hτ⟩ : ∃ τ, τ = up (up (up σ (0 + 24) D (nI (0 + 1))) (0 + 25) D (nI L.length)) (0 + 26) D (nI wt) := ⟨_, rfl⟩
    rw [← hτ]
    have m1 : mF D σ τ := by rw [hτ]; exact ((mF_top σ _ (by omega) (by omega)).trans (mF_top _ _ (by omega) (by omega))).trans (mF_top _ _ (by omega) (by omega))
    have x1 := hx.keptF wc m1
    have f1 : FM τ L wt := by rw [hτ]; exact ((hf.top _ (by omega) (by omega)).top _ (by omega) (by omega)).top _ (by omega) (by omega)
    have t35 : τ 0 35 = nI (D + 1) := by rw [hτ, up_cell _ _ (by omega), up_cell _ _ (by omega), up_cell _ _ (by omega)]; exact ht.1
    have und : τ 22 D = nI q ∧ τ 23 D = nI p ∧ τ 24 D = nI 1 := ⟨by rw [hτ, up_cell _ _ (by omega), up_cell _ _ (by omega), up_cell _ _ (by omega)]; exact ht.2.1, by rw [hτ, up_cell _ _ (by omega), up_cell _ _ (by omega), up_cell _ _ (by omega)]; exact ht.2.2.1, by rw [hτ, up_cell _ _ (by omega), up_cell _ _ (by omega)]; exact up_self σ 24 _ _⟩
    have u25 : τ 25 D = nI L.length := by rw [hτ, up_cell _ _ (by omega)]; exact up_self _ 25 _ _
    have u26 : τ 26 D = nI wt := by rw [hτ]; exact up_self _ 26 _ _
    rw [show τ (0 + 10) q = _ from (x1.2.2.2.2.1 q hq).2.2.2.1 (by omega) hc1.1]
    refine c_MO_looks Y (d + 4) t35 (by omega) _ _ _ (fun σ2 a1 a2 a3 a4 => ?_)
    refine hlook σ2 L wt Q a1 (x1.keptF wc a2) (f1.far a3 a4) hl (fun σ3 b1 b2 b3 => ?_)
    have T3 : Tp σ3 D q p 1 := Tp.under und (a2.trans b2) b3
    have M3 : σ3 25 D = nI L.length := by rw [(a2.trans b2).2.2 25 D (by omega) (by omega) (by omega)]; exact u25
    have W3 : σ3 26 D = nI wt := by rw [(a2.trans b2).2.2 26 D (by omega) (by omega) (by omega)]; exact u26
    have G3 : GM σ3 v c := (x1.keptF wc a2).keptF wc b2
    have K3 : mF D σ σ3 := m1.trans ((a2.trans b2).less (by omega))
    have vD3 : vp_in (σ3 0 35 - 1) 400 := by rw [T3.pred]; exact vinI (by omega) (by omega)
    have la : (L ++ a.1).length = L.length + a.1.length := List.length_append
    refine step σ3 1 T3 G3 ?_
    refine s_MO_findsEither_0 Y (d + 4) 0 _ _ σ3 _ ⟨vD3, vD3, vD3, fun _ => ⟨fun h => ?_, fun _ => ⟨by rw [e0]; exact vD3, ?_⟩⟩, fun h => ?_⟩
    · rw [T3.pred, cD, show σ3 (0 + 24) D = _ from T3.2.2.2] at h
      exact absurd rfl h
    · simp only [e0, T3.pred, cD]
      rw [show σ3 (0 + 24) D = _ from T3.2.2.2, nI_s1, show σ3 0 33 = _ from b1.1, up_cell _ _ (show (0 + 25 : Nat) ≠ 0 + 24 by omega), show σ3 (0 + 25) D = _ from M3, i32_eq (by omega) (by omega)]
      have m2 : mF D σ3 (up σ3 (0 + 24) D (nI (1 + 1))) := mF_top σ3 _ (by omega) (by omega)
      have f2 : FM (up σ3 (0 + 24) D (nI (1 + 1))) (L ++ a.1) (wt + a.2) := b1.top _ (by omega) (by omega)
      refine ⟨fun hne => ?_, fun he => ?_⟩
      · have z : a.1 ≠ [] := by
          intro z
          rw [z, List.append_nil] at hne
          exact hne rfl
        rw [if_neg z] at hk
        have vD4 : vp_in (up σ3 (0 + 24) D (nI (1 + 1)) 0 35 - 1) 400 := by rw [e0]; exact vD3
        refine s_MO_findsEither_111 Y (d + 4) 0 _ _ _ _ _ ⟨fun h => absurd rfl h, fun _ => ⟨vD4, by rw [e2]; exact vD4, vq, ?_⟩⟩
        simp only [e0, e2, T3.pred, cD, cq]
        rw [show σ3 0 33 = _ from b1.1, show σ3 0 34 = _ from b1.2.1]
        obtain ⟨ρ, hρ⟩ : ∃ ρ, ρ = up (up (up σ3 (0 + 24) D (nI (1 + 1))) (0 + 27) D (nI (L ++ a.1).length)) (0 + 28) D (nI (wt + a.2)) := ⟨_, rfl⟩
        rw [← hρ]
        have m3 : mF D σ3 ρ := by rw [hρ]; exact ((mF_top σ3 _ (by omega) (by omega)).trans (mF_top _ _ (by omega) (by omega))).trans (mF_top _ _ (by omega) (by omega))
        have x3 := G3.keptF wc m3
        have f3 : FM ρ (L ++ a.1) (wt + a.2) := by rw [hρ]; exact (f2.top _ (by omega) (by omega)).top _ (by omega) (by omega)
        have r35 : ρ 0 35 = nI (D + 1) := by rw [hρ, up_cell _ _ (by omega), up_cell _ _ (by omega), up_cell _ _ (by omega)]; exact T3.1
        have und3 : ρ 22 D = nI q ∧ ρ 23 D = nI p ∧ ρ 24 D = nI 2 := ⟨by rw [hρ, up_cell _ _ (by omega), up_cell _ _ (by omega), up_cell _ _ (by omega)]; exact T3.2.1, by rw [hρ, up_cell _ _ (by omega), up_cell _ _ (by omega), up_cell _ _ (by omega)]; exact T3.2.2.1, by rw [hρ, up_cell _ _ (by omega), up_cell _ _ (by omega)]; exact up_self σ3 24 _ _⟩
        have r25 : ρ 25 D = nI L.length := by rw [hρ, up_cell _ _ (by omega), up_cell _ _ (by omega), up_cell _ _ (by omega)]; exact M3
        have r26 : ρ 26 D = nI wt := by rw [hρ, up_cell _ _ (by omega), up_cell _ _ (by omega), up_cell _ _ (by omega)]; exact W3
        have r27 : ρ 27 D = nI (L ++ a.1).length := by rw [hρ, up_cell _ _ (by omega)]; exact up_self _ 27 _ _
        have r28 : ρ 28 D = nI (wt + a.2) := by rw [hρ]; exact up_self _ 28 _ _
        rw [show ρ (0 + 11) q = _ from (x3.2.2.2.2.1 q hq).2.2.2.2 hs]
        refine c_MO_looks Y (d + 4) r35 (by omega) _ _ _ (fun σ5 c1 c2 c3 c4 => ?_)
        refine hlook2 σ5 _ _ Q c1 (x3.keptF wc c2) (f3.far c3 c4) (by omega) (fun σ6 d1 d2 d3 => ?_)
        have T6 : Tp σ6 D q p 2 := Tp.under und3 (c2.trans d2) d3
        have fr : ∀ x, 22 ≤ x → x ≤ 28 → σ6 x D = ρ x D := fun x q1 q2 => (c2.trans d2).2.2 x D q1 q2 (by omega)
        have G6 : GM σ6 v c := (x3.keptF wc c2).keptF wc d2
        have K6 : mF D σ σ6 := K3.trans (m3.trans ((c2.trans d2).less (by omega)))
        have vD6 : vp_in (σ6 0 35 - 1) 400 := by rw [T6.pred]; exact vinI (by omega) (by omega)
        have lb : (L ++ a.1 ++ b.1).length = L.length + a.1.length + b.1.length := by rw [List.length_append, la]
        refine step σ6 2 T6 G6 ?_
        refine s_MO_findsEither_0 Y (d + 4) 0 _ _ σ6 _ ⟨vD6, vD6, vD6, fun _ => ⟨fun _ => ?_, fun h => ?_⟩, fun h => ?_⟩
        · simp only [T6.pred, cD]
          rw [show σ6 (0 + 24) D = _ from T6.2.2.2]
          refine s_MO_findsEither_111 Y (d + 4) 0 _ _ _ _ _ ⟨fun _ => ?_, fun h => absurd h (by decide)⟩
          obtain ⟨κ, hκ⟩ : ∃ κ, κ = up σ6 (0 + 24) D (nI 2 + 1) := ⟨_, rfl⟩
          rw [← hκ]
          have k35 : κ 0 35 - 1 = nI D := by rw [hκ, e0]; exact T6.pred
          have F7 : FM κ (L ++ a.1 ++ b.1) (wt + a.2 + b.2) := by rw [hκ]; exact d1.top _ (by omega) (by omega)
          have K7 : mF D σ κ := by rw [hκ]; exact K6.trans (mF_top σ6 _ (by omega) (by omega))
          have k25 : κ 25 D = nI L.length := by rw [hκ, up_cell _ _ (by omega), fr 25 (by omega) (by omega)]; exact r25
          have k26 : κ 26 D = nI wt := by rw [hκ, up_cell _ _ (by omega), fr 26 (by omega) (by omega)]; exact r26
          have k27 : κ 27 D = nI (L ++ a.1).length := by rw [hκ, up_cell _ _ (by omega), fr 27 (by omega) (by omega)]; exact r27
          have k28 : κ 28 D = nI (wt + a.2) := by rw [hκ, up_cell _ _ (by omega), fr 28 (by omega) (by omega)]; exact r28
          have vD7 : vp_in (nI D) 400 := vinI (by omega) (by omega)
          refine s_MO_endsEither_0 Y (d + 3) 0 κ _ ?_
          rw [k35]
          have F8 := F7.pop (nI D)
          obtain ⟨π, hπ⟩ : ∃ π, π = up κ 0 35 (nI D) := ⟨_, rfl⟩
          rw [← hπ] at F8 ⊢
          have p35 : π 0 35 = nI D := by rw [hπ]; exact up_self _ _ _ _
          have pc : ∀ x, x ≠ 0 → π x = κ x := fun x z => by rw [hπ, up_cell _ _ z]
          have K8 : mF D σ π := by rw [hπ]; exact K7.trans (mF_pop D κ _)
          have p25 : π (0 + 25) D = nI L.length := by rw [pc _ (by omega)]; exact k25
          have p27 : π (0 + 27) D = nI (L ++ a.1).length := by rw [pc _ (by omega)]; exact k27
          have p28 : π (0 + 28) D = nI (wt + a.2) := by rw [pc _ (by omega)]; exact k28
          have p26 : π (0 + 26) D = nI wt := by rw [pc _ (by omega)]; exact k26
          rw [p35, cD, p25, p27, show π 0 33 = _ from F8.1]
          have s1 : nI (L ++ a.1 ++ b.1).length - nI (L ++ a.1).length = nI b.1.length := by rw [nI_subm (by omega)]; congr 1; omega
          have s2 : nI (L ++ a.1).length - nI L.length = nI a.1.length := by rw [nI_subm (by omega)]; congr 1; omega
          rw [s1, s2, i32_lt (by omega) (by omega)]
          refine ⟨vD7, vD7, fun hge => ?_, fun hlt => ?_⟩
          · rw [if_neg hge] at hk
            have p35' : up π 0 33 (nI (L ++ a.1).length) 0 35 = nI D := by rw [up_other _ _ (Or.inr (by omega))]; exact p35
            rw [p35']
            refine ⟨vD7, ?_⟩
            rw [cD, up_cell _ _ (show (0 + 28 : Nat) ≠ 0 by omega), p28]
            refine hk _ ⟨?_, ?_, fun i x hx => ?_⟩ (K8.trans ⟨fun x q1 _ => ?_, fun i q1 q2 _ => ?_, fun x i q1 _ _ => ?_⟩) ?_
            · rw [up_other _ _ (Or.inr (by omega)), up_self]
            · rw [up_self]
            · rw [up_cell _ _ (show (20 : Nat) ≠ 0 by omega), up_cell _ _ (show (20 : Nat) ≠ 0 by omega), up_cell _ _ (show (21 : Nat) ≠ 0 by omega), up_cell _ _ (show (21 : Nat) ≠ 0 by omega)]
              refine F8.2.2 i x ?_
              rw [List.getElem?_append_left (List.getElem?_eq_some_iff.mp hx).1]
              exact hx
            · rw [up_cell _ _ q1, up_cell _ _ q1]
            · rw [up_other _ _ (Or.inr q2), up_other _ _ (Or.inr q1)]
            · rw [up_cell _ _ (by omega), up_cell _ _ (by omega)]
            · rw [up_other _ _ (Or.inr (by omega)), up_other _ _ (Or.inr (by omega))]; exact p35
          · rw [if_pos hlt] at hk
            refine c_MO_takesSecond Y (d + 3) F8 (by omega) _ (fun σ9 g1 g2 => ?_)
            have q35 : σ9 0 35 = nI D := by rw [g2.2 35 (by omega) (by omega)]; exact p35
            rw [q35]
            refine ⟨vD7, vD7, ?_⟩
            have q26 : σ9 (0 + 26) D = nI wt := by rw [g2.1 (0 + 26) (by omega) (by omega) (by omega)]; exact p26
            have q28 : σ9 (0 + 28) D = nI (wt + a.2) := by rw [g2.1 (0 + 28) (by omega) (by omega) (by omega)]; exact p28
            rw [cD, q26, q28, show σ9 0 34 = _ from g1.2.1, nI_add, nI_subm (by omega)]
            refine hk _ ⟨?_, ?_, fun i x hx => ?_⟩ (K8.trans ((g2.mF D).trans ⟨fun x q1 _ => ?_, fun i _ q2 _ => ?_, fun x i q1 _ _ => ?_⟩)) ?_
            · rw [up_other _ _ (Or.inr (by omega))]; exact g1.1
            · rw [up_self]; congr 1; omega
            · rw [up_cell _ _ (show (20 : Nat) ≠ 0 by omega), up_cell _ _ (show (21 : Nat) ≠ 0 by omega)]; exact g1.2.2 i x hx
            · rw [up_cell _ _ q1]
            · rw [up_other _ _ (Or.inr q2)]
            · rw [up_cell _ _ (by omega)]
            · rw [up_other _ _ (Or.inr (by omega))]; exact q35
        · rw [T6.pred, cD, show σ6 (0 + 24) D = _ from T6.2.2.2] at h
          exact absurd h (by decide)
        · rw [T6.pred, cD, show σ6 (0 + 24) D = _ from T6.2.2.2] at h
          exact absurd h (by decide)
      · have z : a.1 = [] := List.eq_nil_of_length_eq_zero (by omega)
        rw [if_pos z] at hk
        refine hk _ (f2.pop _) (K3.trans (m2.trans (mF_pop D _ _))) (up_self _ _ _ _)
    · rw [T3.pred, cD, show σ3 (0 + 24) D = _ from T3.2.2.2] at h
      exact absurd h (by decide)
