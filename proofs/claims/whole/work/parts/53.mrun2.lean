/-! the reference: looking at records, twice, at either; all -/
theorem run_record (Y : List kd) (d : Nat) {v : VT} (w : WFV v) {c : CT} (wc : WFC c) {q p D U : Nat} (hU : U ≤ 6060) (hq : q < cM c) (hs : cF c 0 q = 123) (hp : p < v.1) (hD : D < 399) (look : Nat → Nat → List Nat × Nat) (hlen : ∀ r x, r < cM c → x < v.1 → (look r x).1.length ≤ 6 * v.2 4 x) (hokl : ∀ r x, r < cM c → x < v.1 → okF (look r x).1) (hlook : v.2 0 p = 2 → ∀ k j, k < cF c 10 q → j < v.2 2 p → RnM Y d c v (cch c q k) (kch v p j) (D + 1) U (look (cch c q k) (kch v p j))) : RnM Y d c v q p D U (if v.2 0 p = 2 then recR c v q p look else ([100 * v.2 5 p + 5], 0)) := by
  have h20 := w.2.1
  have hm := wc.2.1
  have hn24 := wc.2.2.2.1
  have hk5 := w.kids5 hp
  have kd := w.2.2.2.2.2.2.2 p hp
  have cq := wc.2.2.2.2.2.2.2.1 q hq
  have sp := w.sp20 hp
  have rd4 := w.road4 hp
  have hK24 : cF c 10 q ≤ 24 := by
    have h1 := (wc.2.2.2.2.1 q hq)
    have := ch_big wc.2.2.2.2.1 hq (cF c 10 q) (Nat.le_refl _)
    omega
  have vp : vp_in (nI p) 21 := vinI (by omega) (by omega)
  intro σ L wt Q ht hx hf hl hk
  have step : ∀ (σ : sS) (ph : Nat), Tp σ D q p ph → GM σ v c → CJ Y (d + 5) y_MO_findsRecord [sR 0 (.inl 6), sI (nI q), sI (nI p)] σ (rN fun σ' => hdM Y d σ' Q) → hdM Y d σ Q := by
    intro σ ph ht hx h
    refine itM Y d ht (by omega) Q (c_MO_goesOn Y (d + 5) (hx.2.2.2.2.1 q hq).1 (by omega) (by omega) _ (by intro z; omega) (by intro z; omega) (by intro z; omega) (by intro z; omega) (by intro z; omega) (by intro z; omega) (fun _ => h) (by intros; omega))
  have vD0 : vp_in (σ 0 35 - 1) 400 := by rw [ht.pred]; exact vinI (by omega) (by omega)
  by_cases h2 : v.2 0 p = 2
  · rw [if_pos h2] at hk
    obtain ⟨fs1, fs2⟩ := fld_sum wc w hq hs hp h2 look hlen
    have l67 : ∀ m i, i + m = cF c 10 q → ∀ τ : sS, Tp τ D q p i → τ 25 D = nI L.length → GM τ v c → FM τ (L ++ (foldR (fldK look c v q p) i).1) (wt + (foldR (fldK look c v q p) i).2) → mF D σ τ → Jd Y (d + 4 + 1) y_MO_findsRecord 67 [(0, sR 0 (.inl 6)), (1, sI (nI q)), (2, sI (nI p)), (3, sI (nI i))] [] τ (rN fun σ' => hdM Y d σ' Q) := by
      intro m
      induction m with
      | zero =>
        intro i hi τ t0 tm t1 t2 t3
        have : i = cF c 10 q := by omega
        subst this
        have vD : vp_in (τ 0 35 - 1) 400 := by rw [t0.pred]; exact vinI (by omega) (by omega)
        refine s_MO_findsRecord_67 Y (d + 4) 0 _ _ _ τ _ (c_MO_fieldAt Y (d + 4) wc t1.2 hq hs (Nat.le_refl _) _ (fun f g1 g2 g3 => ?_) (fun _ => ⟨fun h => absurd (by decide) h, fun _ => ?_⟩))
        · have := wc.fld hq hs g1 g2
          omega
        · refine s_MO_endsRecord_0 Y (d + 3) 0 _ _ τ _ ⟨vD, ?_⟩
          rw [t0.pred, cl_nI (show D < 2 ^ 31 by omega), show τ (0 + 25) D = _ from tm]
          have fs := fs1 _ (Nat.le_refl _)
          have G1 : GM (up τ 0 35 (nI D)) v c := t1.keptF wc (mF_pop D τ _)
          refine c_MO_findsMore Y (d + 2) w wc G1 (t2.pop _) hq hs hp h2 (by rw [List.length_append]; omega) _ (fun σ2 b1 b2 => ?_)
          obtain ⟨s, hs0⟩ : ∃ s : List Nat × Nat, s = ((foldR (fldK look c v q p) (cF c 10 q)).1 ++ (strL c v q p (v.2 2 p)).1, (foldR (fldK look c v q p) (cF c 10 q)).2) := ⟨_, rfl⟩
          have hslen : s.1.length = (foldR (fldK look c v q p) (cF c 10 q)).1.length + (strL c v q p (v.2 2 p)).1.length := by rw [hs0]; exact List.length_append
          have hsok : okF s.1 := by rw [hs0]; exact okF_app (okF_fold _ fun k hk => okF_fld wc w hq hp hokl hk) (okF_str w hp)
          have hrec : recR c v q p look = depK c v p (cF c 8 q) s (cF c 9 q) := by rw [hs0]; rfl
          have b1' : FM σ2 (L ++ s.1) (wt + s.2) := by
            rw [hs0]
            show FM σ2 (L ++ (_ ++ _)) _
            rw [← List.append_assoc]
            exact b1
          refine c_MO_waiters Y d w wc (G1.kept wc b2) b1' hq hs hp h2 (by rw [List.length_append]; omega) hsok _ (fun σ3 d1 d2 => ?_)
          refine hk σ3 (by rw [hrec]; exact d1) (t3.trans ((mF_pop D τ _).trans ((b2.mF D).trans (d2.mF D)))) ?_
          rw [d2.2 35 (by omega) (by omega), b2.2 35 (by omega) (by omega)]
          exact up_self _ _ _ _
      | succ m ih =>
        intro i hi τ t0 tm t1 t2 t3
        have hiK : i < cF c 10 q := by omega
        have hcc : cch c q i < cM c := ch_part wc.2.2.2.2.1 hq hiK
        have cc := wc.2.2.2.2.2.2.2.1 _ hcc
        have fs1i := fs1 i (by omega)
        have vD : vp_in (τ 0 35 - 1) 400 := by rw [t0.pred]; exact vinI (by omega) (by omega)
        refine s_MO_findsRecord_67 Y (d + 4) 0 _ _ _ τ _ (c_MO_fieldAt Y (d + 4) wc t1.2 hq hs (by omega) _ (fun f g1 g2 g3 => ⟨fun _ => ⟨vD, vD, vinI (by omega) (by omega), ?_⟩, fun h => absurd h (nI_pos (by omega))⟩) (fun z => by omega))
        rw [t0.pred, cl_nI (show D < 2 ^ 31 by omega), show τ (0 + 24) D = _ from t0.2.2.2, nI_s1, cl_nI (show f < 2 ^ 31 by omega)]
        have m1 : mF D τ (up τ (0 + 24) D (nI (i + 1))) := mF_top τ _ (by omega) (by omega)
        have x1 := t1.keptF wc m1
        have f1 : FM (up τ (0 + 24) D (nI (i + 1))) (L ++ (foldR (fldK look c v q p) i).1) (wt + (foldR (fldK look c v q p) i).2) := t2.top _ (by omega) (by omega)
        obtain ⟨-, e13, e14, e15⟩ := x1.2.2.2.2.2.1 f g1
        rw [g2, g3] at e13 e14 e15
        rw [show up τ (0 + 24) D (nI (i + 1)) (0 + 13) f = _ from e13]
        have und : up τ (0 + 24) D (nI (i + 1)) 22 D = nI q ∧ up τ (0 + 24) D (nI (i + 1)) 23 D = nI p ∧ up τ (0 + 24) D (nI (i + 1)) 24 D = nI (i + 1) := ⟨by rw [up_cell _ _ (by omega)]; exact t0.2.1, by rw [up_cell _ _ (by omega)]; exact t0.2.2.1, up_self τ 24 _ _⟩
        have t35 : up τ (0 + 24) D (nI (i + 1)) 0 35 = nI (D + 1) := by rw [up_cell _ _ (by omega)]; exact t0.1
        have um : up τ (0 + 24) D (nI (i + 1)) 25 D = nI L.length := by rw [up_cell _ _ (by omega)]; exact tm
        -- the next phase
        have nx : ∀ σ3 : sS, Tp σ3 D q p (i + 1) → σ3 25 D = nI L.length → GM σ3 v c → FM σ3 (L ++ (foldR (fldK look c v q p) (i + 1)).1) (wt + (foldR (fldK look c v q p) (i + 1)).2) → mF D τ σ3 → hdM Y d σ3 Q := by
          intro σ3 T3 M3 G3 F3 K3
          refine step σ3 (i + 1) T3 G3 ?_
          have vD3 : vp_in (σ3 0 35 - 1) 400 := by rw [T3.pred]; exact vinI (by omega) (by omega)
          refine s_MO_findsRecord_0 Y (d + 4) 0 _ _ σ3 _ ⟨vD3, fun _ => ?_, fun h => ?_⟩
          · rw [T3.pred, cl_nI (show D < 2 ^ 31 by omega), show σ3 (0 + 24) D = _ from T3.2.2.2]
            refine s_MO_findsRecord_48 Y (d + 4) 0 _ _ _ σ3 _ ⟨fun _ => ih (i + 1) (by omega) σ3 T3 M3 G3 F3 (t3.trans K3), fun h => ?_⟩
            rw [z_eq (by omega) 0 (by omega)] at h
            omega
          · rw [T3.pred, cl_nI (show D < 2 ^ 31 by omega), show σ3 (0 + 24) D = _ from T3.2.2.2, z_eq (by omega) 0 (by omega)] at h
            omega
        have same : ∀ σ3 : sS, fdK (up τ (0 + 24) D (nI (i + 1))) σ3 → Tp σ3 D q p (i + 1) ∧ σ3 25 D = nI L.length ∧ mF D τ σ3 := fun σ3 h => ⟨⟨by rw [h.2 35 (by omega) (by omega)]; exact t35, by rw [h.1 22 (by omega) (by omega) (by omega)]; exact und.1, by rw [h.1 23 (by omega) (by omega) (by omega)]; exact und.2.1, by rw [h.1 24 (by omega) (by omega) (by omega)]; exact und.2.2⟩, by rw [h.1 25 (by omega) (by omega) (by omega)]; exact um, m1.trans (h.mF D)⟩
        refine c_MO_fieldOf Y (d + 3) w x1.1 hp h2 _ _ ?_
        cases hkid : kidO v p (cF c 4 (cch c q i)) with
        | some x =>
          rw [fieldR_some hkid]
          obtain ⟨j, hj, rfl, -⟩ := kidO_nI w hp hkid
          have hcj := w.kchlt hp hj
          have e1 : fldK look c v q p i = look (cch c q i) (kch v p j) := by unfold fldK; rw [hkid]
          refine ⟨fun h => absurd h (nI_pos (by omega)), fun _ => ⟨vinI (by omega) (by omega), ?_⟩⟩
          rw [show up τ (0 + 24) D (nI (i + 1)) (0 + 15) f = _ from e15]
          refine c_MO_looks Y (d + 4) t35 (by omega) _ _ _ (fun σ2 a1 a2 a3 a4 => ?_)
          refine hlook h2 i j hiK hj σ2 _ _ Q a1 (x1.keptF wc a2) (f1.far a3 a4) ?_ (fun σ3 b1 b2 b3 => ?_)
          · rw [List.length_append]
            have := fs2 i _ hiK hkid
            omega
          · refine nx σ3 (Tp.under und (a2.trans b2) b3) ?_ ((x1.keptF wc a2).keptF wc b2) ?_ (m1.trans ((a2.trans b2).less (by omega)))
            · rw [(a2.trans b2).2.2 25 D (by omega) (by omega) (by omega)]; exact um
            · rw [foldR_succ, e1]
              show FM σ3 (L ++ ((foldR (fldK look c v q p) i).1 ++ _)) (wt + ((foldR (fldK look c v q p) i).2 + _))
              rw [← List.append_assoc, ← Nat.add_assoc]
              exact b1
        | none =>
          rw [fieldR_none hkid]
          refine ⟨fun _ => ⟨vinI (by omega) (by omega), ?_⟩, fun h => absurd (by decide) h⟩
          rw [show up τ (0 + 24) D (nI (i + 1)) (0 + 14) f = _ from e14]
          refine ⟨fun hne => ?_, fun he => ⟨vp, vinI (by omega) (by omega), ?_⟩⟩
          · rw [z_eq (by omega) 0 (by omega)] at hne
            have e1 : fldK look c v q p i = ([], 0) := by unfold fldK; rw [hkid]; exact if_neg hne
            obtain ⟨q1, q2, q3⟩ := same _ (fdK.refl _)
            refine nx _ q1 q2 x1 ?_ q3
            rw [foldR_succ, e1]
            show FM _ (L ++ ((foldR (fldK look c v q p) i).1 ++ [])) (wt + ((foldR (fldK look c v q p) i).2 + 0))
            rw [List.append_nil]
            exact f1
          · rw [z_eq (by omega) 0 (by omega)] at he
            have e1 : fldK look c v q p i = ([100 * (10 * v.2 5 p + cF c 4 (cch c q i)) + 6], 0) := by unfold fldK; rw [hkid]; exact if_pos he
            rw [cl_nI (show p < 2 ^ 31 by omega), show up τ (0 + 24) D (nI (i + 1)) (0 + 6) p = _ from (x1.1.2.1 p hp).2.2.2, show up τ (0 + 24) D (nI (i + 1)) (0 + 13) f = _ from e13, show (10 : Int32) = nI 10 from rfl, pk_mul, nI_add]
            refine c_MO_finds Y (d + 4) f1 (by rw [List.length_append]; omega) _ 6 (by omega) _ (fun σ3 u1 u2 => ?_)
            obtain ⟨q1, q2, q3⟩ := same σ3 u2
            refine nx σ3 q1 q2 (x1.kept wc u2) ?_ q3
            rw [foldR_succ, e1]
            show FM σ3 (L ++ ((foldR (fldK look c v q p) i).1 ++ _)) (wt + ((foldR (fldK look c v q p) i).2 + 0))
            rw [← List.append_assoc]
            exact u1
    refine step σ 0 ht hx ?_
    refine s_MO_findsRecord_0 Y (d + 4) 0 _ _ σ _ ⟨vD0, fun h => ?_, fun _ => ⟨vp, fun _ => ?_, fun h => ?_⟩⟩
    · rw [ht.pred, cl_nI (show D < 2 ^ 31 by omega), show σ (0 + 24) D = _ from ht.2.2.2, z_eq (by omega) 0 (by omega)] at h
      omega
    · rw [ht.pred, cl_nI (show D < 2 ^ 31 by omega), show σ (0 + 24) D = _ from ht.2.2.2]
      refine s_MO_findsRecord_48 Y (d + 4) 0 _ _ _ σ _ ⟨fun h => absurd rfl h, fun _ => ⟨vD0, ?_⟩⟩
      rw [ht.pred, cl_nI (show D < 2 ^ 31 by omega), show σ 0 33 = _ from hf.1]
      have m1 : mF D σ (up σ (0 + 25) D (nI L.length)) := mF_top σ _ (by omega) (by omega)
      refine l67 (cF c 10 q) 0 (by omega) _ ⟨?_, ?_, ?_, ?_⟩ (up_self σ 25 _ _) (hx.keptF wc m1) ?_ m1
      · rw [up_cell _ _ (by omega)]; exact ht.1
      · rw [up_cell _ _ (by omega)]; exact ht.2.1
      · rw [up_cell _ _ (by omega)]; exact ht.2.2.1
      · rw [up_cell _ _ (by omega)]; exact ht.2.2.2
      · show FM _ (L ++ []) (wt + 0)
        rw [List.append_nil]
        exact hf.top _ (by omega) (by omega)
    · rw [cl_nI (show p < 2 ^ 31 by omega), show σ (0 + 2) p = _ from (hx.1.2.1 p hp).1, z_eq (by omega) 2 (by omega)] at h
      exact absurd h2 h
  · rw [if_neg h2] at hk
    refine step σ 0 ht hx ?_
    refine s_MO_findsRecord_0 Y (d + 4) 0 _ _ σ _ ⟨vD0, fun h => ?_, fun _ => ⟨vp, fun h => ?_, fun _ => ⟨vp, ?_⟩⟩⟩
    · rw [ht.pred, cl_nI (show D < 2 ^ 31 by omega), show σ (0 + 24) D = _ from ht.2.2.2, z_eq (by omega) 0 (by omega)] at h
      omega
    · rw [cl_nI (show p < 2 ^ 31 by omega), show σ (0 + 2) p = _ from (hx.1.2.1 p hp).1, z_eq (by omega) 2 (by omega)] at h
      exact absurd h h2
    · rw [ht.pred]
      have e6 : up σ 0 35 (nI D) (0 + 6) (Int32.toNatClampNeg (nI p)) = nI (v.2 5 p) := by rw [up_cell _ _ (by omega), cl_nI (by omega)]; exact (hx.1.2.1 p hp).2.2.2
      rw [e6]
      exact c_MO_finds Y (d + 4) (hf.pop _) (by omega) _ 5 (by omega) _ (fun τ t1 t2 => hk τ t1 ((mF_pop D σ _).trans (t2.mF D)) (by rw [t2.2 35 (by omega) (by omega)]; exact up_self _ _ _ _))
