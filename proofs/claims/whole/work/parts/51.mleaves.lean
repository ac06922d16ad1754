/-! the reference: strangers, dependent ones, twins, the fewer -/
theorem c_MO_findsMore (Y : List kd) (d : Nat) {v : VT} (w : WFV v) {c : CT} (wc : WFC c) {σ : sS} (hx : GM σ v c) {L : List Nat} {wt : Nat} (hf : FM σ L wt) {q p : Nat} (hq : q < cM c) (hs : cF c 0 q = 123) (hp : p < v.1) (h2 : v.2 0 p = 2) (hl : L.length + v.2 2 p < 16384) (k : sS → Prop) (hk : ∀ σ', FM σ' (L ++ (strL c v q p (v.2 2 p)).1) wt → fdK σ σ' → k σ') : CJ Y (d + 1) y_MO_findsMore [sR 0 (.inl 6), sI (nI q), sI (nI p)] σ (rN k) := by
  have h20 := w.2.1
  have hk5 := w.kids5 hp
  have v1 : vp_in (nI p) 21 := vinI (by omega) (by omega)
  refine s_MO_findsMore_0 Y d 0 _ _ σ (rN k) ?_
  have key : ∀ m i, i + m = v.2 2 p → ∀ τ : sS, FM τ (L ++ (strL c v q p i).1) wt → fdK σ τ → (strL c v q p i).1.length ≤ i → Jd Y (d + 1) y_MO_findsMore 2 [(0, sR 0 (.inl 6)), (1, sI (nI q)), (2, sI (nI p)), (3, sI (nI i))] [] τ (rN k) := by
    intro m
    induction m with
    | zero =>
      intro i hi τ t1 t2 t3
      have hx' := hx.kept wc t2
      have en : τ (0 + 3) (Int32.toNatClampNeg (nI p)) = nI (v.2 2 p) := by rw [cl_nI (by omega)]; exact hx'.1.num w hp (by omega)
      have : i = v.2 2 p := by omega
      subst this
      refine s_MO_findsMore_2 Y d 0 _ _ _ τ (rN k) ⟨v1, fun _ => hk τ t1 t2, fun h => ?_⟩
      rw [en, i32_lt (by omega) (by omega)] at h
      omega
    | succ m ih =>
      intro i hi τ t1 t2 t3
      have hx' := hx.kept wc t2
      have en : τ (0 + 3) (Int32.toNatClampNeg (nI p)) = nI (v.2 2 p) := by rw [cl_nI (by omega)]; exact hx'.1.num w hp (by omega)
      have hiK : i < v.2 2 p := by omega
      have hc := w.kchlt hp hiK
      have hd := ((w.2.2.2.2.2.2.2 p hp).2.2.2.2.2.2 i hiK).2.1 h2
      have vc : vp_in (nI (kch v p i)) 21 := vinI (by omega) (by omega)
      have nx : ∀ τ' : sS, FM τ' (L ++ (strL c v q p (i + 1)).1) wt → fdK τ τ' → (strL c v q p (i + 1)).1.length ≤ i + 1 → Jd Y (d + 1) y_MO_findsMore 48 [(0, sR 0 (.inl 6)), (1, sI (nI q)), (2, sI (nI p)), (3, sI (nI i))] [] τ' (rN k) := by
        intro τ' u1 u2 u3
        refine s_MO_findsMore_48 Y d 0 _ _ _ τ' (rN k) ?_
        rw [nI_s1]
        exact ih (i + 1) (by omega) τ' u1 (t2.trans u2) u3
      have es : strL c v q p (i + 1) = ((strL c v q p i).1 ++ (if kno c q (v.2 3 (kch v p i)) then ([], 0) else ([100 * v.2 5 (kch v p i) + 7], 0) : List Nat × Nat).1, (strL c v q p i).2 + (if kno c q (v.2 3 (kch v p i)) then ([], 0) else ([100 * v.2 5 (kch v p i) + 7], 0) : List Nat × Nat).2) := rfl
      refine s_MO_findsMore_2 Y d 0 _ _ _ τ (rN k) ⟨v1, fun h => ?_, fun _ => ?_⟩
      · rw [en, i32_lt (by omega) (by omega)] at h
        omega
      · refine c_MO_childOf Y d w hx'.1 hp (by omega) _ ⟨vc, ?_⟩
        rw [cl_nI (by omega), show τ (0 + 4) (kch v p i) = _ from hx'.1.2.2 p i hp h2 hiK]
        refine c_MO_isToldField Y d wc hx'.2 hq hs (by omega) _ ?_
        cases hkn : kno c q (v.2 3 (kch v p i)) with
        | true =>
          rw [hkn] at es
          refine ⟨fun _ => nx τ ?_ (fdK.refl τ) ?_, fun h => absurd h (by decide)⟩
          · rw [es]
            show FM τ (L ++ ((strL c v q p i).1 ++ [])) wt
            rw [List.append_nil]
            exact t1
          · rw [es]
            show ((strL c v q p i).1 ++ []).length ≤ i + 1
            rw [List.append_nil]
            omega
        | false =>
          rw [hkn] at es
          refine ⟨fun h => absurd rfl h, fun _ => ⟨vc, ?_⟩⟩
          rw [show τ (0 + 6) (kch v p i) = _ from (hx'.1.2.1 _ hc.2).2.2.2]
          refine c_MO_finds Y d t1 ?_ (v.2 5 (kch v p i)) 7 (by omega) _ (fun τ' u1 u2 => nx τ' ?_ u2 ?_)
          · rw [List.length_append]; omega
          · rw [es, ← List.append_assoc]; exact u1
          · rw [es]
            show ((strL c v q p i).1 ++ [_]).length ≤ i + 1
            rw [List.length_append]
            show _ + 1 ≤ i + 1
            omega
  refine key (v.2 2 p) 0 (by omega) σ ?_ (fdK.refl σ) (Nat.le_refl _)
  show FM σ (L ++ []) wt
  rw [List.append_nil]
  exact hf
theorem fieldR_some {v : VT} {p d x : Nat} (h : kidO v p d = some x) : (if kidV v p (nI d) < v.2 2 p then nI (kch v p (kidV v p (nI d))) else -9 : Int32) = nI x := by
  unfold kidO at h
  split at h
  · rename_i z
    rw [if_pos z, Option.some.inj h]
  · cases h
theorem fieldR_none {v : VT} {p d : Nat} (h : kidO v p d = none) : (if kidV v p (nI d) < v.2 2 p then nI (kch v p (kidV v p (nI d))) else -9 : Int32) = -9 := by
  unfold kidO at h
  split at h
  · cases h
  · rename_i z
    rw [if_neg z]
theorem c_MO_findsWaiter (Y : List kd) (d : Nat) {v : VT} (w : WFV v) {c : CT} (wc : WFC c) {σ : sS} (hx : GM σ v c) {L : List Nat} {s : List Nat × Nat} {wt : Nat} (hf : FM σ (L ++ s.1) (wt + s.2)) {u p : Nat} (hu : u < cW c) (hp : p < v.1) (h2 : v.2 0 p = 2) (hl : (L ++ s.1).length < 16384) (hok : okF s.1) (k : sS → Prop) (hk : ∀ σ', FM σ' (L ++ (dep1 c v p s u).1) (wt + (dep1 c v p s u).2) → fdK σ σ' → k σ') : CJ Y (d + 3) y_MO_findsWaiter [sR 0 (.inl 6), sI (nI u), sI (nI p), sI (nI L.length)] σ (rN k) := by
  have h20 := w.2.1
  have hw32 := wc.2.2.1
  obtain ⟨g0, g1, g2, g3, g4, -⟩ := wc.2.2.2.2.2.2.2.2.2.1 u hu
  obtain ⟨-, e17, e18, e19⟩ := hx.2.2.2.2.2.2 u hu
  have hv := hx.1
  have vu : vp_in (nI u) 33 := vinI (by omega) (by omega)
  have cu : Int32.toNatClampNeg (nI u) = u := cl_nI (by omega)
  have hw : dep1 c v p s u = (s.1, s.2 + 1) → Jd Y (d + 2 + 1) y_MO_findsWaiter 66 [(0, sR 0 (.inl 6))] [] σ (rN k) := by
    intro e
    refine s_MO_findsWaiter_66 Y (d + 2) 0 σ (rN k) ?_
    rw [hf.2.1, nI_s1]
    obtain ⟨a, b⟩ := hf.wait
    refine hk _ ?_ b
    rw [e]
    exact a
  refine s_MO_findsWaiter_0 Y (d + 2) 0 _ _ _ σ (rN k) ⟨vu, ?_⟩
  rw [cu, show σ (0 + 18) u = _ from e18]
  refine c_MO_fieldOf Y (d + 1) w hv hp h2 _ _ ⟨vu, ?_⟩
  rw [show σ (0 + 19) u = _ from e19]
  refine c_MO_fieldOf Y (d + 1) w hv hp h2 _ _ ?_
  cases ha : kidO v p (cD c 1 u) with
  | none =>
    rw [fieldR_none ha]
    exact ⟨fun _ => hw (by unfold dep1; rw [ha]), fun h => absurd (by decide) h⟩
  | some a =>
    rw [fieldR_some ha]
    obtain ⟨ka, hka, rfl, -⟩ := kidO_nI w hp ha
    have hca := w.kchlt hp hka
    have vca : vp_in (nI (kch v p ka)) 21 := vinI (by omega) (by omega)
    refine ⟨fun h => absurd h (nI_pos (by omega)), fun _ => ?_⟩
    cases hb : kidO v p (cD c 2 u) with
    | none =>
      rw [fieldR_none hb]
      exact ⟨fun _ => hw (by unfold dep1; rw [ha, hb]), fun h => absurd (by decide) h⟩
    | some b =>
      rw [fieldR_some hb]
      obtain ⟨kb, hkb, rfl, -⟩ := kidO_nI w hp hb
      have hcb := w.kchlt hp hkb
      have vcb : vp_in (nI (kch v p kb)) 21 := vinI (by omega) (by omega)
      have ra4 := w.road4 hca.2
      have rb4 := w.road4 hcb.2
      have e6a : σ (0 + 6) (Int32.toNatClampNeg (nI (kch v p ka))) = nI (v.2 5 (kch v p ka)) := by rw [cl_nI (by omega)]; exact (hv.2.1 _ hca.2).2.2.2
      have e6b : σ (0 + 6) (Int32.toNatClampNeg (nI (kch v p kb))) = nI (v.2 5 (kch v p kb)) := by rw [cl_nI (by omega)]; exact (hv.2.1 _ hcb.2).2.2.2
      refine ⟨fun h => absurd h (nI_pos (by omega)), fun _ => ⟨vca, ?_⟩⟩
      rw [e6a]
      refine c_MO_isAnyBelow Y (d + 1) hf (by omega) hok _ (by omega) _ ?_
      cases hab : anyB s.1 (v.2 5 (kch v p ka)) with
      | true => exact ⟨fun _ => hw (by unfold dep1; rw [ha, hb]; simp only [hab, Bool.true_or, if_true]), fun h => absurd h (by decide)⟩
      | false =>
        refine ⟨fun h => absurd rfl h, fun _ => ⟨vcb, ?_⟩⟩
        rw [e6b]
        refine c_MO_isAnyBelow Y (d + 1) hf (by omega) hok _ (by omega) _ ?_
        cases hbb : anyB s.1 (v.2 5 (kch v p kb)) with
        | true => exact ⟨fun h => absurd h (by decide), fun _ => hw (by unfold dep1; rw [ha, hb]; simp only [hbb, Bool.or_true, if_true])⟩
        | false =>
          have ed : dep1 c v p s u = if cD c 0 u = 60 then (if pB (lessV v (kch v p ka) (kch v p kb)) then s else (s.1 ++ [100 * v.2 5 (kch v p kb) + 8], s.2)) else (if pB (sameV v (kch v p ka) (kch v p kb)) then s else (s.1 ++ [100 * v.2 5 (kch v p kb) + 9], s.2)) := by
            unfold dep1
            rw [ha, hb]
            simp only [hab, hbb, Bool.or_false]
            rfl
          refine ⟨fun _ => ⟨vu, ?_⟩, fun h => absurd rfl h⟩
          rw [show σ (0 + 17) u = _ from e17]
          refine ⟨fun hne => ?_, fun he => ?_⟩
          · rw [z_eq (by omega) 60 (by omega)] at hne
            rw [if_neg hne] at ed
            refine s_MO_findsWaiter_117 Y (d + 2) 0 _ _ _ σ (rN k) ⟨vu, ?_⟩
            rw [cu, show σ (0 + 17) u = _ from e17]
            refine ⟨fun h => absurd ((z_eq (by omega) 61 (by omega)).mpr (by omega)) h, fun _ => ?_⟩
            refine c_MO_areSame Y d w hv hca.2 hcb.2 _ (fun hs => ?_) (fun hs => ?_)
            · refine ⟨fun _ => hk σ ?_ (fdK.refl σ), fun z => absurd z (by decide)⟩
              rw [ed, pB_t hs]
              exact hf
            · refine ⟨fun z => absurd rfl z, fun _ => ⟨vcb, ?_⟩⟩
              rw [e6b]
              refine c_MO_finds Y (d + 2) hf hl _ 9 (by omega) _ (fun σ' q1 q2 => hk σ' ?_ q2)
              rw [ed, pB_f hs]
              show FM σ' (L ++ (s.1 ++ _)) (wt + s.2)
              rw [← List.append_assoc]
              exact q1
          · rw [z_eq (by omega) 60 (by omega)] at he
            rw [if_pos he] at ed
            refine c_MO_isLess Y (d + 2) w hv hca.2 hcb.2 _ (fun hs => ?_) (fun hs => ?_)
            · refine ⟨fun _ => ?_, fun z => absurd z (by decide)⟩
              refine s_MO_findsWaiter_117 Y (d + 2) 0 _ _ _ σ (rN k) ⟨vu, ?_⟩
              rw [cu, show σ (0 + 17) u = _ from e17]
              refine ⟨fun _ => hk σ ?_ (fdK.refl σ), fun h => ?_⟩
              · rw [ed, pB_t hs]
                exact hf
              · rw [z_eq (by omega) 61 (by omega)] at h
                omega
            · refine ⟨fun z => absurd rfl z, fun _ => ⟨vcb, ?_⟩⟩
              rw [e6b]
              refine c_MO_finds Y (d + 2) hf hl _ 8 (by omega) _ (fun σ' q1 q2 => hk σ' ?_ q2)
              rw [ed, pB_f hs]
              show FM σ' (L ++ (s.1 ++ _)) (wt + s.2)
              rw [← List.append_assoc]
              exact q1
/-- how many of a check's dependent ones stand ahead of one -/
def ahd (f n u : Nat) : Nat := if u ≤ f then 0 else if u ≤ f + n then u - f else n
theorem c_MO_waiters (Y : List kd) (d : Nat) {v : VT} (w : WFV v) {c : CT} (wc : WFC c) {σ : sS} (hx : GM σ v c) {L : List Nat} {s : List Nat × Nat} {wt : Nat} (hf : FM σ (L ++ s.1) (wt + s.2)) {q p : Nat} (hq : q < cM c) (hs : cF c 0 q = 123) (hp : p < v.1) (h2 : v.2 0 p = 2) (hl : (L ++ s.1).length + v.2 2 p < 16384) (hok : okF s.1) (k : sS → Prop) (hk : ∀ σ', FM σ' (L ++ (depK c v p (cF c 8 q) s (cF c 9 q)).1) (wt + (depK c v p (cF c 8 q) s (cF c 9 q)).2) → fdK σ σ' → k σ') :
    Jd Y (d + 4) y_MO_endsRecord 31 [(0, sR 0 (.inl 6)), (1, sI (nI q)), (2, sI (nI p)), (3, sI (nI L.length)), (4, sI 0)] [] σ (rN k) := by
  have hw32 := wc.2.2.1
  have hm := wc.2.1
  have cq := wc.2.2.2.2.2.2.2.1 q hq
  have hwq := (wc.2.2.2.2.2.2.2.2.1 q hq hs).2.1
  have key : ∀ m u, u + m = cW c → ∀ τ : sS, FM τ (L ++ (depK c v p (cF c 8 q) s (ahd (cF c 8 q) (cF c 9 q) u)).1) (wt + (depK c v p (cF c 8 q) s (ahd (cF c 8 q) (cF c 9 q) u)).2) → fdK σ τ → Jd Y (d + 3 + 1) y_MO_endsRecord 31 [(0, sR 0 (.inl 6)), (1, sI (nI q)), (2, sI (nI p)), (3, sI (nI L.length)), (4, sI (nI u))] [] τ (rN k) := by
    intro m
    induction m with
    | zero =>
      intro u hu τ t1 t2
      have hx' := hx.kept wc t2
      have : ahd (cF c 8 q) (cF c 9 q) u = cF c 9 q := by unfold ahd; split <;> (try split) <;> omega
      rw [this] at t1
      refine s_MO_endsRecord_31 Y (d + 3) 0 _ _ _ _ τ (rN k) ⟨fun _ => hk τ t1 t2, fun h => ?_⟩
      rw [hx'.2.2.2.1, i32_lt (by omega) (by omega)] at h
      omega
    | succ m ih =>
      intro u hu τ t1 t2
      have hx' := hx.kept wc t2
      have huW : u < cW c := by omega
      obtain ⟨e16, -⟩ := hx'.2.2.2.2.2.2 u huW
      have hq3 := (wc.2.2.2.2.2.2.2.2.2.1 u huW).2.2.2.2.2
      have hio := hwq u huW
      refine s_MO_endsRecord_31 Y (d + 3) 0 _ _ _ _ τ (rN k) ⟨fun h => ?_, fun _ => ⟨vinI (by omega) (by omega), ?_⟩⟩
      · rw [hx'.2.2.2.1, i32_lt (by omega) (by omega)] at h
        omega
      · rw [cl_nI (by omega), show τ (0 + 16) u = _ from e16, i32_eq (by omega) (by omega)]
        refine ⟨fun h => ?_, fun h => ?_⟩
        · have ea : ahd (cF c 8 q) (cF c 9 q) (u + 1) = ahd (cF c 8 q) (cF c 9 q) u := by
            have := fun z => h (hio.mpr z)
            unfold ahd
            split <;> split <;> (try split) <;> (try split) <;> omega
          refine s_MO_endsRecord_59 Y (d + 3) 0 _ _ _ _ τ (rN k) ?_
          rw [nI_s1]
          exact ih (u + 1) (by omega) τ (by rw [ea]; exact t1) t2
        · have h := hio.mp h
          have ea : ahd (cF c 8 q) (cF c 9 q) u = u - cF c 8 q := by unfold ahd; split <;> (try split) <;> omega
          have eb : ahd (cF c 8 q) (cF c 9 q) (u + 1) = u - cF c 8 q + 1 := by unfold ahd; split <;> (try split) <;> omega
          rw [ea] at t1
          have dl := depK_len (c := c) w hp (cF c 8 q) s (u - cF c 8 q)
          have hps := psi_le v p s.1
          have e1 : depK c v p (cF c 8 q) s (u - cF c 8 q + 1) = dep1 c v p (depK c v p (cF c 8 q) s (u - cF c 8 q)) (cF c 8 q + (u - cF c 8 q)) := rfl
          have e2 : cF c 8 q + (u - cF c 8 q) = u := by omega
          rw [e2] at e1
          refine c_MO_findsWaiter Y d w wc hx' t1 huW hp h2 ?_ (okF_dep w hp _ hok _) _ (fun τ' u1 u2 => ?_)
          · rw [List.length_append] at hl ⊢
            omega
          · refine s_MO_endsRecord_59 Y (d + 3) 0 _ _ _ _ τ' (rN k) ?_
            rw [nI_s1]
            refine ih (u + 1) (by omega) τ' ?_ (t2.trans u2)
            rw [eb, e1]
            exact u1
  have e0 : ahd (cF c 8 q) (cF c 9 q) 0 = 0 := by unfold ahd; rw [if_pos (Nat.zero_le _)]
  have := key (cW c) 0 (by omega) σ (by rw [e0]; exact hf) (fdK.refl σ)
  exact this
theorem c_MO_isAgain (Y : List kd) (d : Nat) {v : VT} (w : WFV v) {σ : sS} (hv : MV σ v) {p j : Nat} (hp : p < v.1) (hj : j < v.2 2 p) (k : Int32 → sS → Prop) (hk : k (if pB (∃ e, e < j ∧ sameV v (kch v p e) (kch v p j)) then 1 else 0) σ) : CJ Y (d + 3) y_MO_isAgain [sR 0 (.inl 6), sI (nI p), sI (nI j)] σ (rI k) := by
  have h20 := w.2.1
  have hk5 := w.kids5 hp
  refine s_MO_isAgain_0 Y (d + 2) 0 _ _ σ (rI k) ?_
  have key : ∀ m i, i + m = j → (¬ ∃ e, e < i ∧ sameV v (kch v p e) (kch v p j)) → Jd Y (d + 2 + 1) y_MO_isAgain 2 [(0, sR 0 (.inl 6)), (1, sI (nI p)), (2, sI (nI j)), (3, sI (nI i))] [] σ (rI k) := by
    intro m
    induction m with
    | zero =>
      intro i hi hno
      have : i = j := by omega
      subst this
      rw [pB_f hno] at hk
      refine s_MO_isAgain_2 Y (d + 2) 0 _ _ _ σ (rI k) ⟨fun _ => ⟨Or.inl rfl, hk⟩, fun h => ?_⟩
      rw [i32_lt (by omega) (by omega)] at h
      omega
    | succ m ih =>
      intro i hi hno
      have hij : i < j := by omega
      refine s_MO_isAgain_2 Y (d + 2) 0 _ _ _ σ (rI k) ⟨fun h => ?_, fun _ => ?_⟩
      · rw [i32_lt (by omega) (by omega)] at h
        omega
      · refine c_MO_childOf Y (d + 2) w hv hp (by omega) _ (c_MO_childOf Y (d + 2) w hv hp (by omega) _ ?_)
        refine c_MO_areSame Y d w hv (w.kchlt hp (by omega)).2 (w.kchlt hp hj).2 _ (fun hs => ?_) (fun hs => ?_)
        · rw [pB_t ⟨i, hij, hs⟩] at hk
          exact ⟨fun h => absurd h (by decide), fun _ => ⟨Or.inr rfl, hk⟩⟩
        · refine ⟨fun _ => ?_, fun h => absurd rfl h⟩
          rw [nI_s1]
          refine ih (i + 1) (by omega) ?_
          rintro ⟨e, h1, h2⟩
          by_cases z : e = i
          · subst z; exact hs h2
          · exact hno ⟨e, by omega, h2⟩
  exact key j 0 (by omega) (fun ⟨e, h1, _⟩ => Nat.not_lt_zero _ h1)
theorem c_MO_twins (Y : List kd) (d : Nat) {v : VT} (w : WFV v) {c : CT} (wc : WFC c) {σ : sS} (hx : GM σ v c) {L : List Nat} {wt : Nat} (hf : FM σ L wt) {p : Nat} (hp : p < v.1) (hl : L.length + v.2 2 p < 16384) (k : sS → Prop) (hk : ∀ σ', FM σ' (L ++ if v.2 0 p = 3 then (twL v p (v.2 2 p)).1 else []) wt → fdK σ σ' → k σ') : Jd Y (d + 4) y_MO_findsAgain 92 [(0, sR 0 (.inl 6)), (2, sI (nI p)), (3, sI 0)] [] σ (rN k) := by
  have h20 := w.2.1
  have hk5 := w.kids5 hp
  have kd := w.2.2.2.2.2.2.2 p hp
  have v1 : vp_in (nI p) 21 := vinI (by omega) (by omega)
  have lt1 : ∀ i, (twL v p i).1.length ≤ i := by
    intro i
    induction i with
    | zero => exact Nat.le_refl _
    | succ i ih =>
      show ((twL v p i).1 ++ (if _ then _ else _ : List Nat × Nat).1).length ≤ i + 1
      rw [List.length_append]
      split
      · show _ + 1 ≤ _; omega
      · show _ + 0 ≤ _; omega
  by_cases h3 : v.2 0 p = 3
  · rw [if_pos h3] at hk
    have key : ∀ m i, i + m = v.2 2 p → ∀ τ : sS, FM τ (L ++ (twL v p i).1) wt → fdK σ τ → Jd Y (d + 3 + 1) y_MO_findsAgain 92 [(0, sR 0 (.inl 6)), (2, sI (nI p)), (3, sI (nI i))] [] τ (rN k) := by
      intro m
      induction m with
      | zero =>
        intro i hi τ t1 t2
        have hx' := hx.kept wc t2
        have : i = v.2 2 p := by omega
        subst this
        refine s_MO_findsAgain_92 Y (d + 3) 0 _ _ τ (rN k) ⟨v1, fun _ => hk τ t1 t2, fun h => ?_⟩
        rw [cl_nI (by omega), show τ (0 + 3) p = _ from hx'.1.num w hp (by omega), i32_lt (by omega) (by omega)] at h
        omega
      | succ m ih =>
        intro i hi τ t1 t2
        have hx' := hx.kept wc t2
        have hiK : i < v.2 2 p := by omega
        have hc := w.kchlt hp hiK
        have lt2 := lt1 i
        have es : (twL v p (i + 1)).1 = (twL v p i).1 ++ (if pB (∃ e, e < i ∧ sameV v (kch v p e) (kch v p i)) then ([100 * v.2 5 (kch v p i) + 12], 0) else ([], 0) : List Nat × Nat).1 := rfl
        have nx : ∀ τ' : sS, FM τ' (L ++ (twL v p (i + 1)).1) wt → fdK τ τ' → Jd Y (d + 3 + 1) y_MO_findsAgain 138 [(0, sR 0 (.inl 6)), (2, sI (nI p)), (3, sI (nI i))] [] τ' (rN k) := by
          intro τ' u1 u2
          refine s_MO_findsAgain_138 Y (d + 3) 0 _ _ τ' (rN k) ?_
          rw [nI_s1]
          exact ih (i + 1) (by omega) τ' u1 (t2.trans u2)
        refine s_MO_findsAgain_92 Y (d + 3) 0 _ _ τ (rN k) ⟨v1, fun h => ?_, fun _ => ⟨v1, fun h => ?_, fun _ => ?_⟩⟩
        · rw [cl_nI (by omega), show τ (0 + 3) p = _ from hx'.1.num w hp (by omega), i32_lt (by omega) (by omega)] at h
          omega
        · rw [cl_nI (by omega), show τ (0 + 2) p = _ from (hx'.1.2.1 p hp).1, z_eq (by omega) 3 (by omega)] at h
          exact absurd h3 h
        · refine c_MO_isAgain Y d w hx'.1 hp hiK _ ?_
          cases hb : pB (∃ e, e < i ∧ sameV v (kch v p e) (kch v p i)) with
          | false =>
            rw [hb] at es
            refine ⟨fun _ => nx τ ?_ (fdK.refl τ), fun h => absurd rfl h⟩
            rw [es]
            show FM τ (L ++ ((twL v p i).1 ++ [])) wt
            rw [List.append_nil]
            exact t1
          | true =>
            rw [hb] at es
            refine ⟨fun h => absurd h (by decide), fun _ => ?_⟩
            refine c_MO_childOf Y (d + 3) w hx'.1 hp (by omega) _ ⟨vinI (by omega) (by omega), ?_⟩
            rw [cl_nI (by omega), show τ (0 + 6) (kch v p i) = _ from (hx'.1.2.1 _ hc.2).2.2.2]
            refine c_MO_finds Y (d + 3) t1 (by rw [List.length_append]; omega) _ 12 (by omega) _ (fun τ' u1 u2 => nx τ' ?_ u2)
            rw [es, ← List.append_assoc]
            exact u1
    refine key (v.2 2 p) 0 (by omega) σ ?_ (fdK.refl σ)
    show FM σ (L ++ []) wt
    rw [List.append_nil]
    exact hf
  · rw [if_neg h3, List.append_nil] at hk
    refine s_MO_findsAgain_92 Y (d + 3) 0 _ _ σ (rN k) ⟨v1, fun _ => hk σ hf (fdK.refl σ), fun _ => ⟨v1, fun _ => hk σ hf (fdK.refl σ), fun h => ?_⟩⟩
    rw [cl_nI (by omega), show σ (0 + 2) p = _ from (hx.1.2.1 p hp).1, z_eq (by omega) 3 (by omega)] at h
    exact absurd h h3
theorem c_MO_takesSecond (Y : List kd) (d : Nat) {σ : sS} {L A B : List Nat} {w : Nat} (hf : FM σ (L ++ A ++ B) w) (hl : (L ++ A ++ B).length ≤ 16384) (k : sS → Prop) (hk : ∀ σ', FM σ' (L ++ B) w → fdK σ σ' → k σ') : CJ Y d y_MO_takesSecond [sR 0 (.inl 6), sI (nI L.length), sI (nI (L ++ A).length)] σ (rN k) := by
  have l1 : (L ++ A).length = L.length + A.length := List.length_append
  have l2 : (L ++ A ++ B).length = L.length + A.length + B.length := by rw [List.length_append, l1]
  refine s_MO_takesSecond_0 Y d 0 _ _ σ (rN k) ?_
  rw [hf.1, nI_subm (by omega)]
  have en : (L ++ A ++ B).length - (L ++ A).length = B.length := by omega
  rw [en]
  have key : ∀ m i, i + m = B.length → ∀ τ : sS, (∀ j, j < L.length + i → ∀ x, (L ++ B)[j]? = some x → τ 20 j = nI (x / 100) ∧ τ 21 j = nI (x % 100)) → (∀ j, L.length + i ≤ j → τ 20 j = σ 20 j ∧ τ 21 j = σ 21 j) → (∀ x, x ≠ 20 → x ≠ 21 → τ x = σ x) → Jd Y d y_MO_takesSecond 10 [(0, sR 0 (.inl 6)), (1, sI (nI L.length)), (2, sI (nI (L ++ A).length)), (3, sI (nI B.length)), (4, sI (nI i))] [] τ (rN k) := by
    intro m
    induction m with
    | zero =>
      intro i hi τ t1 t2 t3
      have : i = B.length := by omega
      subst this
      refine s_MO_takesSecond_10 Y d 0 _ _ _ _ τ (rN k) ⟨fun _ => ?_, fun h => ?_⟩
      · rw [nI_add]
        refine hk _ ⟨?_, ?_, fun j x hx => ?_⟩ ⟨fun x a b e => ?_, fun j a b => ?_⟩
        · rw [up_self, List.length_append]
        · rw [up_other _ _ (Or.inr (by omega)), t3 0 (by omega) (by omega)]; exact hf.2.1
        · rw [up_cell _ _ (by omega), up_cell _ _ (by omega)]
          have hj := (List.getElem?_eq_some_iff.mp hx).1
          rw [List.length_append] at hj
          exact t1 j hj x hx
        · rw [up_cell _ _ a, t3 x b e]
        · rw [up_other _ _ (Or.inr a), t3 0 (by omega) (by omega)]
      · rw [i32_lt (by omega) (by omega)] at h
        omega
    | succ m ih =>
      intro i hi τ t1 t2 t3
      have v1 : vp_in (nI (L ++ A).length + nI i) 16384 := by rw [nI_add]; exact vinI (by omega) (by omega)
      have v2 : vp_in (nI L.length + nI i) 16384 := by rw [nI_add]; exact vinI (by omega) (by omega)
      refine s_MO_takesSecond_10 Y d 0 _ _ _ _ τ (rN k) ⟨fun h => ?_, fun _ => ⟨v1, v2, v1, v2, ?_⟩⟩
      · rw [i32_lt (by omega) (by omega)] at h
        omega
      · rw [nI_add, nI_add, cl_nI (by omega), cl_nI (by omega), nI_s1, up_cell _ _ (show (0 + 21 : Nat) ≠ 0 + 20 by omega)]
        have hsrc := t2 ((L ++ A).length + i) (by omega)
        have hB : ∃ x, B[i]? = some x := ⟨B[i]'(by omega), List.getElem?_eq_getElem (by omega)⟩
        obtain ⟨x, hx⟩ := hB
        have hfx := hf.2.2 ((L ++ A).length + i) x (by rw [List.getElem?_append_right (by omega), show (L ++ A).length + i - (L ++ A).length = i by omega]; exact hx)
        refine ih (i + 1) (by omega) _ (fun j hj y hy => ?_) (fun j hj => ?_) (fun y a b => ?_)
        · rw [up_cell _ _ (show (20 : Nat) ≠ 0 + 21 by omega)]
          by_cases e : j = L.length + i
          · subst e
            rw [List.getElem?_append_right (by omega), show L.length + i - L.length = i by omega, hx] at hy
            have := Option.some.inj hy
            subst this
            refine ⟨?_, ?_⟩
            · refine (up_self τ 20 _ _).trans ?_
              exact hsrc.1.trans hfx.1
            · refine (up_self _ 21 _ _).trans ?_
              exact hsrc.2.trans hfx.2
          · rw [up_other _ _ (Or.inr e), up_other _ _ (Or.inr e), up_cell _ _ (show (21 : Nat) ≠ 0 + 20 by omega)]
            exact t1 j (by omega) y hy
        · rw [up_cell _ _ (show (20 : Nat) ≠ 0 + 21 by omega), up_other _ _ (Or.inr (by omega)), up_other _ _ (Or.inr (by omega)), up_cell _ _ (show (21 : Nat) ≠ 0 + 20 by omega)]
          exact t2 j (by omega)
        · rw [up_cell _ _ (by omega), up_cell _ _ (by omega)]
          exact t3 y a b
  refine key B.length 0 (by omega) σ (fun j hj x hx => ?_) (fun j hj => ⟨rfl, rfl⟩) (fun _ _ _ => rfl)
  refine hf.2.2 j x ?_
  rw [List.getElem?_append_left (by omega)] at hx
  rw [List.getElem?_append_left (by omega), List.getElem?_append_left (by omega)]
  exact hx
