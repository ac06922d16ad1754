/-! the class's Gatherer: looking -/
def LkX (Y : List kd) (D tr : Nat) (c : CT) (v : VT) (r x dp U : Nat) (res : List Nat × Nat) : Prop := ∀ (σ : sS) (L : List Nat) (wt : Nat) (k : sS → Prop), L.length + 6 * v.2 4 x ≤ U → GX Y σ tr v c → FX σ L wt → (∀ σ', FX σ' (L ++ res.1) (wt + res.2) → xK σ σ' → k σ') → CJ Y D y_GA_look [sR 15 (.inl 1), sI (nI r), sI (nI x), sI (nI dp)] σ (rN k)
theorem foldR_succ (g : Nat → List Nat × Nat) (n : Nat) : foldR g (n + 1) = ((foldR g n).1 ++ (g n).1, (foldR g n).2 + (g n).2) := rfl
theorem c_GA_list (Y : List kd) (D tr : Nat) {v : VT} (w : WFV v) {c : CT} (wc : WFC c) {q p dp U : Nat} (hU : U ≤ 6060) (hq : q < cM c) (hp : p < v.1) (hdp : dp < 200) (res : Nat → List Nat × Nat) (hres : ∀ j, j < v.2 2 p → (res j).1.length ≤ 6 * v.2 4 (kch v p j)) (hlook : ∀ j, j < v.2 2 p → LkX Y (D + 1) tr c v (q + 1) (kch v p j) (dp + 1) U (res j))
    {σ : sS} {L : List Nat} {wt : Nat} (hx : GX Y σ tr v c) (hf : FX σ L wt) (hl : L.length + 6 * v.2 4 p ≤ U) (k : sS → Prop) (hk : ∀ σ', FX σ' (L ++ (if v.2 0 p = 3 then (lenL c v q p ++ (foldR res (v.2 2 p)).1, (foldR res (v.2 2 p)).2) else ([100 * v.2 5 p + 10], 0) : List Nat × Nat).1) (wt + (if v.2 0 p = 3 then (lenL c v q p ++ (foldR res (v.2 2 p)).1, (foldR res (v.2 2 p)).2) else ([100 * v.2 5 p + 10], 0) : List Nat × Nat).2) → xK σ σ' → k σ') :
    CJ Y (D + 2) y_GA_lookAtList [sR 15 (.inl 1), sI (nI q), sI (nI p), sI (nI dp)] σ (rN k) := by
  have h20 := w.2.1
  have hk5 := w.kids5 hp
  have kd := w.2.2.2.2.2.2.2 p hp
  have cq := wc.2.2.2.2.2.2.2.1 q hq
  have sp := w.sp20 hp
  have hm := wc.2.1
  have r0 : rd σ (tr + 1) 20 (nI p) = nI (v.2 0 p) := hx.rdv w (f := 0) (by omega) hp rfl
  have r2 : rd σ (tr + 3) 20 (nI p) = nI (v.2 2 p) := hx.rdv w (f := 2) (by omega) hp rfl
  have r5 : rd σ (tr + 6) 20 (nI p) = nI (v.2 5 p) := hx.rdv w (f := 5) (by omega) hp rfl
  have c1 : rd σ (15 + 3) 24 (nI q) = nI (cF c 1 q) := hx.rdc wc (f := 1) (by omega) hq rfl
  have c2 : rd σ (15 + 4) 24 (nI q) = nI (cF c 2 q) := hx.rdc wc (f := 2) (by omega) hq rfl
  refine s_GA_lookAtList_0 Y (D + 1) 15 _ _ _ σ (rN k) ⟨hx.ref, hx.ref, ?_⟩
  rw [hx.tr, r0, r2, r5, c1, c2, i32_lt (by omega) (by omega), i32_lt (by omega) (by omega)]
  refine ⟨fun h3 => ⟨hx.2.2.1, ?_⟩, fun h3 => ?_⟩
  · rw [z_eq (by omega) 3 (by omega)] at h3
    rw [if_pos h3] at hk
    have loop : ∀ m i, i + m = v.2 2 p → ∀ τ : sS, FX τ (L ++ (lenL c v q p ++ (foldR res i).1)) (wt + (foldR res i).2) → xK σ τ → (foldR res i).1.length + 6 * (p + 1) ≤ 6 * kch v p i → Jd Y (D + 1 + 1) y_GA_lookAtList 98 [(0, sR 15 (.inl 1)), (1, sI (nI q)), (3, sI (nI dp)), (5, sI (nI (v.2 2 p))), (6, sI (nI (kch v p i))), (7, sI (nI i))] [] τ (rN k) := by
      intro m
      induction m with
      | zero =>
        intro i hi τ t1 t2 t3
        have : i = v.2 2 p := by omega
        subst this
        refine s_GA_lookAtList_98 Y (D + 1) 15 _ _ _ _ _ τ (rN k) ⟨fun _ => hk τ t1 t2, fun h => ?_⟩
        rw [i32_lt (by omega) (by omega)] at h
        omega
      | succ m ih =>
        intro i hi τ t1 t2 t3
        have hx' := hx.kept t2
        have hiK : i < v.2 2 p := by omega
        have hci := w.kchlt hp hiK
        have hin : kch v p i + v.2 4 (kch v p i) ≤ p + v.2 4 p := ch_in w.2.2.1 hp (k := i + 1) (by omega)
        have hl1 : (lenL c v q p).length ≤ 1 := by
          unfold lenL
          split
          · exact Nat.le_refl _
          · exact Nat.zero_le _
        refine s_GA_lookAtList_98 Y (D + 1) 15 _ _ _ _ _ τ (rN k) ⟨fun h => ?_, fun _ => ?_⟩
        · rw [i32_lt (by omega) (by omega)] at h
          omega
        · rw [nI_s1, nI_s1]
          refine hlook i hiK τ _ _ _ ?_ hx' t1 (fun τ' u1 u2 => ?_)
          · rw [List.length_append, List.length_append]
            omega
          · have hx2 := hx'.kept u2
            refine ⟨hx2.ref, ?_⟩
            rw [hx2.tr, show rd τ' (tr + 5) 20 (nI (kch v p i)) = nI (v.2 4 (kch v p i)) from hx2.rdv w (f := 4) (by omega) hci.2 rfl, nI_add, nI_s1]
            refine ih (i + 1) (by omega) τ' ?_ (t2.trans u2) ?_
            · rw [foldR_succ]
              show FX τ' (L ++ (lenL c v q p ++ ((foldR res i).1 ++ (res i).1))) (wt + ((foldR res i).2 + (res i).2))
              rw [← List.append_assoc (lenL c v q p), ← List.append_assoc L, ← Nat.add_assoc]
              exact u1
            · rw [foldR_succ]
              show ((foldR res i).1 ++ (res i).1).length + 6 * (p + 1) ≤ 6 * (kch v p i + v.2 4 (kch v p i))
              rw [List.length_append]
              have := hres i hiK
              omega
    have start : ∀ τ : sS, FX τ (L ++ lenL c v q p) wt → xK σ τ → Jd Y (D + 1 + 1) y_GA_lookAtList 90 [(0, sR 15 (.inl 1)), (1, sI (nI q)), (2, sI (nI p)), (3, sI (nI dp)), (5, sI (nI (v.2 2 p)))] [] τ (rN k) := by
      intro τ t1 t2
      refine s_GA_lookAtList_90 Y (D + 1) 15 _ _ _ _ τ (rN k) ?_
      rw [nI_s1]
      refine loop (v.2 2 p) 0 (by omega) τ ?_ t2 (Nat.le_of_eq ?_)
      · show FX τ (L ++ (lenL c v q p ++ [])) wt
        rw [List.append_nil]
        exact t1
      · show 0 + 6 * (p + 1) = 6 * (p + 1)
        omega
    have bad : (v.2 2 p < cF c 1 q ∨ cF c 2 q < v.2 2 p) → Jd Y (D + 1 + 1) y_GA_lookAtList 82 [(0, sR 15 (.inl 1)), (1, sI (nI q)), (2, sI (nI p)), (3, sI (nI dp)), (4, sI (nI (v.2 5 p))), (5, sI (nI (v.2 2 p)))] [] σ (rN k) := by
      intro h
      refine s_GA_lookAtList_82 Y (D + 1) 15 _ _ _ _ _ σ (rN k) ?_
      refine c_GA_add Y D hf (by omega) _ 11 _ (fun τ t1 t2 => start τ ?_ t2)
      have : lenL c v q p = [100 * v.2 5 p + 11] := by unfold lenL; rw [if_pos h]
      rw [this]
      exact t1
    refine ⟨fun h => bad (Or.inl h), fun h => ⟨fun h' => ?_, fun h' => bad (Or.inr h')⟩⟩
    have : lenL c v q p = [] := by unfold lenL; rw [if_neg (fun z => z.elim h h')]
    refine start σ ?_ (xK.refl σ)
    rw [this, List.append_nil]
    exact hf
  · rw [z_eq (by omega) 3 (by omega)] at h3
    rw [if_neg h3] at hk
    exact c_GA_add Y D hf (by omega) _ 10 _ hk
theorem c_GA_fields (Y : List kd) (D tr : Nat) {v : VT} (w : WFV v) {c : CT} (wc : WFC c) {q p dp U : Nat} (hU : U ≤ 6060) (hq : q < cM c) (hs : cF c 0 q = 123) (hp : p < v.1) (h2 : v.2 0 p = 2) (hdp : dp < 200) (look : Nat → Nat → List Nat × Nat) (hlen : ∀ r x, r < cM c → x < v.1 → (look r x).1.length ≤ 6 * v.2 4 x) (hlook : ∀ k j, k < cF c 10 q → j < v.2 2 p → LkX Y (D + 1) tr c v (cch c q k) (kch v p j) (dp + 1) U (look (cch c q k) (kch v p j)))
    {σ : sS} {L : List Nat} {wt : Nat} (hx : GX Y σ tr v c) (hf : FX σ L wt) (hl : L.length + 6 * v.2 4 p ≤ U) (k : sS → Prop) (hk : ∀ σ', FX σ' (L ++ (foldR (fldK look c v q p) (cF c 10 q)).1) (wt + (foldR (fldK look c v q p) (cF c 10 q)).2) → xK σ σ' → k σ') :
    CJ Y (D + 2) y_GA_lookAtFields [sR 15 (.inl 1), sI (nI q), sI (nI p), sI (nI dp)] σ (rN k) := by
  have h20 := w.2.1
  have hm := wc.2.1
  have sp := w.sp20 hp
  have cq := wc.2.2.2.2.2.2.2.1 q hq
  have hKq := (wc.2.2.2.2.1 q hq)
  have e6 : cF c 6 q = cF c 10 q := by
    have := cq.2.2.2.2.2.2.1
    unfold inMany at this
    rw [if_pos hs] at this
    exact this.symm
  obtain ⟨fs1, fs2⟩ := fld_sum wc w hq hs hp h2 look hlen
  have hK24 : cF c 10 q ≤ 24 := by
    have := ch_big wc.2.2.2.2.1 hq (cF c 10 q) (Nat.le_refl _)
    have := hKq.2.1
    have := hKq.2.2.1
    omega
  have r6 : rd σ (15 + 8) 24 (nI q) = nI (cF c 6 q) := hx.rdc wc (f := 6) (by omega) hq rfl
  refine s_GA_lookAtFields_0 Y (D + 1) 15 _ _ _ σ (rN k) ?_
  rw [r6, e6, nI_s1]
  have loop : ∀ m i, i + m = cF c 10 q → ∀ τ : sS, FX τ (L ++ (foldR (fldK look c v q p) i).1) (wt + (foldR (fldK look c v q p) i).2) → xK σ τ → Jd Y (D + 1 + 1) y_GA_lookAtFields 21 [(0, sR 15 (.inl 1)), (2, sI (nI p)), (3, sI (nI dp)), (4, sI (nI (cF c 10 q))), (5, sI (nI (cch c q i))), (6, sI (nI i))] [] τ (rN k) := by
    intro m
    induction m with
    | zero =>
      intro i hi τ t1 t2
      have : i = cF c 10 q := by omega
      subst this
      refine s_GA_lookAtFields_21 Y (D + 1) 15 _ _ _ _ _ τ (rN k) ⟨fun _ => hk τ t1 t2, fun h => ?_⟩
      rw [i32_lt (by omega) (by omega)] at h
      omega
    | succ m ih =>
      intro i hi τ t1 t2
      have hx' := hx.kept t2
      have hiK : i < cF c 10 q := by omega
      have hcc : cch c q i < cM c := ch_part wc.2.2.2.2.1 hq hiK
      have cc := wc.2.2.2.2.2.2.2.1 _ hcc
      have rd4 := w.road4 hp
      have e4 : rd τ (15 + 6) 24 (nI (cch c q i)) = nI (cF c 4 (cch c q i)) := hx'.rdc wc (f := 4) (by omega) hcc rfl
      have e5 : rd τ (15 + 7) 24 (nI (cch c q i)) = nI (cF c 5 (cch c q i)) := hx'.rdc wc (f := 5) (by omega) hcc rfl
      have nx : ∀ τ' : sS, FX τ' (L ++ (foldR (fldK look c v q p) (i + 1)).1) (wt + (foldR (fldK look c v q p) (i + 1)).2) → xK τ τ' → Jd Y (D + 1 + 1) y_GA_lookAtFields 111 [(0, sR 15 (.inl 1)), (2, sI (nI p)), (3, sI (nI dp)), (4, sI (nI (cF c 10 q))), (5, sI (nI (cch c q i))), (6, sI (nI i))] [] τ' (rN k) := by
        intro τ' u1 u2
        have hx2 := hx'.kept u2
        refine s_GA_lookAtFields_111 Y (D + 1) 15 _ _ _ _ _ τ' (rN k) ?_
        rw [show rd τ' (15 + 5) 24 (nI (cch c q i)) = nI (cF c 3 (cch c q i)) from hx2.rdc wc (f := 3) (by omega) hcc rfl, nI_add, nI_s1]
        exact ih (i + 1) (by omega) τ' u1 (t2.trans u2)
      have fs1i := fs1 i (by omega)
      refine s_GA_lookAtFields_21 Y (D + 1) 15 _ _ _ _ _ τ (rN k) ⟨fun h => ?_, fun _ => ⟨hx'.ref, ?_⟩⟩
      · rw [i32_lt (by omega) (by omega)] at h
        omega
      · rw [hx'.tr, e4]
        refine c_TR_child Y D tr w hx'.2.2.2.1 hp _ _ ?_
        cases hkid : kidO v p (cF c 4 (cch c q i)) with
        | some x =>
          rw [childV_some hkid]
          obtain ⟨j, hj, rfl, -⟩ := kidO_nI w hp hkid
          have hcj := w.kchlt hp hj
          have e1 : fldK look c v q p i = look (cch c q i) (kch v p j) := by unfold fldK; rw [hkid]
          refine ⟨fun h => absurd h (nI_pos (by omega)), fun _ => ?_⟩
          rw [nI_s1]
          refine hlook i j hiK hj τ _ _ _ ?_ hx' t1 (fun τ' u1 u2 => nx τ' ?_ u2)
          · rw [List.length_append]
            have := fs2 i _ hiK hkid
            omega
          · rw [foldR_succ, e1]
            show FX τ' (L ++ ((foldR (fldK look c v q p) i).1 ++ _)) (wt + ((foldR (fldK look c v q p) i).2 + _))
            rw [← List.append_assoc, ← Nat.add_assoc]
            exact u1
        | none =>
          rw [childV_none hkid]
          refine ⟨fun _ => ?_, fun h => absurd (by decide) h⟩
          rw [e5]
          refine ⟨fun hne => nx τ ?_ (xK.refl τ), fun he => ⟨hx'.ref, ?_⟩⟩
          · rw [z_eq (by omega) 0 (by omega)] at hne
            have e1 : fldK look c v q p i = ([], 0) := by unfold fldK; rw [hkid]; exact if_neg hne
            rw [foldR_succ, e1]
            show FX τ (L ++ ((foldR (fldK look c v q p) i).1 ++ [])) (wt + ((foldR (fldK look c v q p) i).2 + 0))
            rw [List.append_nil]
            exact t1
          · rw [z_eq (by omega) 0 (by omega)] at he
            have e1 : fldK look c v q p i = ([100 * (10 * v.2 5 p + cF c 4 (cch c q i)) + 6], 0) := by unfold fldK; rw [hkid]; exact if_pos he
            rw [hx'.tr, show rd τ (tr + 6) 20 (nI p) = nI (v.2 5 p) from hx'.rdv w (f := 5) (by omega) hp rfl, show (10 : Int32) = nI 10 from rfl, pk_mul, nI_add]
            refine c_GA_add Y D t1 ?_ _ 6 _ (fun τ' u1 u2 => nx τ' ?_ u2)
            · rw [List.length_append]; omega
            · rw [foldR_succ, e1]
              show FX τ' (L ++ ((foldR (fldK look c v q p) i).1 ++ _)) (wt + ((foldR (fldK look c v q p) i).2 + 0))
              rw [← List.append_assoc]
              exact u1
  refine loop (cF c 10 q) 0 (by omega) σ ?_ (xK.refl σ)
  show FX σ (L ++ []) wt
  rw [List.append_nil]
  exact hf
/-- what a check of a record finds in a record -/
noncomputable def recR (c : CT) (v : VT) (q p : Nat) (look : Nat → Nat → List Nat × Nat) : List Nat × Nat := depK c v p (cF c 8 q) ((foldR (fldK look c v q p) (cF c 10 q)).1 ++ (strL c v q p (v.2 2 p)).1, (foldR (fldK look c v q p) (cF c 10 q)).2) (cF c 9 q)
theorem c_GA_record (Y : List kd) (D tr : Nat) {v : VT} (w : WFV v) {c : CT} (wc : WFC c) {q p dp U : Nat} (hU : U ≤ 6060) (hq : q < cM c) (hs : cF c 0 q = 123) (hp : p < v.1) (hdp : dp < 200) (look : Nat → Nat → List Nat × Nat) (hlen : ∀ r x, r < cM c → x < v.1 → (look r x).1.length ≤ 6 * v.2 4 x) (hokl : ∀ r x, r < cM c → x < v.1 → okF (look r x).1) (hlook : v.2 0 p = 2 → ∀ k j, k < cF c 10 q → j < v.2 2 p → LkX Y (D + 6) tr c v (cch c q k) (kch v p j) (dp + 1) U (look (cch c q k) (kch v p j)))
    {σ : sS} {L : List Nat} {wt : Nat} (hx : GX Y σ tr v c) (hf : FX σ L wt) (hl : L.length + 6 * v.2 4 p ≤ U) (k : sS → Prop) (hk : ∀ σ', FX σ' (L ++ (if v.2 0 p = 2 then recR c v q p look else ([100 * v.2 5 p + 5], 0)).1) (wt + (if v.2 0 p = 2 then recR c v q p look else ([100 * v.2 5 p + 5], 0)).2) → xK σ σ' → k σ') :
    CJ Y (D + 8) y_GA_lookAtRecord [sR 15 (.inl 1), sI (nI q), sI (nI p), sI (nI dp)] σ (rN k) := by
  have h20 := w.2.1
  have hm := wc.2.1
  have hk5 := w.kids5 hp
  have sp := w.sp20 hp
  have kd := w.2.2.2.2.2.2.2 p hp
  have cq := wc.2.2.2.2.2.2.2.1 q hq
  have cw := wc.2.2.1
  have r0 : rd σ (tr + 1) 20 (nI p) = nI (v.2 0 p) := hx.rdv w (f := 0) (by omega) hp rfl
  refine s_GA_lookAtRecord_0 Y (D + 7) 15 _ _ _ σ (rN k) ⟨hx.ref, ?_⟩
  rw [hx.tr, r0]
  refine ⟨fun h2 => ?_, fun h2 => ⟨hx.2.2.1, ?_⟩⟩
  · rw [z_eq (by omega) 2 (by omega)] at h2
    rw [if_pos h2] at hk
    have fs1 := (fld_sum wc w hq hs hp h2 look hlen).1 _ (Nat.le_refl _)
    refine c_GA_fields Y (D + 5) tr w wc hU hq hs hp h2 hdp look hlen (hlook h2) hx hf hl _ (fun σ1 a1 a2 => ?_)
    have hx1 := hx.kept a2
    refine c_GA_strangers Y (D + 5) w wc hx1 a1 hq hs hp h2 (by rw [List.length_append]; omega) _ (fun σ2 b1 b2 => ?_)
    have hx2 := hx1.kept b2
    rw [hf.1, show rd σ2 (15 + 10) 24 (nI q) = nI (cF c 8 q) from hx2.rdc wc (f := 8) (by omega) hq rfl, show rd σ2 (15 + 11) 24 (nI q) = nI (cF c 9 q) from hx2.rdc wc (f := 9) (by omega) hq rfl]
    obtain ⟨s, hs0⟩ : ∃ s : List Nat × Nat, s = ((foldR (fldK look c v q p) (cF c 10 q)).1 ++ (strL c v q p (v.2 2 p)).1, (foldR (fldK look c v q p) (cF c 10 q)).2) := ⟨_, rfl⟩
    have hslen : s.1.length = (foldR (fldK look c v q p) (cF c 10 q)).1.length + (strL c v q p (v.2 2 p)).1.length := by rw [hs0]; exact List.length_append
    have hsok : okF s.1 := by rw [hs0]; exact okF_app (okF_fold _ fun k hk => okF_fld wc w hq hp hokl hk) (okF_str w hp)
    have hpsi := psi_le v p s.1
    have hrec : recR c v q p look = depK c v p (cF c 8 q) s (cF c 9 q) := by rw [hs0]; rfl
    rw [hrec] at hk
    have loop : ∀ m i, i + m = cF c 9 q → ∀ τ : sS, FX τ (L ++ (depK c v p (cF c 8 q) s i).1) (wt + (depK c v p (cF c 8 q) s i).2) → xK σ τ → Jd Y (D + 7 + 1) y_GA_lookAtRecord 80 [(0, sR 15 (.inl 1)), (2, sI (nI p)), (4, sI (nI L.length)), (5, sI (nI (cF c 8 q))), (6, sI (nI (cF c 9 q))), (7, sI (nI i))] [] τ (rN k) := by
      intro m
      induction m with
      | zero =>
        intro i hi τ t1 t2
        have : i = cF c 9 q := by omega
        subst this
        refine s_GA_lookAtRecord_80 Y (D + 7) 15 _ _ _ _ _ τ (rN k) ⟨fun _ => hk τ t1 t2, fun h => ?_⟩
        rw [i32_lt (by omega) (by omega)] at h
        omega
      | succ m ih =>
        intro i hi τ t1 t2
        have hx' := hx.kept t2
        have dl := depK_len (c := c) w hp (cF c 8 q) s i
        refine s_GA_lookAtRecord_80 Y (D + 7) 15 _ _ _ _ _ τ (rN k) ⟨fun h => ?_, fun _ => ?_⟩
        · rw [i32_lt (by omega) (by omega)] at h
          omega
        · rw [nI_add]
          refine c_GA_dependent Y D w wc hx' t1 (by omega) hp ?_ (okF_dep w hp _ hsok i) _ (fun τ' u1 u2 => ?_)
          · rw [List.length_append]
            omega
          · rw [nI_s1]
            exact ih (i + 1) (by omega) τ' u1 (t2.trans u2)
    refine loop (cF c 9 q) 0 (by omega) σ2 ?_ (a2.trans b2)
    show FX σ2 (L ++ s.1) (wt + s.2)
    rw [hs0, ← List.append_assoc]
    exact b1
  · rw [z_eq (by omega) 2 (by omega)] at h2
    rw [if_neg h2] at hk
    rw [show rd σ (tr + 6) 20 (nI p) = nI (v.2 5 p) from hx.rdv w (f := 5) (by omega) hp rfl]
    exact c_GA_add Y (D + 6) hf (by omega) _ 5 _ hk
