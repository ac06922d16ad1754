/-! by lot, the rounds -/
theorem X_lotsGo {v : VT} {c : CT} {n : Nat} {L : Nat → Nat} {m : Nat} {T : Nat → Nat} {rf : Nat → Int32} {im : Option (VT × CT)} (w : WFV v) (wc : WFC c) {t : Nat} (e0 : Int32) (ht : t < 2 ^ 31) (R : Nat → (Nat × Nat) × Int32) (U : Nat → VT × Int32) (hU : ∀ i, U i = lotN (v, (R i).2) 4) (hR : ∀ i, R (i + 1) = (((R i).1.1 + (fl c (U i).1).1.length, (R i).1.2 + (if (fl c (U i).1).1.length = 0 then 1 else 0)), (U i).2)) (k : Int32 → sS → Prop) (hk : ∀ τ, AX τ v c n L m T rf im → k (if e0 = 0 then nI (R t).1.1 else nI (R t).1.2) τ) : ∀ r i τ, i + r = t → AX τ v c n L m T rf im → τ 0 13 = (R i).2 → Jd LX 300 y_GF_lots 55 [(0, sR 0 (.inl 5)), (1, sI (nI t)), (3, sI e0), (4, sI (nI (R i).1.1)), (5, sI (nI (R i).1.2)), (6, sI (nI i))] [] τ (rI k) := by
    intro r
    induction r with
    | zero =>
      intro i τ hi hxx h13
      have ei : i = t := by omega
      subst ei
      refine s_GF_lots_55 LX 299 0 _ _ _ _ _ τ (rI k) ⟨fun _ => ⟨fun z => ?_, fun z => ?_⟩, fun z => ?_⟩
      · have hk := hk τ hxx
        rw [if_neg z] at hk; exact hk
      · have hk := hk τ hxx
        rw [if_pos z] at hk; exact hk
      · rw [i32_lt (by omega) (by omega)] at z; omega
    | succ r ih =>
      intro i τ hi hxx h13
      have wl : WFV (U i).1 := by rw [hU]; exact lotN_ok (q := (v, (R i).2)) w 4
      have hl := fl_len wc wl
      have e : R (i + 1) = (((R i).1.1 + (fl c (U i).1).1.length, (R i).1.2 + (if (fl c (U i).1).1.length = 0 then 1 else 0)), (U i).2) := hR i
      have nx := fun τ => ih (i + 1) τ (by omega)
      rw [e] at nx
      refine s_GF_lots_55 LX 299 0 _ _ _ _ _ τ (rI k) ⟨fun z => ?_, fun _ => X_tryLots 295 w hxx h13 _ (fun τ1 g1 g2 g3 => ?_)⟩
      · rw [i32_lt (by omega) (by omega)] at z; omega
      rw [← hU i] at g1 g3
      refine X_gatherT 299 (by omega) wc g2 wl g1 _ (fun τ2 f1 f2 f3 f4 => ?_)
      rw [z_eq (by omega) 0 (by omega), nI_add]
      refine ⟨fun q => ?_, fun q => ?_⟩
      · refine s_GF_lots_93 LX 299 0 _ _ _ _ _ τ2 (rI k) ?_
        rw [if_neg q] at nx
        rw [nI_s1]
        exact nx τ2 f2 (by rw [f4]; exact g3)
      · refine s_GF_lots_93 LX 299 0 _ _ _ _ _ τ2 (rI k) ?_
        rw [if_pos q] at nx
        rw [nI_s1, nI_s1]
        exact nx τ2 f2 (by rw [f4]; exact g3)

theorem M_lotsGo {v : VT} {c : CT} {n : Nat} {L : Nat → Nat} {m : Nat} {T : Nat → Nat} {rf : Nat → Int32} {im : Option (VT × CT)} (w : WFV v) (wc : WFC c) {t : Nat} (e0 : Int32) (ht : t < 2 ^ 31) (R : Nat → (Nat × Nat) × Int32) (U : Nat → VT × Int32) (hU : ∀ i, U i = lotN (v, (R i).2) 4) (hR : ∀ i, R (i + 1) = (((R i).1.1 + (fl c (U i).1).1.length, (R i).1.2 + (if (fl c (U i).1).1.length = 0 then 1 else 0)), (U i).2)) (k : Int32 → sS → Prop) (hk : ∀ τ, AM τ v c n L m T rf im → k (if e0 = 0 then nI (R t).1.1 else nI (R t).1.2) τ) : ∀ r i τ, i + r = t → AM τ v c n L m T rf im → τ 0 53 = (R i).2 → Jd LM 300 y_MO_lots 50 [(0, sR 0 (.inl 6)), (1, sI (nI t)), (3, sI e0), (5, sI (if e0 = 0 then nI (R i).1.1 else nI (R i).1.2)), (6, sI (nI i))] [] τ (rI k) := by
    intro r
    induction r with
    | zero =>
      intro i τ hi hmm h53
      have ei : i = t := by omega
      subst ei
      refine s_MO_lots_50 LM 299 0 _ _ _ _ τ (rI k) ⟨fun _ => hk _ hmm, fun z => ?_⟩
      rw [i32_lt (by omega) (by omega)] at z; omega
    | succ r ih =>
      intro i τ hi hmm h53
      obtain ⟨V, eV⟩ : ∃ V, V = lotN (v, (R i).2) := ⟨_, rfl⟩
      have V0 : V 0 = (v, (R i).2) := by rw [eV]; rfl
      have V4 : V 4 = U i := by rw [eV, hU]
      have Vs : ∀ j, V (j + 1) = lotS (V j) := fun j => by rw [eV]; rfl
      have Vw : ∀ j, WFV (V j).1 := fun j => by rw [eV]; exact lotN_ok (q := (v, (R i).2)) w j
      have wl : WFV (U i).1 := by rw [← V4]; exact Vw 4
      clear eV
      have hl := fl_len wc wl
      have e : R (i + 1) = (((R i).1.1 + (fl c (U i).1).1.length, (R i).1.2 + (if (fl c (U i).1).1.length = 0 then 1 else 0)), (U i).2) := hR i
      have nx := fun τ => ih (i + 1) τ (by omega)
      rw [e] at nx
      refine s_MO_lots_50 LM 299 0 _ _ _ _ τ (rI k) ⟨fun z => ?_, fun _ => M_minds 297 wc hmm _ (fun τ1 a1 a2 a3 => ?_)⟩
      · rw [i32_lt (by omega) (by omega)] at z; omega
      have key2 : ∀ s j τ, j + s = 4 → AM τ (V j).1 c n L m T rf im → MND τ v → τ 0 53 = (V j).2 → Jd LM 300 y_MO_lots 63 [(0, sR 0 (.inl 6)), (1, sI (nI t)), (3, sI e0), (5, sI (if e0 = 0 then nI (R i).1.1 else nI (R i).1.2)), (6, sI (nI i)), (7, sI (nI j))] [] τ (rI k) := by
        intro s
        induction s with
        | zero =>
          intro j τ hj b1 b2 b3
          have ej : j = 4 := by omega
          rw [ej, V4] at b1 b3
          refine s_MO_lots_63 LM 299 0 _ _ _ _ _ τ (rI k) ⟨fun _ => ?_, fun z => ?_⟩
          · refine M_manyT 291 wl wc b1 b2 _ (fun τ2 c1 c2 c3 c4 => ?_)
            rw [z_eq (by omega) 0 (by omega)]
            have fin : ∀ s0 : Int32, (if e0 = 0 then nI (R i).1.1 else nI (R i).1.2) + s0 = (if e0 = 0 then nI ((R i).1.1 + (fl c (U i).1).1.length) else nI ((R i).1.2 + (if (fl c (U i).1).1.length = 0 then 1 else 0))) → Jd LM 300 y_MO_lots 106 [(0, sR 0 (.inl 6)), (1, sI (nI t)), (3, sI e0), (6, sI (nI i))] [sI s0, sI (if e0 = 0 then nI (R i).1.1 else nI (R i).1.2)] τ2 (rI k) := by
              intro s0 es
              refine s_MO_lots_106 LM 299 0 _ _ _ _ _ τ2 (rI k) (M_forgets 295 w wc c2 c3 _ (fun τ3 e1 _ e3 => ?_))
              rw [es, nI_s1]
              exact nx τ3 e1 (by rw [e3, c4]; exact b3)
            refine ⟨fun z => ⟨fun q => fin 0 ?_, fun q => fin 1 ?_⟩, fun z => fin _ ?_⟩
            · rw [if_neg z, if_neg z, if_neg q, Nat.add_zero, Int32.add_zero]
            · rw [if_neg z, if_neg z, if_pos q, nI_s1]
            · rw [if_pos z, if_pos z, nI_add]
          · rw [lit 4, i32_lt (by omega) (by omega)] at z; omega
        | succ s ihs =>
          intro j τ hj b1 b2 b3
          have nx2 := fun τ => ihs (j + 1) τ (by omega)
          have e2 := Vs j
          rw [e2] at nx2
          refine s_MO_lots_63 LM 299 0 _ _ _ _ _ τ (rI k) ⟨fun z => ?_, fun _ => ?_⟩
          · rw [lit 4, i32_lt (by omega) (by omega)] at z; omega
          · refine M_byLot 295 wc (Vw j) b1 b2 b3 _ (fun τ2 c1 c2 c3 => ?_)
            rw [nI_s1]
            exact nx2 τ2 c1 c2 c3
      exact key2 4 0 τ1 (by omega) (by rw [V0]; exact a1) a2 (by rw [a3, V0]; exact h53)
