/-! alike and areSame -/
theorem nI_inj {a b : Nat} (ha : a < 2 ^ 31) (hb : b < 2 ^ 31) (h : nI a = nI b) : a = b := (i32_eq ha hb).mp h
theorem c_TR_alikeBelow (Y : List kd) (d t : Nat) {v : VT} (w : WFV v) {σ : sS} (hv : XV σ t v) : ∀ (m a b dp : Nat), 5 ≤ v.2 6 a + m → dp ≤ v.2 6 a → a < v.1 → b < v.1 → ∀ (k : Int32 → sS → Prop), (sameV v a b → k 1 σ) → (¬ sameV v a b → k 0 σ) → CJ Y (d + m + 1) y_TR_alikeBelow [sR t (.inl 3), sI (nI a), sI (nI b), sI (nI dp)] σ (rI k) := by
  have h20 := w.2.1
  have kinds := fun p (hp : p < v.1) => (w.2.2.2.2.2.2.2 p hp)
  intro m
  induction m with
  | zero =>
    intro a b dp h5 hdp ha hb
    have := (kinds a ha).2.2.2.2.2.1
    omega
  | succ m ih =>
    intro a b dp h5 hdp ha hb k h1 h0
    have la := (kinds a ha).2.2.2.2.2.1
    have r0a := hv.rd h20 (f := 0) (by omega) ha rfl
    have r0b := hv.rd h20 (f := 0) (by omega) hb rfl
    have r1a := hv.rd h20 (f := 1) (by omega) ha rfl
    have r1b := hv.rd h20 (f := 1) (by omega) hb rfl
    have r2a := hv.rd h20 (f := 2) (by omega) ha rfl
    have r2b := hv.rd h20 (f := 2) (by omega) hb rfl
    have r4a := hv.rd h20 (f := 4) (by omega) ha rfl
    have r4b := hv.rd h20 (f := 4) (by omega) hb rfl
    have ka := (kinds a ha).1
    have kb := (kinds b hb).1
    have sa := w.sp20 ha
    have sb := w.sp20 hb
    have ca := w.kids5 ha
    have cb := w.kids5 hb
    have na : v.2 1 a ≤ 99 := by
      by_cases z : v.2 0 a = 0
      · exact (kinds a ha).2.1 z
      · rw [(kinds a ha).2.2.1 z]; omega
    have nb : v.2 1 b ≤ 99 := by
      by_cases z : v.2 0 b = 0
      · exact (kinds b hb).2.1 z
      · rw [(kinds b hb).2.2.1 z]; omega
    have st := sameV_step w ha hb
    refine s_TR_alikeBelow_0 Y (d + m + 1) t _ _ _ σ (rI k) ⟨fun hlt => ?_, fun _ => ⟨fun hne => ⟨Or.inl rfl, h0 fun z => hne ?_⟩, fun he0 => ⟨fun hne => ⟨Or.inl rfl, h0 fun z => hne ?_⟩, fun he1 => ⟨fun hne => ⟨Or.inl rfl, h0 fun z => hne ?_⟩, fun he2 => ⟨fun he4 => ?_, fun hne => ⟨Or.inl rfl, h0 fun z => hne ?_⟩⟩⟩⟩⟩⟩
    · rw [show (4 : Int32) = nI 4 from rfl, i32_lt (by omega) (by omega)] at hlt
      omega
    · rw [show t + 1 = t + 1 + 0 from rfl, r0a, r0b, (st.mp z).1.1]
    · rw [show t + 2 = t + 1 + 1 from rfl, r1a, r1b, (st.mp z).1.2.1]
    · rw [show t + 3 = t + 1 + 2 from rfl, r2a, r2b, (st.mp z).1.2.2]
    · have e0 : v.2 0 a = v.2 0 b := nI_inj (by omega) (by omega) (by rw [← r0a, ← r0b]; exact he0)
      have e1 : v.2 1 a = v.2 1 b := nI_inj (by omega) (by omega) (by rw [← r1a, ← r1b]; exact he1)
      have e2 : v.2 2 a = v.2 2 b := nI_inj (by omega) (by omega) (by rw [← r2a, ← r2b]; exact he2)
      have loop : ∀ x i, i + x = v.2 2 a → (∀ k, k < i → kidV v b (nI (v.2 3 (kch v a k))) < v.2 2 b ∧ sameV v (kch v a k) (kch v b (kidV v b (nI (v.2 3 (kch v a k)))))) → Jd Y (d + m + 1 + 1) y_TR_alikeBelow 101 [(0, sR t (.inl 3)), (2, sI (nI b)), (3, sI (nI dp)), (4, sI (nI (v.2 2 a))), (5, sI (nI (kch v a i))), (6, sI (nI i))] [] σ (rI k) := by
        intro x
        induction x with
        | zero =>
          intro i hi hk
          refine s_TR_alikeBelow_101 Y (d + m + 1) t _ _ _ _ _ σ (rI k) ⟨fun _ => ⟨Or.inr rfl, h1 (st.mpr ⟨⟨e0, e1, e2⟩, fun k hk2 => hk k (by omega)⟩)⟩, fun hlt => ?_⟩
          rw [i32_lt (by omega) (by omega)] at hlt
          omega
        | succ x ihx =>
          intro i hi hk
          have hiK : i < v.2 2 a := by omega
          have hc := w.kchlt ha hiK
          have lc := ((kinds a ha).2.2.2.2.2.2 i hiK).2.2.2
          have rd3 := hv.rd h20 (f := 3) (by omega) hc.2 rfl
          have rs := hv.rd h20 (f := 4) (by omega) hc.2 rfl
          refine s_TR_alikeBelow_101 Y (d + m + 1) t _ _ _ _ _ σ (rI k) ⟨fun hlt => ?_, fun _ => ?_⟩
          · rw [i32_lt (by omega) (by omega)] at hlt
            omega
          · rw [show t + 4 = t + 1 + 3 from rfl, rd3]
            refine c_TR_child Y (d + m) t w hv hb _ _ ?_
            unfold childV
            by_cases hkid : kidV v b (nI (v.2 3 (kch v a i))) < v.2 2 b
            · rw [if_pos hkid]
              have hcb := w.kchlt hb hkid
              refine ⟨fun z => absurd z (nI_pos (by omega)), fun _ => ?_⟩
              rw [nI_s1]
              refine ih (kch v a i) (kch v b (kidV v b (nI (v.2 3 (kch v a i))))) (dp + 1) (by omega) (by omega) hc.2 hcb.2 _ (fun hs => ⟨fun _ => ?_, fun z => absurd z (by decide)⟩) (fun hs => ⟨fun z => absurd rfl z, fun _ => ⟨Or.inl rfl, h0 fun z => hs ((st.mp z).2 i hiK).2⟩⟩)
              rw [show t + 5 = t + 1 + 4 from rfl, rs, nI_add, nI_s1]
              refine ihx (i + 1) (by omega) (fun k hk2 => ?_)
              by_cases e : k = i
              · subst e; exact ⟨hkid, hs⟩
              · exact hk k (by omega)
            · rw [if_neg hkid]
              exact ⟨fun _ => ⟨Or.inl rfl, h0 fun z => hkid ((st.mp z).2 i hiK).1⟩, fun z => absurd (by decide) z⟩
      have := loop (v.2 2 a) 0 (by omega) (fun k hk => absurd hk (Nat.not_lt_zero _))
      rw [show t + 3 = t + 1 + 2 from rfl, r2a, nI_s1]
      exact this
    · rw [show t + 5 = t + 1 + 4 from rfl, r4a, r4b, sameV_span w ha hb z]
theorem c_TR_alike (Y : List kd) (d t : Nat) {v : VT} (w : WFV v) {σ : sS} (hv : XV σ t v) (m a b : Nat) (h5 : 5 ≤ v.2 6 a + m) (ha : a < v.1) (hb : b < v.1) (k : Int32 → sS → Prop) (h1 : sameV v a b → k 1 σ) (h0 : ¬ sameV v a b → k 0 σ) : CJ Y (d + m + 2) y_TR_alike [sR t (.inl 3), sI (nI a), sI (nI b)] σ (rI k) := s_TR_alike_0 Y (d + m + 1) t _ _ σ (rI k) (c_TR_alikeBelow Y d t w hv m a b 0 h5 (Nat.zero_le _) ha hb _ (fun hs => ⟨Or.inr rfl, h1 hs⟩) (fun hs => ⟨Or.inl rfl, h0 hs⟩))
