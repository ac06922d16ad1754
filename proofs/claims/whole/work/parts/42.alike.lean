/-! alike and areSame -/
theorem nI_inj {a b : Nat} (ha : a < 2 ^ 31) (hb : b < 2 ^ 31) (h : nI a = nI b) : a = b := (i32_eq ha hb).mp h
theorem c_TR_alikeBelow (Y : List kd) (d t : Nat) {v : VT} (w : WFV v) {σ : sS} (hv : XV σ t v) : ∀ (m a b dp : Nat), 5 ≤ v.2 6 a + m → dp ≤ v.2 6 a → a < v.1 → b < v.1 → ∀ (k : Int32 → sS → Prop), (sameV v a b → k 1 σ) → (¬ sameV v a b → k 0 σ) → CJ Y (d + m + 1) y_TR_alikeBelow [sR t (.inl 3), sI (nI a), sI (nI b), sI (nI dp)] σ (rI k) := by
  have h20 := w.2.1
  have kinds := fun p (hp : p < v.1) => (w.2.2.2.2.2.2.2 p hp)
  intro m
  induction m with
  | zero =>
    intro a b dp h5 hdp ha hb
    have := (kinds a ha).2.2.2.2.2.1
    omega
  | succ m ih =>
    intro a b dp h5 hdp ha hb k h1 h0
    have la := (kinds a ha).2.2.2.2.2.1
    have r0a := hv.rd h20 (f := 0) (by omega) ha rfl
    have r0b := hv.rd h20 (f := 0) (by omega) hb rfl
    have r1a := hv.rd h20 (f := 1) (by omega) ha rfl
    have r1b := hv.rd h20 (f := 1) (by omega) hb rfl
    have r2a := hv.rd h20 (f := 2) (by omega) ha rfl
    have r2b := hv.rd h20 (f := 2) (by omega) hb rfl
    have r4a := hv.rd h20 (f := 4) (by omega) ha rfl
    have r4b := hv.rd h20 (f := 4) (by omega) hb rfl
    have ka := (kinds a ha).1
    have kb := (kinds b hb).1
    have sa := w.sp20 ha
    have sb := w.sp20 hb
    have ca := w.kids5 ha
    have cb := w.kids5 hb
    have na : v.2 1 a ≤ 99 := by
      by_cases z : v.2 0 a = 0
      · exact (kinds a ha).2.1 z
      · rw [(kinds a ha).2.2.1 z]; omega
    have nb : v.2 1 b ≤ 99 := by
      by_cases z : v.2 0 b = 0
      · exact (kinds b hb).2.1 z
      · rw [(kinds b hb).2.2.1 z]; omega
    have st := sameV_step w ha hb
    refine s_TR_alikeBelow_0 Y (d + m + 1) t _ _ _ σ (rI k) ⟨fun hlt => ?_, fun _ => ⟨fun hne => ⟨Or.inl rfl, h0 fun z => hne ?_⟩, fun he0 => ⟨fun hne => ⟨Or.inl rfl, h0 fun z => hne ?_⟩, fun he1 => ⟨fun hne => ⟨Or.inl rfl, h0 fun z => hne ?_⟩, fun he2 => ⟨fun he4 => ?_, fun hne => ⟨Or.inl rfl, h0 fun z => hne ?_⟩⟩⟩⟩⟩⟩
    · rw [show (4 : Int32) = nI 4 from rfl, i32_lt (by omega) (by omega)] at hlt
      omega
    · rw [show t + 1 = t + 1 + 0 from rfl, r0a, r0b, (st.mp z).1.1]
    · rw [show t + 2 = t + 1 + 1 from rfl, r1a, r1b, (st.mp z).1.2.1]
    · rw [show t + 3 = t + 1 + 2 from rfl, r2a, r2b, (st.mp z).1.2.2]
    · have e0 : v.2 0 a = v.2 0 b := nI_inj (by omega) (by omega) (by rw [← r0a, ← r0b]; exact he0)
      have e1 : v.2 1 a = v.2 1 b := nI_inj (by omega) (by omega) (by rw [← r1a, ← r1b]; exact he1)
      have e2 : v.2 2 a = v.2 2 b := nI_inj (by omega) (by omega) (by rw [← r2a, ← r2b]; exact he2)
      have loop : ∀ x i, i + x = v.2 2 a → (∀ k, k < i → kidV v b (nI (v.2 3 (kch v a k))) < v.2 2 b ∧ sameV v (kch v a k) (kch v b (kidV v b (nI (v.2 3 (kch v a k)))))) → Jd Y (d + m + 1 + 1) y_TR_alikeBelow 101 [(0, sR t (.inl 3)), (2, sI (nI b)), (3, sI (nI dp)), (4, sI (nI (v.2 2 a))), (5, sI (nI (kch v a i))), (6, sI (nI i))] [] σ (rI k) := by
        intro x
        induction x with
        | zero =>
          intro i hi hk
          refine s_TR_alikeBelow_101 Y (d + m + 1) t _ _ _ _ _ σ (rI k) ⟨fun _ => ⟨Or.inr rfl, h1 (st.mpr ⟨⟨e0, e1, e2⟩, fun k hk2 => hk k (by omega)⟩)⟩, fun hlt => ?_⟩
          rw [i32_lt (by omega) (by omega)] at hlt
          omega
        | succ x ihx =>
          intro i hi hk
          have hiK : i < v.2 2 a := by omega
          have hc := w.kchlt ha hiK
          have lc := ((kinds a ha).2.2.2.2.2.2 i hiK).2.2.2
          have rd3 := hv.rd h20 (f := 3) (by omega) hc.2 rfl
          have rs := hv.rd h20 (f := 4) (by omega) hc.2 rfl
          refine s_TR_alikeBelow_101 Y (d + m + 1) t _ _ _ _ _ σ (rI k) ⟨fun hlt => ?_, fun _ => ?_⟩
          · rw [i32_lt (by omega) (by omega)] at hlt
            omega
          · rw [show t + 4 = t + 1 + 3 from rfl, rd3]
            refine c_TR_child Y (d + m) t w hv hb _ _ ?_
            unfold childV
            by_cases hkid : kidV v b (nI (v.2 3 (kch v a i))) < v.2 2 b
            · rw [if_pos hkid]
              have hcb := w.kchlt hb hkid
              refine ⟨fun z => absurd z (nI_pos (by omega)), fun _ => ?_⟩
              rw [nI_s1]
              refine ih (kch v a i) (kch v b (kidV v b (nI (v.2 3 (kch v a i))))) (dp + 1) (by omega) (by omega) hc.2 hcb.2 _ (fun hs => ⟨fun _ => ?_, fun z => absurd z (by decide)⟩) (fun hs => ⟨fun z => absurd rfl z, fun _ => ⟨Or.inl rfl, h0 fun z => hs ((st.mp z).2 i hiK).2⟩⟩)
              rw [show t + 5 = t + 1 + 4 from rfl, rs, nI_add, nI_s1]
              refine ihx (i + 1) (by omega) (fun k hk2 => ?_)
              by_cases e : k = i
              · subst e; exact ⟨hkid, hs⟩
              · exact hk k (by omega)
            · rw [if_neg hkid]
              exact ⟨fun _ => ⟨Or.inl rfl, h0 fun z => hkid ((st.mp z).2 i hiK).1⟩, fun z => absurd (by decide) z⟩
      have := loop (v.2 2 a) 0 (by omega) (fun k hk => absurd hk (Nat.not_lt_zero _))
      rw [show t + 3 = t + 1 + 2 from rfl, r2a, nI_s1]
      exact this
    · rw [show t + 5 = t + 1 + 4 from rfl, r4a, r4b, sameV_span w ha hb z]
theorem c_TR_alike (Y : List kd) (d t : Nat) {v : VT} (w : WFV v) {σ : sS} (hv : XV σ t v) (m a b : Nat) (h5 : 5 ≤ v.2 6 a + m) (ha : a < v.1) (hb : b < v.1) (k : Int32 → sS → Prop) (h1 : sameV v a b → k 1 σ) (h0 : ¬ sameV v a b → k 0 σ) : CJ Y (d + m + 2) y_TR_alike [sR t (.inl 3), sI (nI a), sI (nI b)] σ (rI k) := s_TR_alike_0 Y (d + m + 1) t _ _ σ (rI k) (c_TR_alikeBelow Y d t w hv m a b 0 h5 (Nat.zero_le _) ha hb _ (fun hs => ⟨Or.inr rfl, h1 hs⟩) (fun hs => ⟨Or.inl rfl, h0 hs⟩))
theorem c_MO_unitFor (Y : List kd) (d n : Nat) (l : List Nat) (hl : dgs l) (hb : wv n l < 2 ^ 27) (k : Int32 → sS → Prop) (σ : sS) (hk : k (nI (10 ^ l.length)) σ) : CJ Y d y_MO_unitFor [sI (nI (wv n l)), sI (nI n)] σ (rI k) := by
  refine s_MO_unitFor_0 Y d _ _ σ (rI k) ?_
  have key : ∀ (l : List Nat), dgs l → wv n l < 2 ^ 27 → ∀ u, k (nI (u * 10 ^ l.length)) σ → Jd Y d y_MO_unitFor 4 [(1, sI (nI n)), (2, sI (nI u)), (3, sI (nI (wv n l)))] [] σ (rI k) := by
    intro l
    induction l with
    | nil =>
      intro _ hb u hk
      have e : wv n [] = n := rfl
      rw [e] at hb ⊢
      refine s_MO_unitFor_4 Y d _ _ _ σ (rI k) ⟨fun _ => ?_, fun h => absurd rfl h⟩
      have : u * 10 ^ ([] : List Nat).length = u := Nat.mul_one u
      rw [this] at hk
      exact hk
    | cons x l ih =>
      intro hd hb u hk
      have hd1 := dgs_cons hd
      have hlt := wv_lt n hd1.1.1 l
      have e : wv n (x :: l) = 10 * wv n l + x := rfl
      refine s_MO_unitFor_4 Y d _ _ _ σ (rI k) ⟨fun h => ?_, fun _ => ⟨by decide, ?_⟩⟩
      · have := nI_inj (by omega) (by omega) h
        omega
      · rw [show (10 : Int32) = nI 10 from rfl, nI_div _ _ (by omega) (by omega), pk_mul]
        have e2 : wv n (x :: l) / 10 = wv n l := by omega
        rw [e2]
        refine ih hd1.2 (by omega) (u * 10) ?_
        have e3 : u * 10 * 10 ^ l.length = u * 10 ^ (x :: l).length := by
          rw [List.length_cons, Nat.pow_succ, Nat.mul_assoc, Nat.mul_comm 10]
        rw [e3]
        exact hk
  have := key l hl hb 1 (by rw [Nat.one_mul]; exact hk)
  exact this
theorem nI_mod (a b : Nat) (ha : a < 2 ^ 31) (hb : b < 2 ^ 31) : nI a - nI a / nI b * nI b = nI (a % b) := by
  rw [nI_div a b ha hb, pk_mul, nI_subm (by rw [Nat.mul_comm]; exact Nat.mul_div_le a b)]
  congr 1
  have := Nat.div_add_mod a b
  rw [Nat.mul_comm] at this
  omega
theorem MV.eq3 {σ : sS} {v : VT} (hv : MV σ v) (w : WFV v) {i j : Nat} (hi : i < v.1) (hj : j < v.1) : (σ 2 j = σ 2 i ∧ σ 3 j = σ 3 i) ↔ eq3 v i j := by
  have kinds := fun p (hp : p < v.1) => (w.2.2.2.2.2.2.2 p hp)
  have ci := w.kids5 hi
  have cj := w.kids5 hj
  obtain ⟨a1, a2, a3, a4, -⟩ := kinds i hi
  obtain ⟨b1, b2, b3, b4, -⟩ := kinds j hj
  obtain ⟨s1, s2, -⟩ := hv.2.1 i hi
  obtain ⟨t1, t2, -⟩ := hv.2.1 j hj
  rw [s1, s2, t1, t2]
  constructor
  · rintro ⟨e1, e2⟩
    have e1 := nI_inj (by omega) (by omega) e1
    by_cases z : v.2 0 i = 0
    · have z2 : v.2 0 j = 0 := by omega
      have := a2 z
      have := b2 z2
      rw [if_pos z, if_pos z2] at e2
      have e2 := nI_inj (by omega) (by omega) e2
      exact ⟨by omega, by omega, by rw [a4 (by omega), b4 (by omega)]⟩
    · have z2 : v.2 0 j ≠ 0 := by omega
      rw [if_neg z, if_neg z2] at e2
      have e2 := nI_inj (by omega) (by omega) e2
      exact ⟨by omega, by rw [a3 z, b3 z2], by omega⟩
  · rintro ⟨e1, e2, e3⟩
    rw [e1, e2, e3]
    exact ⟨rfl, rfl⟩
theorem pow4 {n : Nat} (h : n ≤ 4) : 10 ^ n ≤ 10000 := Nat.pow_le_pow_right (by omega) h
theorem c_MO_hasAlike (Y : List kd) (d : Nat) {v : VT} (w : WFV v) {σ : sS} (hv : MV σ v) {a b i : Nat} {l : List Nat} (ha : a < v.1) (hb : b < v.1) (hl : dgs l) (hi : wk v a l = some i) (k : Int32 → sS → Prop) (h1 : (∃ j l', b ≤ j ∧ j < b + v.2 4 b ∧ dgs l' ∧ wk v a l' = some i ∧ wk v b l' = some j ∧ eq3 v i j) → k 1 σ) (h0 : (¬ ∃ j l', b ≤ j ∧ j < b + v.2 4 b ∧ dgs l' ∧ wk v a l' = some i ∧ wk v b l' = some j ∧ eq3 v i j) → k 0 σ) : CJ Y (d + 1) y_MO_hasAlike [sR 0 (.inl 6), sI (nI i), sI (nI a), sI (nI b)] σ (rI k) := by
  have h20 := w.2.1
  obtain ⟨i1, i2, i3, i4, i5⟩ := wk_fact w ha l i hl hi
  have li := (w.2.2.2.2.2.2.2 i i1).2.2.2.2.2.1
  have ri := w.road4 i1
  have spb := w.sp20 hb
  have pl := pow4 (show l.length ≤ 4 by omega)
  have vi : vp_in (nI i) 21 := vinI (by omega) (by omega)
  have va : vp_in (nI a) 21 := vinI (by omega) (by omega)
  have vb : vp_in (nI b) 21 := vinI (by omega) (by omega)
  have ppos : ∀ n : Nat, 0 < 10 ^ n := fun n => Nat.pow_pos (by omega)
  have e6 : ∀ j, j < v.1 → σ (0 + 6) (Int32.toNatClampNeg (nI j)) = nI (v.2 5 j) := fun j hj => by rw [cl_nI (by omega)]; exact (hv.2.1 j hj).2.2.2
  have z1 : ¬ nI (10 ^ l.length) = 0 := by
    rw [show (0 : Int32) = nI 0 from rfl, i32_eq (by omega) (by omega)]
    have := ppos l.length
    omega
  refine s_MO_hasAlike_0 Y d 0 _ _ _ σ (rI k) ⟨vi, vi, va, ?_⟩
  rw [e6 i i1, e6 a ha, i4]
  refine c_MO_unitFor Y d (v.2 5 a) l hl (by omega) _ σ ⟨z1, ?_⟩
  rw [nI_mod _ _ (by omega) (by omega), wv_mod _ l hl]
  have loop : ∀ x j, j + x = b + v.2 4 b → b ≤ j → (∀ j' l', b ≤ j' → j' < j → dgs l' → wk v a l' = some i → wk v b l' = some j' → ¬ eq3 v i j') → Jd Y (d + 1) y_MO_hasAlike 27 [(0, sR 0 (.inl 6)), (1, sI (nI i)), (3, sI (nI b)), (4, sI (nI (wv 0 l))), (5, sI (nI j))] [] σ (rI k) := by
    intro x
    induction x with
    | zero =>
      intro j hj hbj hno
      refine s_MO_hasAlike_27 Y d 0 _ _ _ _ σ (rI k) ⟨vb, fun _ => ⟨Or.inl rfl, h0 ?_⟩, fun hlt => ?_⟩
      · rintro ⟨j', l', q1, q2, q3, q4, q5, q6⟩
        exact hno j' l' q1 (by omega) q3 q4 q5 q6
      · rw [cl_nI (by omega), show σ (0 + 5) b = _ from (hv.2.1 b hb).2.2.1, nI_add, i32_lt (by omega) (by omega)] at hlt
        omega
    | succ x ih =>
      intro j hj hbj hno
      have hjn : j < v.1 := by omega
      have vj : vp_in (nI j) 21 := vinI (by omega) (by omega)
      obtain ⟨lj, hlj, hwj⟩ := wk_sur w _ b j (Nat.le_refl _) hb hbj (by omega)
      obtain ⟨-, -, -, j4, j5⟩ := wk_fact w hb lj j hlj hwj
      have lvj := (w.2.2.2.2.2.2.2 j hjn).2.2.2.2.2.1
      have rj := w.road4 hjn
      have plj := pow4 (show lj.length ≤ 4 by omega)
      have zj : ¬ nI (10 ^ lj.length) = 0 := by
        rw [show (0 : Int32) = nI 0 from rfl, i32_eq (by omega) (by omega)]
        have := ppos lj.length
        omega
      have s1 := (wv_split 0 l hl).2
      have s2 := (wv_split 0 lj hlj).2
      have again : (¬ ∃ l', dgs l' ∧ wk v a l' = some i ∧ wk v b l' = some j ∧ eq3 v i j) → Jd Y (d + 1) y_MO_hasAlike 103 [(0, sR 0 (.inl 6)), (1, sI (nI i)), (3, sI (nI b)), (4, sI (nI (wv 0 l))), (5, sI (nI j))] [] σ (rI k) := by
        intro hn
        refine s_MO_hasAlike_103 Y d 0 _ _ _ _ σ (rI k) ?_
        rw [nI_s1]
        refine ih (j + 1) (by omega) (by omega) (fun j' l' q1 q2 q3 q4 q5 q6 => ?_)
        by_cases e : j' = j
        · subst e; exact hn ⟨l', q3, q4, q5, q6⟩
        · exact hno j' l' q1 (by omega) q3 q4 q5 q6
      refine s_MO_hasAlike_27 Y d 0 _ _ _ _ σ (rI k) ⟨vb, fun hlt => ?_, fun _ => ⟨vj, vj, vb, ?_⟩⟩
      · rw [cl_nI (by omega), show σ (0 + 5) b = _ from (hv.2.1 b hb).2.2.1, nI_add, i32_lt (by omega) (by omega)] at hlt
        omega
      · rw [e6 j hjn, e6 b hb, j4]
        refine c_MO_unitFor Y d (v.2 5 b) lj hlj (by omega) _ σ ⟨zj, ?_⟩
        rw [nI_mod _ _ (by omega) (by omega), wv_mod _ lj hlj, cl_nI (show j < 2 ^ 31 by omega), cl_nI (show i < 2 ^ 31 by omega)]
        have e3 := hv.eq3 w i1 hjn
        have uniq : ∀ l', dgs l' → wk v a l' = some i → wk v b l' = some j → l' = l ∧ l' = lj := by
          intro l' g1 g2 g3
          obtain ⟨-, -, -, f1, -⟩ := wk_fact w ha l' i g1 g2
          obtain ⟨-, -, -, f2, -⟩ := wk_fact w hb l' j g1 g3
          exact ⟨wv_inj _ l' l g1 hl (by rw [← f1, ← i4]), wv_inj _ l' lj g1 hlj (by rw [← f2, ← j4])⟩
        refine ⟨fun hne => again ?_, fun he => ⟨vj, vi, fun hne => again ?_, fun he2 => ⟨vj, vi, fun hne => again ?_, fun he4 => ⟨Or.inr rfl, h1 ?_⟩⟩⟩⟩
        · rintro ⟨l', g1, g2, g3, -⟩
          obtain ⟨f1, f2⟩ := uniq l' g1 g2 g3
          exact hne (by rw [← f1, ← f2])
        · rintro ⟨l', g1, g2, g3, g4⟩
          exact hne (e3.mpr g4).1
        · rintro ⟨l', g1, g2, g3, g4⟩
          exact hne (e3.mpr g4).2
        · have he := nI_inj (by omega) (by omega) he
          have := wv_inj 0 lj l hlj hl he
          subst this
          exact ⟨j, lj, hbj, by omega, hl, hi, hwj, e3.mp ⟨he2, he4⟩⟩
  exact loop (v.2 4 b) b rfl (Nat.le_refl _) (fun j' l' q1 q2 => by omega)
theorem c_MO_areSame (Y : List kd) (d : Nat) {v : VT} (w : WFV v) {σ : sS} (hv : MV σ v) {a b : Nat} (ha : a < v.1) (hb : b < v.1) (k : Int32 → sS → Prop) (h1 : sameV v a b → k 1 σ) (h0 : ¬ sameV v a b → k 0 σ) : CJ Y (d + 2) y_MO_areSame [sR 0 (.inl 6), sI (nI a), sI (nI b)] σ (rI k) := by
  have h20 := w.2.1
  have spa := w.sp20 ha
  have spb := w.sp20 hb
  have va : vp_in (nI a) 21 := vinI (by omega) (by omega)
  have vb : vp_in (nI b) 21 := vinI (by omega) (by omega)
  have e5 : ∀ j, j < v.1 → σ (0 + 5) (Int32.toNatClampNeg (nI j)) = nI (v.2 4 j) := fun j hj => by rw [cl_nI (by omega)]; exact (hv.2.1 j hj).2.2.1
  have it := sameV_iff w ha hb
  refine s_MO_areSame_0 Y (d + 1) 0 _ _ σ (rI k) ⟨va, vb, fun _ => ?_, fun hne => ⟨Or.inl rfl, h0 fun z => hne ?_⟩⟩
  · have loop : ∀ x i, i + x = a + v.2 4 a → a ≤ i → (∀ i', a ≤ i' → i' < i → ∃ j l, b ≤ j ∧ j < b + v.2 4 b ∧ dgs l ∧ wk v a l = some i' ∧ wk v b l = some j ∧ eq3 v i' j) → Jd Y (d + 1 + 1) y_MO_areSame 19 [(0, sR 0 (.inl 6)), (1, sI (nI a)), (2, sI (nI b)), (3, sI (nI i))] [] σ (rI k) := by
      intro x
      induction x with
      | zero =>
        intro i hi hai hall
        refine s_MO_areSame_19 Y (d + 1) 0 _ _ _ σ (rI k) ⟨va, fun _ => ⟨Or.inr rfl, h1 (it.mpr fun i' q1 q2 => hall i' q1 (by omega))⟩, fun hlt => ?_⟩
        rw [e5 a ha, nI_add, i32_lt (by omega) (by omega)] at hlt
        omega
      | succ x ih =>
        intro i hi hai hall
        refine s_MO_areSame_19 Y (d + 1) 0 _ _ _ σ (rI k) ⟨va, fun hlt => ?_, fun _ => ?_⟩
        · rw [e5 a ha, nI_add, i32_lt (by omega) (by omega)] at hlt
          omega
        · obtain ⟨l, hl, hw⟩ := wk_sur w _ a i (Nat.le_refl _) ha hai (by omega)
          refine c_MO_hasAlike Y d w hv ha hb hl hw _ (fun hh => ⟨fun _ => ?_, fun z => absurd z (by decide)⟩) (fun hh => ⟨fun z => absurd rfl z, fun _ => ⟨Or.inl rfl, h0 fun z => hh (it.mp z i hai (by omega))⟩⟩)
          rw [nI_s1]
          refine ih (i + 1) (by omega) (by omega) (fun i' q1 q2 => ?_)
          by_cases e : i' = i
          · subst e; exact hh
          · exact hall i' q1 (by omega)
    exact loop (v.2 4 a) a rfl (Nat.le_refl _) (fun i' q1 q2 => by omega)
  · rw [e5 a ha, e5 b hb, sameV_span w ha hb z]
