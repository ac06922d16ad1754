/-! what the letters of the law's checks tell -/
noncomputable def cu (L : Nat → Nat) (n i : Nat) (c : CT) (s : List Nat) (dg fr rt : Nat) : Nat ⊕ CT := cbu L n n i c s dg fr rt
theorem cu_go {L : Nat → Nat} {n i : Nat} {c : CT} {s : List Nat} {dg fr rt : Nat} (h : i < n) {c' : CT} {s' : List Nat} {dg' fr' rt' : Nat} (e : cstep L i c s dg fr rt = some (c', s', dg', fr', rt')) : cu L n i c s dg fr rt = cu L n (i + ctl (L i) + 1) c' s' dg' fr' rt' :=
  (cbu_go (R := cu L n i c s dg fr rt) (fun m hm => cbu_any L n m n i c s dg fr rt hm (by omega)) h e n (by omega)).symm
def XKN (c : CT) (p dg fr k lo hi : Nat) : Prop := cF c 0 p = (if k = 0 then 35 else if k = 1 then 33 else 42) ∧ (k = 0 → cF c 1 p = lo ∧ cF c 2 p = hi) ∧ cF c 3 p = xkz k ∧ cF c 4 p = dg ∧ cF c 5 p = fr ∧ (k = 1 → cF c 0 (p + 1) = 35 ∧ cF c 1 (p + 1) = lo ∧ cF c 2 (p + 1) = hi)
def XCO (c' c : CT) (s : List Nat) (z : Nat) : Prop := cM c' = cM c + z ∧ cW c' = cW c ∧ cD c' = cD c ∧ ∀ y, y < cM c → cF c' 0 y = cF c 0 y ∧ cF c' 1 y = cF c 1 y ∧ cF c' 2 y = cF c 2 y ∧ cF c' 4 y = cF c 4 y ∧ cF c' 5 y = cF c 5 y ∧ cF c' 7 y = cF c 7 y ∧ cF c' 8 y = cF c 8 y ∧ cF c' 9 y = cF c 9 y ∧ cF c' 3 y = (if y ∈ s then cF c 3 y + z else cF c 3 y) ∧ cF c' 10 y = (if s.head? = some y then cF c 10 y + 1 else cF c 10 y)
theorem XCO_add (c : CT) (s : List Nat) (sg lo hi dg fr lv : Nat) : XCO (addC c s sg lo hi dg fr lv) c s 1 := by
  refine ⟨rfl, rfl, rfl, fun y hy => ?_⟩
  have hn : ¬ y = cM c := by omega
  refine ⟨if_neg hn, if_neg hn, if_neg hn, if_neg hn, if_neg hn, if_neg hn, if_neg hn, if_neg hn, if_neg hn, if_neg hn⟩
theorem aC0 (c : CT) (s : List Nat) (sg lo hi dg fr lv : Nat) : cF (addC c s sg lo hi dg fr lv) 0 (cM c) = sg ∧ cF (addC c s sg lo hi dg fr lv) 1 (cM c) = lo ∧ cF (addC c s sg lo hi dg fr lv) 2 (cM c) = hi ∧ cF (addC c s sg lo hi dg fr lv) 3 (cM c) = 1 ∧ cF (addC c s sg lo hi dg fr lv) 4 (cM c) = dg ∧ cF (addC c s sg lo hi dg fr lv) 5 (cM c) = fr ∧ cF (addC c s sg lo hi dg fr lv) 10 (cM c) = 0 ∧ cF (addC c s sg lo hi dg fr lv) 7 (cM c) = 0 ∧ cF (addC c s sg lo hi dg fr lv) 9 (cM c) = 0 :=
  ⟨if_pos rfl, if_pos rfl, if_pos rfl, if_pos rfl, if_pos rfl, if_pos rfl, if_pos rfl, if_pos rfl, if_pos rfl⟩
theorem cset_stay {c : CT} {q : Nat} {r : List Nat} (h : cF c 10 q < wnt (cF c 0 q)) : cset c (q :: r) = q :: r := if_pos h
theorem cset_up {c : CT} {q : Nat} {r : List Nat} (h : ¬ cF c 10 q < wnt (cF c 0 q)) : cset c (q :: r) = cset c r := if_neg h
theorem cu_num4 {L : Nat → Nat} {n i : Nat} {c : CT} {s : List Nat} {dg fr rt lo hi : Nat} (hlo : lo ≤ hi) (hhi : hi ≤ 99) (hL : At L i [35, 48 + lo / 10, 48 + lo % 10, 48 + hi / 10, 48 + hi % 10]) (hn : i + 5 ≤ n) (hM : cM c < 24) : cu L n i c s dg fr rt = cu L n (i + 5) (addC c s 35 lo hi dg fr (clv c s)) (cset (addC c s 35 lo hi dg fr (clv c s)) s) 0 0 rt := by
  have h0 := hL.head
  have h1 := hL.tail.head
  have h2 := hL.tail.tail.head
  have h3 := hL.tail.tail.tail.head
  have h4 := hL.tail.tail.tail.tail.head
  have ec : cbds L i = (lo, hi) := by
    unfold cbds
    rw [if_pos h0, h1, h2, show i + 3 = i + 1 + 1 + 1 by omega, show i + 4 = i + 1 + 1 + 1 + 1 by omega, h3, h4]
    congr 1 <;> omega
  have es : cstep L i c s dg fr rt = some (addC c s 35 lo hi dg fr (clv c s), cset (addC c s 35 lo hi dg fr (clv c s)) s, 0, 0, rt) := by
    have := (cstep_check (L := L) (i := i) (c := c) (s := s) (dg := dg) (fr := fr) (rt := rt) (by rw [h0]; exact Or.inr (Or.inl rfl))).2 (by
      rw [ec, h0]
      rintro (z | ⟨z, -⟩ | z)
      · have z : hi < lo := z
        omega
      · exact absurd z (by decide)
      · omega)
    rw [this, ec, h0]
    unfold addK
    rw [pB_t (show leafS 35 from Or.inr (Or.inl rfl)), if_pos rfl, if_neg (by decide)]
  rw [cu_go (by omega) es, h0, show ctl 35 = 4 from rfl]
theorem cu_open {L : Nat → Nat} {n i sg : Nat} {c : CT} {s : List Nat} {dg fr rt : Nat} (h0 : L i = sg) (hs : sg = 33 ∨ sg = 47 ∨ sg = 123) (hn : i < n) (hM : cM c < 24) : cu L n i c s dg fr rt = cu L n (i + 1) (addC c s sg 0 0 dg fr (clv c s)) (cM c :: s) 0 0 rt := by
  have ec : cbds L i = (0, 0) := by
    unfold cbds
    rw [if_neg (by omega), if_neg (by omega)]
  have es : cstep L i c s dg fr rt = some (addC c s sg 0 0 dg fr (clv c s), cM c :: s, 0, 0, rt) := by
    have := (cstep_check (L := L) (i := i) (c := c) (s := s) (dg := dg) (fr := fr) (rt := rt) (by rw [h0]; unfold sgOK; omega)).2 (by
      rw [ec, h0]
      rintro (z | ⟨z, -⟩ | z)
      · exact absurd z (Nat.lt_irrefl _)
      · omega
      · omega)
    rw [this, ec, h0]
    unfold addK
    rw [pB_f (show ¬ leafS sg by unfold leafS; omega), if_neg (by decide), if_neg (by omega)]
  have e0 : ctl sg = 0 := by unfold ctl; rw [if_neg (by omega), if_neg (by omega), if_neg (by omega)]
  rw [cu_go hn es, h0, e0]
theorem cu_star {L : Nat → Nat} {n i : Nat} {c : CT} {s : List Nat} {dg fr rt : Nat} (h0 : L i = 42) (hn : i < n) (hM : cM c < 24) : cu L n i c s dg fr rt = cu L n (i + 1) (addC c s 42 0 0 dg fr (clv c s)) (cset (addC c s 42 0 0 dg fr (clv c s)) s) 0 0 rt := by
  have ec : cbds L i = (0, 0) := by
    unfold cbds
    rw [if_neg (by omega), if_neg (by omega)]
  have es : cstep L i c s dg fr rt = some (addC c s 42 0 0 dg fr (clv c s), cset (addC c s 42 0 0 dg fr (clv c s)) s, 0, 0, rt) := by
    have := (cstep_check (L := L) (i := i) (c := c) (s := s) (dg := dg) (fr := fr) (rt := rt) (by rw [h0]; exact Or.inl rfl)).2 (by
      rw [ec, h0]
      rintro (z | ⟨z, -⟩ | z)
      · exact absurd z (Nat.lt_irrefl _)
      · exact absurd z (by decide)
      · omega)
    rw [this, ec, h0]
    unfold addK
    rw [pB_t (show leafS 42 from Or.inl rfl), if_pos rfl, if_neg (by decide)]
  rw [cu_go hn es, h0, show ctl 42 = 0 from rfl]
theorem cu_body {L : Nat → Nat} {n i : Nat} {c : CT} {s : List Nat} {dg fr rt k lo hi : Nat} (hlo : lo ≤ hi) (hhi : hi ≤ 99) (hL : At L i (xkl k lo hi)) (hn : i + (xkl k lo hi).length ≤ n) (hM : cM c + xkz k ≤ 24) (hs : ∀ y ∈ s, y < cM c) : ∃ c', XCO c' c s (xkz k) ∧ XKN c' (cM c) dg fr k lo hi ∧ cu L n i c s dg fr rt = cu L n (i + (xkl k lo hi).length) c' (cset c' s) 0 0 rt := by
  unfold xkl at hL hn ⊢
  by_cases z : k = 0
  · subst z
    have hM : cM c + 1 ≤ 24 := hM
    obtain ⟨a0, a1, a2, a3, a4, a5, -⟩ := aC0 c s 35 lo hi dg fr (clv c s)
    refine ⟨addC c s 35 lo hi dg fr (clv c s), XCO_add _ _ _ _ _ _ _ _, ⟨a0, fun _ => ⟨a1, a2⟩, a3, a4, a5, fun z => absurd z (by decide)⟩, ?_⟩
    exact cu_num4 hlo hhi hL hn (by omega)
  · rw [if_neg z] at hL hn ⊢
    by_cases z1 : k = 1
    · subst z1
      have hM : cM c + 2 ≤ 24 := hM
      rw [if_pos rfl] at hL hn ⊢
      have hn : i + 6 ≤ n := hn
      obtain ⟨a0, a1, a2, a3, a4, a5, a10, -⟩ := aC0 c s 33 0 0 dg fr (clv c s)
      obtain ⟨c1, e1⟩ : ∃ c1, addC c s 33 0 0 dg fr (clv c s) = c1 := ⟨_, rfl⟩
      have o1 : XCO c1 c s 1 := by rw [← e1]; exact XCO_add _ _ _ _ _ _ _ _
      rw [e1] at a0 a1 a2 a3 a4 a5 a10
      have m1 : cM c1 = cM c + 1 := o1.1
      obtain ⟨b0, b1, b2, b3, b4, b5, -⟩ := aC0 c1 (cM c :: s) 35 lo hi 0 0 (clv c1 (cM c :: s))
      obtain ⟨c2, e2⟩ : ∃ c2, addC c1 (cM c :: s) 35 lo hi 0 0 (clv c1 (cM c :: s)) = c2 := ⟨_, rfl⟩
      have o2 : XCO c2 c1 (cM c :: s) 1 := by rw [← e2]; exact XCO_add _ _ _ _ _ _ _ _
      rw [e2, m1] at b0 b1 b2 b3 b4 b5
      obtain ⟨r0, r1, r2, r4, r5, r7, r8, r9, r3, r10⟩ := o2.2.2.2 (cM c) (by omega)
      rw [if_pos List.mem_cons_self] at r3
      rw [if_pos (show (cM c :: s).head? = some (cM c) from rfl)] at r10
      refine ⟨c2, ⟨by rw [o2.1, m1]; rfl, o2.2.1.trans o1.2.1, o2.2.2.1.trans o1.2.2.1, fun y hy => ?_⟩, ⟨r0.trans a0, fun z => absurd z (by decide), by rw [r3, a3]; rfl, r4.trans a4, r5.trans a5, fun _ => ⟨b0, b1, b2⟩⟩, ?_⟩
      · obtain ⟨p0, p1, p2, p4, p5, p7, p8, p9, p3, p10⟩ := o1.2.2.2 y hy
        obtain ⟨q0, q1, q2, q4, q5, q7, q8, q9, q3, q10⟩ := o2.2.2.2 y (by omega)
        refine ⟨q0.trans p0, q1.trans p1, q2.trans p2, q4.trans p4, q5.trans p5, q7.trans p7, q8.trans p8, q9.trans p9, ?_, ?_⟩
        · rw [q3, p3]
          by_cases w : y ∈ s
          · rw [if_pos (List.mem_cons_of_mem _ w), if_pos w, if_pos w]; rfl
          · rw [if_neg (by intro u; rcases List.mem_cons.mp u with u | u; · omega
                           · exact w u), if_neg w, if_neg w]
        · rw [q10, p10, if_neg (by rw [List.head?_cons]; intro u; have := Option.some.inj u; omega)]
      · rw [cu_open (sg := 33) hL.head (Or.inl rfl) (by omega) (by omega), e1, cu_num4 hlo hhi hL.tail (by omega) (by omega), e2, cset_up (by rw [r10, r0, a10, a0]; decide)]
        rfl
    · rw [if_neg z1] at hL hn ⊢
      have ek : xkz k = 1 := if_neg z1
      rw [ek] at hM ⊢
      obtain ⟨a0, a1, a2, a3, a4, a5, -⟩ := aC0 c s 42 0 0 dg fr (clv c s)
      refine ⟨addC c s 42 0 0 dg fr (clv c s), XCO_add _ _ _ _ _ _ _ _, ⟨by rw [if_neg z, if_neg z1]; exact a0, fun y => absurd y z, by rw [ek]; exact a3, a4, a5, fun y => absurd y z1⟩, ?_⟩
      exact cu_star hL.head hn (by omega)
