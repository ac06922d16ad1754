/-! checks told in letters: the reference ends a check -/
def ostC (σ : sS) : OC → Prop
  | [] => True
  | q :: r => (σ 31 r.length = nI q.1 ∧ openS q.1 ∧ (q.1 ≠ 123 → σ 33 r.length = nI q.2.1 ∧ q.2.1 ≤ 1 ∧ (q.2.1 = 1 → q.1 = 47) ∧ q.2.2 = false) ∧ (q.1 = 123 → ∃ x, x ≤ 24 ∧ σ 33 r.length = nI x) ∧ (∃ x, x ≤ 24 ∧ σ 30 r.length = nI x) ∧ (∃ N, N < 64 ∧ σ 32 r.length = nI N ∧ (N % 2 = 1 ↔ q.2.2 = true)) ∧ (∃ x, x ≤ 1 ∧ σ 34 r.length = nI x)) ∧ ostC σ r
theorem ostC.kept {σ σ' : sS} : ∀ {o : OC}, ostC σ o → (∀ i, i < o.length → σ' 30 i = σ 30 i ∧ σ' 31 i = σ 31 i ∧ σ' 32 i = σ 32 i ∧ σ' 33 i = σ 33 i ∧ σ' 34 i = σ 34 i) → ostC σ' o
  | [], _, _ => True.intro
  | q :: r, h, g => by
    obtain ⟨g0, g1, g2, g3, g4⟩ := g r.length (by rw [List.length_cons]; omega)
    refine ⟨?_, ostC.kept h.2 (fun i hi => g i (by rw [List.length_cons]; omega))⟩
    rw [g0, g1, g2, g3, g4]
    exact h.1
theorem oset_len : ∀ (o : OC), (oset o).length ≤ o.length
  | [] => Nat.le_refl _
  | q :: r => by
    show (if q.1 = 123 then q :: r else if q.1 = 47 ∧ q.2.1 = 0 then (47, 1, q.2.2) :: r else oset r).length ≤ _
    split
    · exact Nat.le_refl _
    · split
      · exact Nat.le_refl _
      · have := oset_len r
        rw [List.length_cons]; omega
theorem oset_dep : ∀ {o : OC}, (∀ q, q ∈ o → q.2.2 = false) → ∀ q, q ∈ oset o → q.2.2 = false
  | [], _, q, hq => absurd hq List.not_mem_nil
  | a :: r, h, q, hq => by
    have e : oset (a :: r) = if a.1 = 123 then a :: r else if a.1 = 47 ∧ a.2.1 = 0 then (47, 1, a.2.2) :: r else oset r := rfl
    rw [e] at hq
    split at hq
    · exact h q hq
    · split at hq
      · rcases List.mem_cons.mp hq with z | z
        · rw [z]; exact h a List.mem_cons_self
        · exact h q (List.mem_cons_of_mem _ z)
      · exact oset_dep (fun x hx => h x (List.mem_cons_of_mem _ hx)) q hq
theorem openS_lt {s : Nat} (h : openS s) : s < 2 ^ 31 := by unfold openS at h; omega
theorem openS_one {s : Nat} (h : openS s) (h1 : s ≠ 123) (h2 : s ≠ 47) : s = 33 ∨ s = 126 ∨ s = 64 ∨ s = 38 := by unfold openS at h; omega
def eK (σ σ' : sS) : Prop := (∀ x, x ≠ 0 → x ≠ 10 → x ≠ 11 → x ≠ 15 → x ≠ 33 → σ' x = σ x) ∧ ∀ i, i ≠ 45 → σ' 0 i = σ 0 i
theorem eK.refl (σ : sS) : eK σ σ := ⟨fun _ _ _ _ _ _ => rfl, fun _ _ => rfl⟩
theorem eK.trans {σ σ1 σ2 : sS} (h : eK σ σ1) (g : eK σ1 σ2) : eK σ σ2 := ⟨fun x a b c d e => by rw [g.1 x a b c d e, h.1 x a b c d e], fun i hi => by rw [g.2 i hi, h.2 i hi]⟩
theorem opC_cons {c : CT} {b : Nat} {s : List Nat} {q : Nat × Nat × Bool} {r : OC} (e : q :: r = opC c b s) : ∃ a t, s = a :: t ∧ q.1 = cF c 0 a ∧ q.2.1 = (if cF c 0 a = 123 then 0 else cF c 10 a - b) ∧ r = opC c 1 t ∧ r.length = t.length := by
  cases s with
  | nil => cases e
  | cons a t =>
    have e' : q :: r = (cF c 0 a, (if cF c 0 a = 123 then 0 else cF c 10 a - b), decide (cF c 0 a = 123 ∧ cF c 9 a ≠ 0)) :: opC c 1 t := e
    obtain ⟨e1, e2⟩ := List.cons.inj e'
    exact ⟨a, t, rfl, by rw [e1], by rw [e1], e2, by rw [e2, opC_len]⟩
def eOut (σ σ' : sS) (o : OC) (x : Nat) : Prop := ∀ c s, o = opC c 1 s → GC 1 c s 0 → MS σ c 1 s → (∀ q r, s = q :: r → x = cch c q (cF c 10 q - 1)) → MS σ' c 0 (cset c s)
def flg : OC → Int32
  | [] => 0
  | _ :: _ => 1
theorem c_MO_endsLoop (Y : List kd) (d : Nat) : ∀ (o : OC) (σ : sS) (x : Nat) (k : sS → Prop), σ 0 45 = nI o.length → o.length ≤ 96 → ostC σ o →
    (∀ σ', σ' 0 45 = nI (oset o).length → ostC σ' (oset o) → eK σ σ' → eOut σ σ' o x → k σ') →
    Jd Y d y_MO_endsCheck 15 [(0, sR 0 (.inl 6)), (2, sI (nI x)), (3, sI (flg o))] [] σ (rN k)
  | [], σ, x, k, h45, _, ho, hk => by
    refine s_MO_endsCheck_15 Y d 0 _ _ σ (rN k) ⟨fun _ => ?_, fun z => absurd rfl z⟩
    refine hk σ h45 ho (eK.refl σ) (fun c s e g m _ => ?_)
    cases s with
    | nil => exact m
    | cons a t => cases e
  | q :: r, σ, x, k, h45, hl, ho, hk => by
    rw [List.length_cons] at h45 hl
    have e1 : σ 0 45 - 1 = nI r.length := by
      rw [h45]
      exact nI_subm (a := r.length + 1) (b := 1) (by omega)
    obtain ⟨⟨o31, oS, o33, o33b, ⟨p, p24, o30⟩, o32, o34⟩, oR⟩ := ho
    have qb : q.1 < 2 ^ 31 := openS_lt oS
    have v100 : vp_in (nI r.length) 100 := vinI (by omega) (by omega)
    have eo : oset (q :: r) = if q.1 = 123 then q :: r else if q.1 = 47 ∧ q.2.1 = 0 then (47, 1, q.2.2) :: r else oset r := rfl
    refine s_MO_endsCheck_15 Y d 0 _ _ σ (rN k) ⟨fun z => absurd z (by show ¬ (1 : Int32) = 0; decide), fun _ => ?_⟩
    simp only [Nat.zero_add, e1, cl_nI (show r.length < 2 ^ 31 by omega)]
    rw [o31, z_eq qb 123 (by omega)]
    refine ⟨v100, v100, fun n123 => ⟨v100, ?_⟩, fun e123 => ⟨v100, ?_⟩⟩
    · obtain ⟨m33, m1, m47, mF⟩ := o33 n123
      rw [m33, z_eq (by omega) 0 (by omega), o30]
      simp only [cl_nI (show p < 2 ^ 31 by omega)]
      rw [eo, if_neg n123] at hk
      have go : ∀ τ : sS, (∀ y, y ≠ 10 → y ≠ 11 → τ y = σ y) → (∀ y, τ 10 y = if q.2.1 = 0 ∧ y = p then nI x else σ 10 y) → (∀ y, τ 11 y = if q.2.1 ≠ 0 ∧ y = p then nI x else σ 11 y) → Jd Y d y_MO_endsCheck 91 [(0, sR 0 (.inl 6)), (4, sI (nI r.length)), (5, sI (nI p))] [] τ (rN k) := by
        intro τ tx t10 t11
        refine s_MO_endsCheck_91 Y d 0 _ _ τ (rN k) ?_
        simp only [Nat.zero_add, cl_nI (show r.length < 2 ^ 31 by omega)]
        rw [tx 33 (by omega) (by omega), m33, nI_s1, up_self, up_cell _ _ (show 31 ≠ 33 by omega), tx 31 (by omega) (by omega), o31, z_eq qb 47 (by omega), z_eq (by omega) 1 (by omega)]
        -- what is in the rows now
        have u : ∀ y, y ≠ 10 → y ≠ 11 → y ≠ 33 → (up τ 33 r.length (nI (q.2.1 + 1))) y = σ y := fun y a b c => by rw [up_cell _ _ c, tx y a b]
        have u33 : ∀ i, i ≠ r.length → (up τ 33 r.length (nI (q.2.1 + 1))) 33 i = σ 33 i := fun i hi => by rw [up_other _ _ (Or.inr hi), tx 33 (by omega) (by omega)]
        have u10 : ∀ y, (up τ 33 r.length (nI (q.2.1 + 1))) 10 y = if q.2.1 = 0 ∧ y = p then nI x else σ 10 y := fun y => by rw [up_cell _ _ (by omega), t10]
        have u11 : ∀ y, (up τ 33 r.length (nI (q.2.1 + 1))) 11 y = if q.2.1 ≠ 0 ∧ y = p then nI x else σ 11 y := fun y => by rw [up_cell _ _ (by omega), t11]
        obtain ⟨τ2, hτ2⟩ : ∃ τ2, τ2 = up τ 33 r.length (nI (q.2.1 + 1)) := ⟨_, rfl⟩
        have v33 : τ2 33 r.length = nI (q.2.1 + 1) := by rw [hτ2, up_self]
        rw [← hτ2] at u u33 u10 u11 ⊢
        clear hτ2
        -- the head of what is told
        have hd : ∀ c s, q :: r = opC c 1 s → GC 1 c s 0 → MS σ c 1 s → (∀ q r, s = q :: r → x = cch c q (cF c 10 q - 1)) → ∃ t, s = p :: t ∧ r = opC c 1 t ∧ r.length = t.length ∧ cF c 0 p = q.1 ∧ cF c 10 p = q.2.1 + 1 ∧ x = cch c p q.2.1 ∧ p ∉ t := by
          intro c s e g m hx
          obtain ⟨a, t, es, e1, e2, e3, e4⟩ := opC_cons e
          subst es
          have hpa : p = a := by
            have ha : a < cM c := (g.2.2.2.1.mem a List.mem_cons_self).1
            have := g.1
            have h30 := m.2.2.2.1.1
            rw [← e4, o30] at h30
            exact nI_inj' h30 (by omega) (by omega)
          subst hpa
          have hn : ¬ cF c 0 p = 123 := by rw [← e1]; exact n123
          rw [if_neg hn] at e2
          have h1 := g.2.2.2.2.2.2.2.2.1.1.2.1
          refine ⟨t, rfl, e3, e4, e1.symm, by omega, ?_, fun z => ?_⟩
          · rw [hx p t rfl, ← e2]
          · have := g.2.2.2.1.low p z
            omega
        have pop : ¬ (q.1 = 47 ∧ q.2.1 = 0) → Jd Y d y_MO_endsCheck 126 [(0, sR 0 (.inl 6)), (5, sI (nI p))] [] τ2 (rN k) := by
          intro hnp
          rw [if_neg hnp] at hk
          refine s_MO_endsCheck_126 Y d 0 _ τ2 (rN k) ?_
          rw [up_self, u 0 (by omega) (by omega) (by omega), e1]
          have w : ∀ y, y ≠ 0 → (up τ2 0 45 (nI r.length)) y = τ2 y := fun y hy => up_cell _ _ hy
          have w0 : ∀ i, i ≠ 45 → (up τ2 0 45 (nI r.length)) 0 i = σ 0 i := fun i hi => by rw [up_other _ _ (Or.inr hi), u 0 (by omega) (by omega) (by omega)]
          have w45 : (up τ2 0 45 (nI r.length)) 0 45 = nI r.length := up_self _ _ _ _
          obtain ⟨τ3, hτ3⟩ : ∃ τ3, τ3 = up τ2 0 45 (nI r.length) := ⟨_, rfl⟩
          rw [← hτ3] at w w0 w45 ⊢
          clear hτ3
          have kE : eK σ τ3 := ⟨fun y a b c d e => by rw [w y a, u y b c e], w0⟩
          have fin : Jd Y d y_MO_endsCheck 15 [(0, sR 0 (.inl 6)), (2, sI (nI p)), (3, sI (flg r))] [] τ3 (rN k) := by
            refine c_MO_endsLoop Y d r τ3 p k w45 (by omega) (oR.kept (fun i hi => ?_)) (fun σ' a1 a2 a3 a4 => hk σ' a1 a2 (kE.trans a3) (fun c s e g m hx => ?_))
            · rw [w 30 (by omega), w 31 (by omega), w 32 (by omega), w 33 (by omega), w 34 (by omega), u 30 (by omega) (by omega) (by omega), u 31 (by omega) (by omega) (by omega), u 32 (by omega) (by omega) (by omega), u 34 (by omega) (by omega) (by omega), u33 i (by omega)]
              exact ⟨rfl, rfl, rfl, rfl, rfl⟩
            · obtain ⟨t, es, e3, e4, e5, e6, e7, e8⟩ := hd c s e g m hx
              subst es
              have hwn : wnt (cF c 0 p) = if q.1 = 47 then 2 else 1 := by
                rw [e5]
                unfold wnt
                rw [if_neg n123]
              have ec : cset c (p :: t) = cset c t := by
                show (if cF c 10 p < wnt (cF c 0 p) then p :: t else cset c t) = cset c t
                rw [if_neg]
                rw [hwn, e6]
                split <;> omega
              rw [ec]
              have hkk : cF c 0 p ≠ 123 → cF c 10 p = inMany (cF c 0 p) 0 := fun y => by
                rw [e6, e5]
                unfold inMany
                rw [if_neg n123]
                by_cases z : q.1 = 47
                · rw [if_pos z]
                  have : ¬ q.2.1 = 0 := fun y => hnp ⟨z, y⟩
                  omega
                · rw [if_neg z, if_pos (openS_one oS n123 z)]
                  have : ¬ q.2.1 = 1 := fun y => z (m47 y)
                  omega
              obtain ⟨m1, m2, m3, m4⟩ := m
              have hgf := g.2.2.2.2.2.2.2.2.2.2
              refine a4 c t e3 (g.pop hkk) ⟨fun y hy => ?_, fun f hf => ?_, fun wi hw => ?_, m4.2.kept (fun i hi => ?_)⟩ (fun b s2 es2 => ?_)
              · obtain ⟨b1, b2, b3, b4, b5⟩ := m1 y hy
                rw [w 7 (by omega), w 8 (by omega), w 9 (by omega), w 10 (by omega), w 11 (by omega), u 7 (by omega) (by omega) (by omega), u 8 (by omega) (by omega) (by omega), u 9 (by omega) (by omega) (by omega), u10, u11]
                refine ⟨b1, b2, b3, fun z1 z2 => ?_, fun z1 z2 => ?_⟩
                · by_cases ey : y = p
                  · subst ey
                    by_cases z0 : q.2.1 = 0
                    · rw [if_pos ⟨z0, rfl⟩, e7, z0]
                    · rw [if_neg (fun y => z0 y.1)]
                      refine b4 z1 ?_
                      rw [tC_head]
                      omega
                  · rw [if_neg (fun z => ey z.2)]
                    refine b4 z1 ?_
                    rw [tC_ne _ _ _ ey]
                    exact z2
                · by_cases ey : y = p
                  · subst ey
                    rw [tC_out e8] at z2
                    rw [if_pos ⟨by omega, rfl⟩, e7]
                    have : q.2.1 = 1 := by omega
                    rw [this]
                  · rw [if_neg (fun z => ey z.2)]
                    refine b5 z1 ?_
                    rw [tC_ne _ _ _ ey]
                    exact z2
              · obtain ⟨b1, b2, b3⟩ := m2 f hf
                rw [w 12 (by omega), w 13 (by omega), w 14 (by omega), w 15 (by omega), u 12 (by omega) (by omega) (by omega), u 13 (by omega) (by omega) (by omega), u 14 (by omega) (by omega) (by omega), u 15 (by omega) (by omega) (by omega)]
                refine ⟨b1, b2, fun z => b3 ?_⟩
                have hne : cO c f ≠ p := fun y => by
                  have := (hgf f hf).2
                  rw [y, e5] at this
                  exact n123 this
                rw [tC_ne _ _ _ hne]
                exact z
              · rw [w 16 (by omega), w 17 (by omega), w 18 (by omega), w 19 (by omega), u 16 (by omega) (by omega) (by omega), u 17 (by omega) (by omega) (by omega), u 18 (by omega) (by omega) (by omega), u 19 (by omega) (by omega) (by omega)]
                exact m3 wi hw
              · rw [w 30 (by omega), w 32 (by omega), w 33 (by omega), w 34 (by omega), u 30 (by omega) (by omega) (by omega), u 32 (by omega) (by omega) (by omega), u 34 (by omega) (by omega) (by omega), u33 i (by omega)]
                exact ⟨rfl, rfl, rfl, rfl⟩
              · subst es2
                exact g.2.2.2.1.2.2.2.2.1.symm
          refine ⟨fun hlt => ?_, fun hlt => ?_⟩
          · rw [lit 0, i32_lt (by omega) (by omega)] at hlt
            refine s_MO_endsCheck_151 Y d 0 _ _ τ3 (rN k) ?_
            cases r with
            | nil => exact fin
            | cons a t => exact absurd (Nat.zero_lt_succ _) hlt
          · rw [lit 0, i32_lt (by omega) (by omega)] at hlt
            refine s_MO_endsCheck_151 Y d 0 _ _ τ3 (rN k) ?_
            cases r with
            | nil => exact absurd hlt (Nat.lt_irrefl _)
            | cons a t => exact fin
        refine ⟨v100, v100, v100, fun n47 => pop (fun y => n47 y.1), fun e47 => ⟨v100, fun n1 => pop (fun y => n1 (by rw [y.2])), fun eq1 => ?_⟩⟩
        have z0 : q.2.1 = 0 := by omega
        rw [if_pos ⟨e47, z0⟩] at hk
        refine hk τ2 ?_ ⟨⟨?_, Or.inr (Or.inl rfl), fun _ => ⟨?_, Nat.le_refl _, fun _ => rfl, mF⟩, fun y => absurd y (by show ¬ (47 : Nat) = 123; decide), ⟨p, p24, ?_⟩, ?_, ?_⟩, oR.kept (fun i hi => ?_)⟩ ⟨fun y a b c d e => u y b c e, fun i hi => by rw [u 0 (by omega) (by omega) (by omega)]⟩ (fun c s e g m hx => ?_)
        · rw [u 0 (by omega) (by omega) (by omega)]; exact h45
        · rw [u 31 (by omega) (by omega) (by omega), o31, e47]
        · rw [v33, z0]
        · rw [u 30 (by omega) (by omega) (by omega)]; exact o30
        · rw [u 32 (by omega) (by omega) (by omega)]; exact o32
        · rw [u 34 (by omega) (by omega) (by omega)]; exact o34
        · rw [u 30 (by omega) (by omega) (by omega), u 31 (by omega) (by omega) (by omega), u 32 (by omega) (by omega) (by omega), u 34 (by omega) (by omega) (by omega), u33 i (by omega)]
          exact ⟨rfl, rfl, rfl, rfl, rfl⟩
        · obtain ⟨t, es, e3, e4, e5, e6, e7, e8⟩ := hd c s e g m hx
          subst es
          have hwn : wnt (cF c 0 p) = 2 := by
            rw [e5, e47]
            rfl
          have ec : cset c (p :: t) = p :: t := by
            show (if cF c 10 p < wnt (cF c 0 p) then p :: t else cset c t) = p :: t
            rw [if_pos]
            rw [hwn, e6]
            omega
          rw [ec]
          obtain ⟨m1, m2, m3, m4⟩ := m
          have hgf := g.2.2.2.2.2.2.2.2.2.2
          refine ⟨fun y hy => ?_, fun f hf => ?_, fun wi hw => ?_, ⟨?_, ?_, ?_, fun z => ?_⟩, m4.2.kept (fun i hi => ?_)⟩
          · obtain ⟨b1, b2, b3, b4, b5⟩ := m1 y hy
            rw [u 7 (by omega) (by omega) (by omega), u 8 (by omega) (by omega) (by omega), u 9 (by omega) (by omega) (by omega), u10, u11]
            refine ⟨b1, b2, b3, fun z1 z2 => ?_, fun z1 z2 => ?_⟩
            · by_cases ey : y = p
              · subst ey
                rw [if_pos ⟨z0, rfl⟩, e7, z0]
              · rw [if_neg (fun z => ey z.2)]
                refine b4 z1 ?_
                rw [tC_ne _ _ _ ey] at z2 ⊢
                exact z2
            · by_cases ey : y = p
              · subst ey
                rw [tC_head] at z2
                omega
              · rw [if_neg (fun z => ey z.2)]
                refine b5 z1 ?_
                rw [tC_ne _ _ _ ey] at z2 ⊢
                exact z2
          · obtain ⟨b1, b2, b3⟩ := m2 f hf
            rw [u 12 (by omega) (by omega) (by omega), u 13 (by omega) (by omega) (by omega), u 14 (by omega) (by omega) (by omega), u 15 (by omega) (by omega) (by omega)]
            refine ⟨b1, b2, fun z => b3 ?_⟩
            have hne : cO c f ≠ p := fun y => by
              have := (hgf f hf).2
              rw [y, e5] at this
              exact n123 this
            rw [tC_ne _ _ _ hne] at z ⊢
            exact z
          · rw [u 16 (by omega) (by omega) (by omega), u 17 (by omega) (by omega) (by omega), u 18 (by omega) (by omega) (by omega), u 19 (by omega) (by omega) (by omega)]
            exact m3 wi hw
          · rw [u 30 (by omega) (by omega) (by omega)]; exact m4.1.1
          · rw [u 32 (by omega) (by omega) (by omega)]; exact m4.1.2.1
          · rw [u 34 (by omega) (by omega) (by omega)]; exact m4.1.2.2.1
          · rw [e5] at z; exact absurd z n123
          · rw [u 30 (by omega) (by omega) (by omega), u 32 (by omega) (by omega) (by omega), u 34 (by omega) (by omega) (by omega), u33 i (by omega)]
            exact ⟨rfl, rfl, rfl, rfl⟩
      refine ⟨fun nz => ⟨vinI (by omega) (by omega), go _ (fun y a b => up_cell _ _ b) (fun y => ?_) (fun y => ?_)⟩, fun ez => ⟨vinI (by omega) (by omega), go _ (fun y a b => up_cell _ _ a) (fun y => ?_) (fun y => ?_)⟩⟩
      · rw [if_neg (fun z => nz z.1), up_cell _ _ (by omega)]
      · by_cases e : y = p
        · rw [if_pos ⟨nz, e⟩, e, up_self]
        · rw [if_neg (fun z => e z.2), up_other _ _ (Or.inr e)]
      · by_cases e : y = p
        · rw [if_pos ⟨ez, e⟩, e, up_self]
        · rw [if_neg (fun z => e z.2), up_other _ _ (Or.inr e)]
      · rw [if_neg (fun z => z.1 ez), up_cell _ _ (by omega)]
    · obtain ⟨f, f24, f33⟩ := o33b e123
      rw [f33]
      refine ⟨vinI (by omega) (by omega), ?_⟩
      simp only [cl_nI (show f < 2 ^ 31 by omega)]
      rw [eo, if_pos e123] at hk
      have u : ∀ y, y ≠ 15 → (up σ 15 f (nI x)) y = σ y := fun y hy => up_cell _ _ hy
      refine hk _ (by rw [u 0 (by omega)]; exact h45) (ostC.kept (o := q :: r) (σ := σ) ⟨⟨o31, oS, o33, o33b, ⟨p, p24, o30⟩, o32, o34⟩, oR⟩ (fun i hi => ?_)) ⟨fun y a b c d e => u y d, fun i hi => by rw [u 0 (by omega)]⟩ (fun c s e g m hx => ?_)
      · rw [u 30 (by omega), u 31 (by omega), u 32 (by omega), u 33 (by omega), u 34 (by omega)]
        exact ⟨rfl, rfl, rfl, rfl, rfl⟩
      · obtain ⟨a, t, es, e1, e2, e3, e4⟩ := opC_cons e
        subst es
        have ha : a < cM c := (g.2.2.2.1.mem a List.mem_cons_self).1
        have z : cF c 0 a = 123 := by rw [← e1]; exact e123
        have hkb := g.kb ha
        have ec : cset c (a :: t) = a :: t := by
          show (if cF c 10 a < wnt (cF c 0 a) then a :: t else cset c t) = a :: t
          rw [if_pos]
          rw [z]
          exact hkb
        rw [ec]
        have h1 := g.2.2.2.2.2.2.2.2.1.1.2.1
        obtain ⟨d1, d2, d3, d4⟩ := (g.2.2.2.2.2.2.2.1 a ha).2.2.2 z
        rw [if_neg (fun y => y.1 rfl), Nat.add_zero] at d4
        obtain ⟨m1, m2, m3, m4⟩ := m
        obtain ⟨f', g1, g2, g3, g4⟩ := m4.1.2.2.2 z (by omega)
        have hN : cN c ≤ 24 := by
          have := (g.2.2.2.2.1 (by omega)).2.2
          rw [if_pos rfl] at this
          have := g.1
          omega
        have ef : f = f' := by
          rw [← e4, f33] at g2
          exact nI_inj' g2 (by omega) (by omega)
        subst ef
        have tle : ∀ y, y ≠ a → tC c 0 (a :: t) y = tC c 1 (a :: t) y := fun y hy => by rw [tC_ne _ _ _ hy, tC_ne _ _ _ hy]
        refine ⟨fun y hy => ?_, fun h hh => ?_, fun wi hw => ?_, m4.kept (fun i hi => ?_)⟩
        · rw [u 7 (by omega), u 8 (by omega), u 9 (by omega), u 10 (by omega), u 11 (by omega)]
          obtain ⟨b1, b2, b3, b4, b5⟩ := m1 y hy
          refine ⟨b1, b2, b3, fun z1 z2 => ?_, fun z1 z2 => ?_⟩
          · have hne : y ≠ a := fun e => z1 (by rw [e]; exact z)
            exact b4 z1 (by rw [← tle y hne]; exact z2)
          · have hne : y ≠ a := fun e => by rw [e, z] at z1; omega
            exact b5 z1 (by rw [← tle y hne]; exact z2)
        · rw [u 12 (by omega), u 13 (by omega), u 14 (by omega)]
          obtain ⟨b1, b2, b3⟩ := m2 h hh
          refine ⟨b1, b2, fun y => ?_⟩
          by_cases e5 : h = f
          · subst e5
            rw [up_self, hx a t rfl, g3]
            congr 2
            omega
          · rw [up_other _ _ (Or.inr e5)]
            refine b3 ?_
            by_cases e6 : cO c h = a
            · rw [e6, tC_head] at y ⊢
              have : cK c h ≠ cK c f := fun e7 => e5 (cK_inj (by rw [e6, g3]) e7)
              omega
            · rw [← tle _ e6]; exact y
        · rw [u 16 (by omega), u 17 (by omega), u 18 (by omega), u 19 (by omega)]
          exact m3 wi hw
        · rw [u 30 (by omega), u 32 (by omega), u 33 (by omega), u 34 (by omega)]
          exact ⟨rfl, rfl, rfl, rfl⟩
theorem c_MO_endsCheck (Y : List kd) (d : Nat) {o : OC} {σ : sS} {x : Nat} (h45 : σ 0 45 = nI o.length) (hl : o.length ≤ 96) (ho : ostC σ o) (k : sS → Prop)
    (hk : ∀ σ', σ' 0 45 = nI (oset o).length → ostC σ' (oset o) → eK σ σ' → eOut σ σ' o x → k σ') : CJ Y d y_MO_endsCheck [sR 0 (.inl 6), sI (nI x)] σ (rN k) := by
  have fin := c_MO_endsLoop Y d o σ x k h45 hl ho hk
  refine s_MO_endsCheck_0 Y d 0 _ σ (rN k) ⟨fun hlt => ?_, fun hlt => ?_⟩
  · rw [h45, lit 0, i32_lt (by omega) (by omega)] at hlt
    refine s_MO_endsCheck_14 Y d 0 _ _ σ (rN k) ?_
    cases o with
    | nil => exact fin
    | cons a t => exact absurd (Nat.zero_lt_succ _) hlt
  · rw [h45, lit 0, i32_lt (by omega) (by omega)] at hlt
    refine s_MO_endsCheck_14 Y d 0 _ _ σ (rN k) ?_
    cases o with
    | nil => exact absurd hlt (Nat.lt_irrefl _)
    | cons a t => exact fin
