/-! checks told in letters: the reference reads fields, dependent ones, ends -/
def LK1 (L : Nat → Nat) (n : Nat) (R : Nat ⊕ CT) (σ : sS) (i : Nat) (o : OC) (k : Int32 → sS → Prop) : Prop := ∀ σ' i' o' P' F' W' w', RQ L n σ' i' o' P' F' W' w' → SHc L n R σ' i' o' P' F' W' w' → mC σ σ' → i < i' → cst L (n - i) i (hstC o, 0, false, mkC o) = cst L (n - i') i' (hstC o', 0, false, mkC o') → k 1 σ'
def LK0 (L : Nat → Nat) (n : Nat) (σ : sS) (i : Nat) (o : OC) (k : Int32 → sS → Prop) : Prop := ∀ σ' j, σ' 0 43 = nI j → mC σ σ' → cst L (n - i) i (hstC o, 0, false, mkC o) = some j → k 0 σ'
theorem hst_cur {q : Nat × Nat × Bool} {r : OC} (h : q.1 = 123) : hstC (q :: r) = (if q.2.2 = true then 5 else 3) ∧ mkC (q :: r) = 123 :: mkC r := by
  constructor
  · show (if q.1 = 123 then _ else 0) = _
    rw [if_pos h]
  · show (if q.1 = 123 then _ else _) = _
    rw [if_pos h]
theorem isN_rng {c : Nat} (h : isN c = true) : 97 ≤ c ∧ c ≤ 101 := isN_iff.mp h
theorem c_MO_readsCheckField (Y : List kd) (d : Nat) {L : Nat → Nat} {n : Nat} {R : Nat ⊕ CT} {σ : sS} {i : Nat} {q : Nat × Nat × Bool} {r : OC} {P F W w : Nat} (h : RQ L n σ i (q :: r) P F W w) (h123 : q.1 = 123) (hq2 : q.2.2 = false) (hs : SHc L n R σ i (q :: r) P F W w) (hno : i < n → L i ≠ 60 ∧ L i ≠ 61 ∧ L i ≠ 125) (k : Int32 → sS → Prop) (hk1 : LK1 L n R σ i (q :: r) k) (hk0 : LK0 L n σ i (q :: r) k) :
    CJ Y (d + 4) y_MO_readsCheckField [sR 0 (.inl 6)] σ (rI k) := by
  unfold LK1 at hk1
  unfold LK0 at hk0
  have hq := h
  obtain ⟨hT, h20, hP, h21, hF, h22, hW, h23, hw, h45, hol, ho, hdt⟩ := hq
  have hn := hT.2.2.2.1
  have hin := hT.2.2.2.2
  rw [List.length_cons] at h45 hol
  have eh : hstC (q :: r) = 3 := by rw [(hst_cur h123).1, hq2]; rfl
  rw [eh] at hk1 hk0
  have e1 : nI (r.length + 1) - 1 = nI r.length := nI_subm (a := r.length + 1) (b := 1) (by omega)
  have v100 : vp_in (nI r.length) 100 := vinI (by omega) (by omega)
  have hoo := ho
  obtain ⟨⟨o31, oS, o33, o33b, ⟨p, p24, o30⟩, ⟨N, N64, o32, oN⟩, o34⟩, oR⟩ := ho
  have core : ∀ (τ : sS) (i1 may : Nat), TP L n τ i1 → (∀ x, x ≠ 0 → τ x = σ x) → (∀ j, j ≠ 43 → τ 0 j = σ 0 j) → may ≤ 1 → i ≤ i1 → ((i1 < n → isN (L i1) = false) → cst L (n - i) i (3, 0, false, mkC (q :: r)) = some i1) →
      (i1 < n → isN (L i1) = true → i < n ∧ i + ctl (L i) + 1 = i1 + 1 ∧ cst L (n - i) i (3, 0, false, mkC (q :: r)) = cst L (n - (i1 + 1)) (i1 + 1) (0, 0, false, mkC (q :: r)) ∧ ∀ c a t fr, (bitC c a (L i1 - 96) → cstep L i c (a :: t) 0 fr w = none) ∧ (¬ bitC c a (L i1 - 96) → cstep L i c (a :: t) 0 fr w = some (fldC c a (L i1 - 96), a :: t, L i1 - 96, may, w))) →
      Jd Y (d + 4) y_MO_readsCheckField 19 [(0, sR 0 (.inl 6)), (1, sI (nI i))] [sI (nI may)] τ (rI k) := by
    intro τ i1 may Tτ tx t0 hmay hi1 hfail hok
    refine s_MO_readsCheckField_19 Y (d + 3) 0 _ _ τ (rI k) ?_
    refine c_MO_nameNow Y (d + 2) Tτ _ (fun hlt hN => ?_) (fun hnN => ?_)
    · obtain ⟨hin2, hct, hcst, hstep⟩ := hok hlt hN
      obtain ⟨-, y1, y2⟩ := nam96 hN
      refine ⟨fun _ => ?_, fun z => absurd z (nI_pos (by omega))⟩
      have u0 : ∀ j, j ≠ 43 → (up τ 0 43 (nI (i1 + 1))) 0 j = σ 0 j := fun j hj => by rw [up_other _ _ (Or.inr hj), t0 j hj]
      have ux : ∀ x, x ≠ 0 → (up τ 0 43 (nI (i1 + 1))) x = σ x := fun x hx => by rw [up_cell _ _ hx, tx x hx]
      rw [u0 45 (by omega), h45, e1]
      simp only [Nat.zero_add, cl_nI (show r.length < 2 ^ 31 by omega)]
      rw [ux 32 (by omega), o32]
      have hbC := bitsC N N64 (L i1 - 96) (by omega)
      have hbB := bitsB N N64 (L i1 - 96) (by omega)
      have go58 : ∀ ρ : sS, (N / 2 ^ (L i1 - 96) % 2 = 1 → ρ 0 44 = if σ 0 44 < 0 then nI i else σ 0 44) → (¬ N / 2 ^ (L i1 - 96) % 2 = 1 → ρ 0 44 = σ 0 44) → (∀ x, x ≠ 0 → ρ x = σ x) → (∀ j, j ≠ 43 → j ≠ 44 → ρ 0 j = σ 0 j) → ρ 0 43 = nI (i1 + 1) →
          Jd Y (d + 4) y_MO_readsCheckField 58 [(0, sR 0 (.inl 6)), (2, sI (nI may)), (3, sI (nI (L i1 - 96))), (4, sI (nI r.length))] [] ρ (rI k) := by
        intro ρ r44 r44' rx r0 r43
        have hmF := m24_le F
        have go89 : Jd Y (d + 4) y_MO_readsCheckField 89 [(0, sR 0 (.inl 6)), (2, sI (nI may)), (3, sI (nI (L i1 - 96))), (4, sI (nI r.length))] [sI (nI (m24 F))] (up ρ 32 r.length (nI (if N / 2 ^ (L i1 - 96) % 2 = 1 then N else N + 2 ^ (L i1 - 96)))) (rI k) := by
          refine s_MO_readsCheckField_89 Y (d + 3) 0 _ _ _ _ _ (rI k) ?_
          have v25 : vp_in (nI (m24 F)) 25 := vinI (by omega) (by omega)
          refine ⟨v100, v25, v25, v25, v100, ?_⟩
          simp only [Nat.zero_add, cl_nI (show r.length < 2 ^ 31 by omega), cl_nI (show m24 F < 2 ^ 31 by omega)]
          have c0 : ∀ (τ : sS) (c j : Nat) (x : Int32), c ≠ 0 → up τ c j x 0 = τ 0 := fun τ c j x hc => up_cell _ _ (fun z => hc z.symm)
          rw [up_cell _ _ (show 30 ≠ 32 by omega), rx 30 (by omega), o30, c0 _ 33 _ _ (by omega), c0 _ 14 _ _ (by omega), c0 _ 13 _ _ (by omega), c0 _ 12 _ _ (by omega), c0 _ 32 _ _ (by omega), r0 21 (by omega) (by omega), h21, nI_s1]
          obtain ⟨τ4, e4⟩ : ∃ τ4, τ4 = up (up (up (up (up (up ρ 32 r.length (nI (if N / 2 ^ (L i1 - 96) % 2 = 1 then N else N + 2 ^ (L i1 - 96)))) 12 (m24 F) (nI p)) 13 (m24 F) (nI (L i1 - 96))) 14 (m24 F) (nI may)) 33 r.length (nI (m24 F))) 0 21 (nI (F + 1)) := ⟨_, rfl⟩
          rw [← e4]
          have f0 : ∀ j, j ≠ 21 → τ4 0 j = ρ 0 j := fun j hj => by rw [e4, up_other _ _ (Or.inr hj), c0 _ 33 _ _ (by omega), c0 _ 14 _ _ (by omega), c0 _ 13 _ _ (by omega), c0 _ 12 _ _ (by omega), c0 _ 32 _ _ (by omega)]
          have f21 : τ4 0 21 = nI (F + 1) := by rw [e4, up_self]
          have fx : ∀ x, x ≠ 0 → x ≠ 12 → x ≠ 13 → x ≠ 14 → x ≠ 32 → x ≠ 33 → τ4 x = σ x := fun x a b c e f g => by rw [e4, up_cell _ _ a, up_cell _ _ g, up_cell _ _ e, up_cell _ _ c, up_cell _ _ b, up_cell _ _ f, rx x a]
          have f33 : ∀ y, τ4 33 y = if y = r.length then nI (m24 F) else σ 33 y := fun y => by
            rw [e4, up_cell _ _ (by omega)]
            by_cases z : y = r.length
            · rw [if_pos z, z, up_self]
            · rw [if_neg z, up_other _ _ (Or.inr z), up_cell _ _ (by omega), up_cell _ _ (by omega), up_cell _ _ (by omega), up_cell _ _ (by omega), rx 33 (by omega)]
          have f14 : ∀ y, τ4 14 y = if y = m24 F then nI may else σ 14 y := fun y => by
            rw [e4, up_cell _ _ (by omega), up_cell _ _ (by omega)]
            by_cases z : y = m24 F
            · rw [if_pos z, z, up_self]
            · rw [if_neg z, up_other _ _ (Or.inr z), up_cell _ _ (by omega), up_cell _ _ (by omega), up_cell _ _ (by omega), rx 14 (by omega)]
          have f13 : ∀ y, τ4 13 y = if y = m24 F then nI (L i1 - 96) else σ 13 y := fun y => by
            rw [e4, up_cell _ _ (by omega), up_cell _ _ (by omega), up_cell _ _ (by omega)]
            by_cases z : y = m24 F
            · rw [if_pos z, z, up_self]
            · rw [if_neg z, up_other _ _ (Or.inr z), up_cell _ _ (by omega), up_cell _ _ (by omega), rx 13 (by omega)]
          have f12 : ∀ y, τ4 12 y = if y = m24 F then nI p else σ 12 y := fun y => by
            rw [e4, up_cell _ _ (by omega), up_cell _ _ (by omega), up_cell _ _ (by omega), up_cell _ _ (by omega)]
            by_cases z : y = m24 F
            · rw [if_pos z, z, up_self]
            · rw [if_neg z, up_other _ _ (Or.inr z), up_cell _ _ (by omega), rx 12 (by omega)]
          have f32 : ∀ y, τ4 32 y = if y = r.length then nI (if N / 2 ^ (L i1 - 96) % 2 = 1 then N else N + 2 ^ (L i1 - 96)) else σ 32 y := fun y => by
            rw [e4, up_cell _ _ (by omega), up_cell _ _ (by omega), up_cell _ _ (by omega), up_cell _ _ (by omega), up_cell _ _ (by omega)]
            by_cases z : y = r.length
            · rw [if_pos z, z, up_self]
            · rw [if_neg z, up_other _ _ (Or.inr z), rx 32 (by omega)]
          clear e4
          have T4 : TP L n τ4 (i1 + 1) := hT.kept (by rw [f0 43 (by omega)]; exact r43) (by omega) (by rw [f0 42 (by omega), r0 42 (by omega) (by omega)]) (fx 29 (by omega) (by omega) (by omega) (by omega) (by omega) (by omega))
          have m4 : mC σ τ4 := ⟨fun x a b c => fx x a (by omega) (by omega) (by omega) (by omega) (by omega), fun j a b => by rw [f0 j (by omega), r0 j (by omega) (by omega)]⟩
          have o4 : ostC τ4 (q :: r) := by
            refine ⟨⟨by rw [fx 31 (by omega) (by omega) (by omega) (by omega) (by omega) (by omega)]; exact o31, oS, fun z => absurd h123 z, fun _ => ⟨m24 F, hmF, by rw [f33, if_pos rfl]⟩, ⟨p, p24, by rw [fx 30 (by omega) (by omega) (by omega) (by omega) (by omega) (by omega)]; exact o30⟩, ⟨_, hbB.1, by rw [f32, if_pos rfl], ?_⟩, by rw [fx 34 (by omega) (by omega) (by omega) (by omega) (by omega) (by omega)]; exact o34⟩, oR.kept (fun j hj => ?_)⟩
            · rw [← oN]
              have := hbB.2 0 (by omega)
              rw [Nat.pow_zero, Nat.div_one, Nat.div_one] at this
              rw [this]
              exact ⟨fun z => by rcases z with z | z; exact z; omega, Or.inl⟩
            · rw [fx 30 (by omega) (by omega) (by omega) (by omega) (by omega) (by omega), fx 31 (by omega) (by omega) (by omega) (by omega) (by omega) (by omega), fx 34 (by omega) (by omega) (by omega) (by omega) (by omega) (by omega), f33, f32, if_neg (by omega), if_neg (by omega)]
              exact ⟨rfl, rfl, rfl, rfl, rfl⟩
          have Q4 : RQ L n τ4 (i1 + 1) (q :: r) P (F + 1) W w := ⟨T4, by rw [f0 20 (by omega), r0 20 (by omega) (by omega)]; exact h20, by omega, f21, by omega, by rw [f0 22 (by omega), r0 22 (by omega) (by omega)]; exact h22, by omega, by rw [f0 23 (by omega), r0 23 (by omega) (by omega)]; exact h23, by omega, by rw [f0 45 (by omega), r0 45 (by omega) (by omega)]; exact h45, by rw [List.length_cons]; omega, o4, hdt⟩
          have S4 : STc L n R τ4 (i1 + 1) (q :: r) P (F + 1) W w := by
            rcases hs with hb | ⟨c, s, fr, ⟨a1, a2, a3, a4, a5, a6, a7, a8, a9, a10⟩, hM⟩
            · left
              refine hb.of hn ?_
              rw [f0 44 (by omega)]
              by_cases z : N / 2 ^ (L i1 - 96) % 2 = 1
              · exact Or.inr ⟨i, r44 z⟩
              · exact Or.inl (r44' z)
            · obtain ⟨a, t, es, q1, q2, q3, q4⟩ := opC_cons a10
              subst es
              have g : GC 0 c (a :: t) 0 := a3.1
              have z : cF c 0 a = 123 := by rw [← q1]; exact h123
              have ha : a < cM c := (g.2.2.2.1.mem a List.mem_cons_self).1
              have hM24 := g.1
              have h9 : cF c 9 a = 0 := by
                have e5 : q.2.2 = decide (cF c 0 a = 123 ∧ cF c 9 a ≠ 0) := by
                  have e' : q :: r = (cF c 0 a, (if cF c 0 a = 123 then 0 else cF c 10 a - 0), decide (cF c 0 a = 123 ∧ cF c 9 a ≠ 0)) :: opC c 1 t := a10
                  rw [(List.cons.inj e').1]
                rw [hq2] at e5
                by_cases y : cF c 9 a = 0
                · exact y
                · rw [decide_eq_true ⟨z, y⟩] at e5
                  cases e5
              have h32 := a4.2.2.2.1.2.1
              rw [← q4, o32, if_pos h9, Nat.add_zero] at h32
              have hA := (g.2.2.2.2.2.2.2.1 a ha).1
              have eN : N = cF c 7 a := nI_inj' h32 (by omega) (by have := hA.2.2.2.2.2.1; omega)
              have hbit : bitC c a (L i1 - 96) ↔ N / 2 ^ (L i1 - 96) % 2 = 1 := by unfold bitC; rw [eN]
              have h30 := a4.2.2.2.1.1
              rw [← q4, o30] at h30
              have ep : p = a := nI_inj' h30 (by omega) (by omega)
              have hcN : cN c < 24 := by
                have := (g.2.2.2.2.1 (by omega)).2.2
                rw [if_pos rfl] at this
                omega
              have emF : m24 F = cN c := by unfold m24; rw [a7, if_pos hcN]
              obtain ⟨st1, st2⟩ := hstep c a t fr
              by_cases y : bitC c a (L i1 - 96)
              · left
                refine ⟨i, hin2, ?_, ?_⟩
                · rw [← a1 n (by omega)]
                  exact cbu_bad hin2 (by omega) (st1 y)
                · rw [f0 44 (by omega), r44 (hbit.mp y), a2, if_pos (by decide)]
              · right
                have hgo := cbu_go a1 hin2 (st2 y)
                rw [hct] at hgo
                have ny : ¬ N / 2 ^ (L i1 - 96) % 2 = 1 := fun u => y (hbit.mpr u)
                refine ⟨fldC c a (L i1 - 96), a :: t, L i1 - 96, may, ⟨hgo, ?_, a3.field z h9 ⟨y1, y2⟩ hmay y (by omega), ?_, fun _ => ⟨?_, ?_⟩, a6, by rw [a7]; rfl, a8, a9, ?_⟩, ?_⟩
                · rw [f0 44 (by omega), r44' ny, a2]
                · refine a4.field (fr := 0) g z h9 ?_ ?_ ?_ (fun x x1 x2 j hj => ?_) (fun x hx => ?_) (fun j hj => ⟨?_, ?_, fun hj2 => ⟨?_, ?_⟩⟩)
                  · rw [f12, emF, if_pos rfl, ep]
                  · rw [f33, ← q4, if_pos rfl, emF]
                  · rw [f32, ← q4, if_pos rfl, if_neg ny, eN]
                  · rcases (show x = 12 ∨ x = 13 ∨ x = 14 ∨ x = 15 by omega) with e | e | e | e
                    · rw [e, f12, emF, if_neg hj]
                    · rw [e, f13, emF, if_neg hj]
                    · rw [e, f14, emF, if_neg hj]
                    · rw [e, fx 15 (by omega) (by omega) (by omega) (by omega) (by omega) (by omega)]
                  · exact fx x (by omega) (by omega) (by omega) (by omega) (by omega) (by omega)
                  · rw [fx 30 (by omega) (by omega) (by omega) (by omega) (by omega) (by omega)]
                  · rw [fx 34 (by omega) (by omega) (by omega) (by omega) (by omega) (by omega)]
                  · rw [f32, if_neg (by omega)]
                  · rw [f33, if_neg (by omega)]
                · show τ4 13 (cN c + 1 - 1) = _
                  rw [Nat.add_sub_cancel, f13, emF, if_pos rfl]
                · show τ4 14 (cN c + 1 - 1) = _
                  rw [Nat.add_sub_cancel, f14, emF, if_pos rfl]
                · rw [a10]
                  exact (opC_same (c := c) (c' := fldC c a (L i1 - 96)) rfl rfl rfl 0 (a :: t)).symm
                · unfold hdC
                  rw [if_pos (Or.inl (by omega))]
          refine c_MO_readsCheck Y d Q4 S4 (fun x hx => ?_) _ (fun σ' i' o' P' F' W' w' b1 b2 b3 b4 b5 => ⟨Or.inr rfl, hk1 σ' i' o' P' F' W' w' b1 b2 (m4.trans b3) (by omega) (hcst.trans b5)⟩) (fun σ' j b1 b2 b3 => ⟨Or.inl rfl, hk0 σ' j b1 (m4.trans b2) (hcst.trans b3)⟩)
          rcases List.mem_cons.mp hx with e | e
          · rw [e]; exact hq2
          · exact hdt x e
        refine s_MO_readsCheckField_58 Y (d + 3) 0 _ _ _ ρ (rI k) ?_
        simp only [Nat.zero_add, cl_nI (show r.length < 2 ^ 31 by omega)]
        rw [rx 32 (by omega), o32, bitsA N N64 (L i1 - 96) (by omega), up_cell _ _ (show 0 ≠ 32 by omega), r0 21 (by omega) (by omega), h21, lit 24, i32_lt (by omega) (by omega)]
        refine ⟨v100, v100, fun hge => ?_, fun hlt => ?_⟩
        · have e : m24 F = 24 := by unfold m24; rw [if_neg hge]
          rw [e] at go89
          exact go89
        · have e : m24 F = F := by unfold m24; rw [if_pos hlt]
          rw [e] at go89
          exact go89
      refine ⟨v100, fun z => ?_, fun z => ?_⟩
      · have nb := hbC.mp z
        exact go58 _ (fun y => absurd y nb) (fun _ => u0 44 (by omega)) ux (fun j j1 _ => u0 j j1) (up_self _ _ _ _)
      · have yb : N / 2 ^ (L i1 - 96) % 2 = 1 := by
          by_cases y : N / 2 ^ (L i1 - 96) % 2 = 1
          · exact y
          · exact absurd (hbC.mpr y) z
        refine c_MO_isBad Y (d + 3) i _ ?_
        refine go58 _ (fun _ => by rw [up_self, u0 44 (by omega)]) (fun y => absurd yb y) (fun x hx => by rw [up_cell _ _ hx, ux x hx]) (fun j j1 j2 => by rw [up_other _ _ (Or.inr j2), u0 j j1]) ?_
        rw [up_other _ _ (Or.inr (by omega)), up_self]
    · refine ⟨fun z => absurd (by decide) z, fun _ => ⟨Or.inl rfl, ?_⟩⟩
      exact hk0 τ i1 Tτ.1 ⟨fun x a _ _ => tx x a, fun j a b => t0 j (by omega)⟩ (hfail hnN)
  have cg3 : ∀ c, cgo (3, 0, false, mkC (q :: r)) c = (if c = 46 then some (4, 0, false, mkC (q :: r)) else if isN c then some (0, 0, false, mkC (q :: r)) else clast (mkC (q :: r)) c) := fun c => rfl
  refine s_MO_readsCheckField_0 Y (d + 3) 0 σ (rI k) ?_
  rw [hT.1]
  refine c_MO_reads Y (d + 2) hT (c := 46) (by omega) _ (fun hi e46 => ⟨fun z => absurd z (by decide), fun _ => ?_⟩) (fun hn46 => ⟨fun _ => ?_, fun z => absurd rfl z⟩)
  · have st : cst L (n - i) i (3, 0, false, mkC (q :: r)) = cst L (n - (i + 1)) (i + 1) (4, 0, false, mkC (q :: r)) := cst_step hi (by rw [cg3, if_pos e46])
    have ec : ctl (L i) = 1 := by unfold ctl; rw [if_neg (by omega), if_pos e46]
    refine core _ (i + 1) 1 (hT.next hi) (fun x hx => up_cell _ _ hx) (fun j hj => up_other _ _ (Or.inr hj)) (Nat.le_refl _) (by omega) (fun hf => ?_) (fun hlt hN => ⟨hi, by rw [ec], ?_, fun c a t fr => cstep_may e46⟩)
    · rw [st, cst_nam4 (by omega), if_neg]
      rintro ⟨z1, z2⟩
      rw [hf z1] at z2
      cases z2
    · rw [st, cst_nam4 (by omega), if_pos ⟨hlt, hN⟩]
  · refine core σ i 0 hT (fun _ _ => rfl) (fun _ _ => rfl) (Nat.zero_le _) (Nat.le_refl _) (fun hf => ?_) (fun hlt hN => ?_)
    · refine cst_stop hin (by show (3 : Nat) ≠ 1; omega) (fun hi => ?_)
      obtain ⟨z1, z2, z3⟩ := hno hi
      rw [cg3, if_neg (hn46 hi), hf hi]
      unfold clast
      rw [if_neg (by decide), if_neg (by omega), if_neg z3]
    · have hb := isN_rng hN
      have ec : ctl (L i) = 0 := by unfold ctl; rw [if_neg (by omega), if_neg (by omega), if_neg (by omega)]
      refine ⟨hlt, by rw [ec], ?_, fun c a t fr => cstep_name hN⟩
      exact cst_step hlt (by rw [cg3, if_neg (hn46 hlt), if_pos hN])
