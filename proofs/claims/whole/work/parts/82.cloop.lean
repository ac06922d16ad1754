/-! checks told in letters: the reference reads dependent ones, ends, the loop -/
def hid (P : Prop) : Prop := P
theorem dep_not {c : Nat} (h : c = 60 ∨ c = 61) : ¬ isN c = true ∧ ctl c = 2 ∧ c ≠ 46 := by
  refine ⟨fun z => by have := isN_rng z; omega, ?_, by omega⟩
  unfold ctl
  rw [if_neg (by omega), if_neg (by omega), if_pos (by omega)]
theorem cur_not {c : Nat} (h : c = 125) : ¬ isN c = true ∧ ctl c = 0 ∧ c ≠ 46 ∧ ¬ (c = 60 ∨ c = 61) := by
  refine ⟨fun z => by have := isN_rng z; omega, ?_, by omega, by omega⟩
  unfold ctl
  rw [if_neg (by omega), if_neg (by omega), if_neg (by omega)]
theorem bitsE : ∀ N, N < 64 → (nI N ||| (1 : Int32)) = nI (if N % 2 = 1 then N else N + 1) := by decide +kernel
theorem bitsF : ∀ N, N < 64 → (if N % 2 = 1 then N else N + 1) < 64 ∧ (if N % 2 = 1 then N else N + 1) % 2 = 1 ∧ ∀ d, d < 6 → 1 ≤ d → ((if N % 2 = 1 then N else N + 1) / 2 ^ d % 2 = 1 ↔ N / 2 ^ d % 2 = 1) := by decide +kernel
theorem opC_dep {c : CT} {q sg one other : Nat} : ∀ {t : List Nat}, (∀ x, x ∈ t → x ≠ q) → opC (depC c q sg one other) 1 t = opC c 1 t
  | [], _ => rfl
  | x :: t, hx => by
    have := hx x List.mem_cons_self
    show (cF c 0 x, (if cF c 0 x = 123 then 0 else cF c 10 x - 1), decide (cF c 0 x = 123 ∧ cF (depC c q sg one other) 9 x ≠ 0)) :: opC (depC c q sg one other) 1 t = _ :: opC c 1 t
    rw [opC_dep (fun y hy => hx y (List.mem_cons_of_mem _ hy)), show cF (depC c q sg one other) 9 x = cF c 9 x from if_neg this]
set_option maxHeartbeats 4000000 in
theorem c_MO_readsWaiter (Y : List kd) (d : Nat) {L : Nat → Nat} {n : Nat} {R : Nat ⊕ CT} {σ : sS} {i : Nat} {q : Nat × Nat × Bool} {r : OC} {P F W w : Nat} (h : RQ L n σ i (q :: r) P F W w) (h123 : q.1 = 123) (hs : SHc L n R σ i (q :: r) P F W w) (hi : i < n) (hsg : L i = 60 ∨ L i = 61) (k : Int32 → sS → Prop) (hk1 : LK1 L n R σ i (q :: r) k) (hk0 : LK0 L n σ i (q :: r) k) :
    CJ Y (d + 3) y_MO_readsWaiter [sR 0 (.inl 6)] σ (rI k) := by
  unfold LK1 at hk1
  unfold LK0 at hk0
  have hq := h
  obtain ⟨hT, h20, hP, h21, hF, h22, hW, h23, hw, h45, hol, ho, hdt⟩ := hq
  have hn := hT.2.2.2.1
  rw [List.length_cons] at h45 hol
  have eh := (hst_cur (q := q) (r := r) h123).1
  have em := (hst_cur (q := q) (r := r) h123).2
  have e1 : nI (r.length + 1) - 1 = nI r.length := nI_subm (a := r.length + 1) (b := 1) (by omega)
  have v100 : vp_in (nI r.length) 100 := vinI (by omega) (by omega)
  obtain ⟨⟨o31, oS, o33, o33b, ⟨p, p24, o30⟩, ⟨N, N64, o32, oN⟩, o34⟩, oR⟩ := ho
  have H33 : hid (q.1 = 123 → ∃ x, x ≤ 24 ∧ σ 33 r.length = nI x) := o33b
  have H34 : hid (∃ x, x ≤ 1 ∧ σ 34 r.length = nI x) := o34
  clear o33 o33b o34 oN
  obtain ⟨hnN, hct2, hn46⟩ := dep_not hsg
  have st : cst L (n - i) i (hstC (q :: r), 0, false, mkC (q :: r)) = cst L (n - (i + 1)) (i + 1) (6, 2, false, mkC (q :: r)) := by
    refine cst_step hi ?_
    have hcl : clast (mkC (q :: r)) (L i) = some (6, 2, false, mkC (q :: r)) := by unfold clast; rw [if_pos hsg]
    rw [eh]
    cases hqq : q.2.2 with
    | true => exact hcl
    | false =>
      show (if L i = 46 then some (4, 0, false, mkC (q :: r)) else if isN (L i) then some (0, 0, false, mkC (q :: r)) else clast (mkC (q :: r)) (L i)) = _
      rw [if_neg hn46, if_neg hnN]
      exact hcl
  rw [st] at hk1 hk0
  have s9 : ∀ τ : sS, ∀ v2 v3 : Int32, k 0 τ → Jd Y (d + 3) y_MO_readsWaiter 38 [(0, sR 0 (.inl 6)), (1, sI (nI i)), (2, sI v2), (3, sI v3)] [sI (-9)] τ (rI k) := fun τ v2 v3 hk => s_MO_readsWaiter_38 Y (d + 2) 0 _ _ _ _ τ (rI k) ⟨fun z => absurd (by decide) z, fun _ => ⟨Or.inl rfl, hk⟩⟩
  refine s_MO_readsWaiter_0 Y (d + 2) 0 σ (rI k) ?_
  refine c_MO_sign Y (d + 2) hT _ (fun _ => ?_) (fun z => by omega)
  rw [hT.1, nI_s1]
  have T1 := hT.next hi
  refine c_MO_nameNow Y (d + 1) T1 _ (fun hl1 hN1 => ?_) (fun hf => ?_)
  · obtain ⟨-, y1, y2⟩ := nam96 hN1
    refine ⟨fun _ => ?_, fun z => absurd z (nI_pos (by omega))⟩
    have T2 := T1.next hl1
    refine c_MO_nameNow Y (d + 1) T2 _ (fun hl2 hN2 => ?_) (fun hf => ?_)
    · obtain ⟨-, y3, y4⟩ := nam96 hN2
      have hW32 : W < 32 := by omega
      have st3 : cst L (n - (i + 1)) (i + 1) (6, 2, false, mkC (q :: r)) = cst L (n - (i + 3)) (i + 3) (5, 0, false, mkC (q :: r)) := by
        rw [cst_nam6 (by omega), if_pos ⟨hl1, hN1⟩, if_neg (by omega), cst_nam6 (by omega), if_pos ⟨hl2, hN2⟩, if_pos (by omega)]
      obtain ⟨τ, eτ⟩ : ∃ τ, τ = up (up (up σ 0 43 (nI (i + 1))) 0 43 (nI (i + 1 + 1))) 0 43 (nI (i + 1 + 1 + 1)) := ⟨_, rfl⟩
      have t0 : ∀ j, j ≠ 43 → τ 0 j = σ 0 j := fun j hj => by rw [eτ, up_other _ _ (Or.inr hj), up_other _ _ (Or.inr hj), up_other _ _ (Or.inr hj)]
      have tx : ∀ x, x ≠ 0 → τ x = σ x := fun x hx => by rw [eτ, up_cell _ _ hx, up_cell _ _ hx, up_cell _ _ hx]
      have t43 : τ 0 43 = nI (i + 3) := by rw [eτ, up_self]
      rw [← eτ]
      clear eτ
      refine s_MO_readsWaiter_38 Y (d + 2) 0 _ _ _ _ τ (rI k) ⟨fun _ => ?_, fun z => absurd z (nI_pos (by omega))⟩
      rw [t0 45 (by omega), h45, e1]
      simp only [Nat.zero_add, cl_nI (show r.length < 2 ^ 31 by omega), up_self]
      rw [tx 32 (by omega), o32, bitsE N N64]
      have hbF := bitsF N N64
      have hb1 := bitsC _ hbF.1 (L (i + 1) - 96) (by omega)
      have hb2 := bitsC _ hbF.1 (L (i + 1 + 1) - 96) (by omega)
      have d1 := hbF.2.2 (L (i + 1) - 96) (by omega) y1
      have d2 := hbF.2.2 (L (i + 1 + 1) - 96) (by omega) y3
      have go100 : ∀ ρ : sS, (¬ (N / 2 ^ (L (i + 1) - 96) % 2 = 1 ∧ N / 2 ^ (L (i + 1 + 1) - 96) % 2 = 1) → ρ 0 44 = if σ 0 44 < 0 then nI i else σ 0 44) → ((N / 2 ^ (L (i + 1) - 96) % 2 = 1 ∧ N / 2 ^ (L (i + 1 + 1) - 96) % 2 = 1) → ρ 0 44 = σ 0 44) → (∀ x, x ≠ 0 → ρ x = (up τ 32 r.length (nI (if N % 2 = 1 then N else N + 1))) x) → (∀ j, j ≠ 43 → j ≠ 44 → ρ 0 j = σ 0 j) → ρ 0 43 = nI (i + 3) →
          Jd Y (d + 3) y_MO_readsWaiter 100 [(0, sR 0 (.inl 6)), (2, sI (nI (L i))), (3, sI (nI (L (i + 1) - 96))), (4, sI (nI (L (i + 1 + 1) - 96))), (5, sI (nI r.length))] [] ρ (rI k) := by
        intro ρ r44 r44' rx r0 r43
        have rx2 : ∀ x, x ≠ 0 → x ≠ 32 → ρ x = σ x := fun x a b => by rw [rx x a, up_cell _ _ b, tx x a]
        have r32 : ∀ y, ρ 32 y = if y = r.length then nI (if N % 2 = 1 then N else N + 1) else σ 32 y := fun y => by
          rw [rx 32 (by omega)]
          by_cases z : y = r.length
          · rw [if_pos z, z, up_self]
          · rw [if_neg z, up_other _ _ (Or.inr z), tx 32 (by omega)]
        have r22 : ρ 0 22 = nI W := by rw [r0 22 (by omega) (by omega)]; exact h22
        refine s_MO_readsWaiter_100 Y (d + 2) 0 _ _ _ _ ρ (rI k) ?_
        have c0 : ∀ (τ : sS) (c j : Nat) (x : Int32), c ≠ 0 → up τ c j x 0 = τ 0 := fun τ c j x hc => up_cell _ _ (fun z => hc z.symm)
        have v33 : vp_in (nI W) 33 := vinI (by omega) (by omega)
        simp only [Nat.zero_add, c0 _ 16 _ _ (by omega : (16 : Nat) ≠ 0), c0 _ 17 _ _ (by omega : (17 : Nat) ≠ 0), c0 _ 18 _ _ (by omega : (18 : Nat) ≠ 0), c0 _ 19 _ _ (by omega : (19 : Nat) ≠ 0), r22, cl_nI (show W < 2 ^ 31 by omega), cl_nI (show r.length < 2 ^ 31 by omega), nI_s1]
        refine ⟨v100, v33, v33, v33, v33, by decide, ?_⟩
        rw [rx2 30 (by omega) (by omega), o30]
        obtain ⟨τ4, e4⟩ : ∃ τ4, τ4 = up (up (up (up (up ρ 16 W (nI p)) 17 W (nI (L i))) 18 W (nI (L (i + 1) - 96))) 19 W (nI (L (i + 1 + 1) - 96))) 0 22 (nI (W + 1)) := ⟨_, rfl⟩
        rw [← e4]
        have f0 : ∀ j, j ≠ 22 → τ4 0 j = ρ 0 j := fun j hj => by rw [e4, up_other _ _ (Or.inr hj), c0 _ 19 _ _ (by omega), c0 _ 18 _ _ (by omega), c0 _ 17 _ _ (by omega), c0 _ 16 _ _ (by omega)]
        have f22 : τ4 0 22 = nI (W + 1) := by rw [e4, up_self]
        have fx : ∀ x, x ≠ 0 → (x < 16 ∨ 19 < x) → τ4 x = ρ x := fun x a b => by rw [e4, up_cell _ _ a, up_cell _ _ (by omega), up_cell _ _ (by omega), up_cell _ _ (by omega), up_cell _ _ (by omega)]
        have f16 : ∀ y, τ4 16 y = if y = W then nI p else σ 16 y := fun y => by
          rw [e4, up_cell _ _ (by omega), up_cell _ _ (by omega), up_cell _ _ (by omega), up_cell _ _ (by omega)]
          by_cases z : y = W
          · rw [if_pos z, z, up_self]
          · rw [if_neg z, up_other _ _ (Or.inr z), rx2 16 (by omega) (by omega)]
        have f17 : ∀ y, τ4 17 y = if y = W then nI (L i) else σ 17 y := fun y => by
          rw [e4, up_cell _ _ (by omega), up_cell _ _ (by omega), up_cell _ _ (by omega)]
          by_cases z : y = W
          · rw [if_pos z, z, up_self]
          · rw [if_neg z, up_other _ _ (Or.inr z), up_cell _ _ (by omega), rx2 17 (by omega) (by omega)]
        have f18 : ∀ y, τ4 18 y = if y = W then nI (L (i + 1) - 96) else σ 18 y := fun y => by
          rw [e4, up_cell _ _ (by omega), up_cell _ _ (by omega)]
          by_cases z : y = W
          · rw [if_pos z, z, up_self]
          · rw [if_neg z, up_other _ _ (Or.inr z), up_cell _ _ (by omega), up_cell _ _ (by omega), rx2 18 (by omega) (by omega)]
        have f19 : ∀ y, τ4 19 y = if y = W then nI (L (i + 1 + 1) - 96) else σ 19 y := fun y => by
          rw [e4, up_cell _ _ (by omega)]
          by_cases z : y = W
          · rw [if_pos z, z, up_self]
          · rw [if_neg z, up_other _ _ (Or.inr z), up_cell _ _ (by omega), up_cell _ _ (by omega), up_cell _ _ (by omega), rx2 19 (by omega) (by omega)]
        clear e4
        have T4 : TP L n τ4 (i + 3) := hT.kept (by rw [f0 43 (by omega)]; exact r43) (by omega) (by rw [f0 42 (by omega), r0 42 (by omega) (by omega)]) (by rw [fx 29 (by omega) (by omega), rx2 29 (by omega) (by omega)])
        have m4 : mC σ τ4 := ⟨fun x a b c => by rw [fx x a (by omega), rx2 x a (by omega)], fun j a b => by rw [f0 j (by omega), r0 j (by omega) (by omega)]⟩
        refine hk1 τ4 (i + 3) ((q.1, q.2.1, true) :: r) P F (W + 1) w ⟨T4, by rw [f0 20 (by omega), r0 20 (by omega) (by omega)]; exact h20, by omega, by rw [f0 21 (by omega), r0 21 (by omega) (by omega)]; exact h21, by omega, f22, by omega, by rw [f0 23 (by omega), r0 23 (by omega) (by omega)]; exact h23, by omega, by rw [f0 45 (by omega), r0 45 (by omega) (by omega)]; exact h45, by rw [List.length_cons]; omega, ⟨⟨by rw [fx 31 (by omega) (by omega), rx2 31 (by omega) (by omega)]; exact o31, oS, fun z => absurd h123 z, fun z => by rw [fx 33 (by omega) (by omega), rx2 33 (by omega) (by omega)]; exact H33 z, ⟨p, p24, by rw [fx 30 (by omega) (by omega), rx2 30 (by omega) (by omega)]; exact o30⟩, ⟨_, hbF.1, by rw [fx 32 (by omega) (by omega), r32, if_pos rfl], ⟨fun _ => rfl, fun _ => hbF.2.1⟩⟩, by rw [fx 34 (by omega) (by omega), rx2 34 (by omega) (by omega)]; exact H34⟩, oR.kept (fun j hj => ?_)⟩, hdt⟩ ?_ m4 (by omega) ?_
        · rw [fx 30 (by omega) (by omega), fx 31 (by omega) (by omega), fx 32 (by omega) (by omega), fx 33 (by omega) (by omega), fx 34 (by omega) (by omega), rx2 30 (by omega) (by omega), rx2 31 (by omega) (by omega), rx2 33 (by omega) (by omega), rx2 34 (by omega) (by omega), r32, if_neg (by omega)]
          exact ⟨rfl, rfl, rfl, rfl, rfl⟩
        · rcases hs with hb | ⟨c, s, fr, ⟨a1, a2, a3, a4, a5, a6, a7, a8, a9, a10⟩, hM⟩
          · left
            refine hb.of hn ?_
            rw [f0 44 (by omega)]
            by_cases z : N / 2 ^ (L (i + 1) - 96) % 2 = 1 ∧ N / 2 ^ (L (i + 1 + 1) - 96) % 2 = 1
            · exact Or.inl (r44' z)
            · exact Or.inr ⟨i, r44 z⟩
          · obtain ⟨a, t, es, q1, q2, q3, q4⟩ := opC_cons a10
            subst es
            have g : GC 0 c (a :: t) 0 := a3.1
            have z : cF c 0 a = 123 := by rw [← q1]; exact h123
            have ha : a < cM c := (g.2.2.2.1.mem a List.mem_cons_self).1
            have hM24 := g.1
            have hA := (g.2.2.2.2.2.2.2.1 a ha).1
            have hA6 := hA.2.2.2.2.2.1
            have hA7 := hA.2.2.2.2.2.2.1
            have h32 := a4.2.2.2.1.2.1
            rw [← q4, o32] at h32
            have eN : N = cF c 7 a + if cF c 9 a = 0 then 0 else 1 := nI_inj' h32 (by omega) (by split <;> omega)
            have eN1 : (if N % 2 = 1 then N else N + 1) = cF c 7 a + 1 := by
              rw [eN]
              by_cases y : cF c 9 a = 0
              · rw [if_pos y, Nat.add_zero, if_neg (by omega)]
              · rw [if_neg y, if_pos (by omega)]
            have hbt : ∀ d, d < 6 → 1 ≤ d → (bitC c a d ↔ N / 2 ^ d % 2 = 1) := fun d d6 d1 => by
              rw [← hbF.2.2 d d6 d1, eN1]
              have := (bitsF (cF c 7 a) hA6).2.2 d d6 d1
              rw [if_neg (by omega)] at this
              exact this.symm
            have h30 := a4.2.2.2.1.1
            rw [← q4, o30] at h30
            have ep : p = a := nI_inj' h30 (by omega) (by omega)
            obtain ⟨st1, st2⟩ := cstep_dep (L := L) (i := i) (c := c) (q := a) (r := t) (dg := 0) (fr := fr) (rt := w) hsg
            by_cases y : bitC c a (L (i + 1) - 96) ∧ bitC c a (L (i + 2) - 96)
            · right
              have yN : N / 2 ^ (L (i + 1) - 96) % 2 = 1 ∧ N / 2 ^ (L (i + 1 + 1) - 96) % 2 = 1 := ⟨(hbt _ (by omega) y1).mp y.1, (hbt _ (by omega) y3).mp y.2⟩
              have hgo := cbu_go a1 hi (st2 y)
              rw [hct2] at hgo
              refine ⟨depC c a (L i) (L (i + 1) - 96) (L (i + 2) - 96), a :: t, fr, ⟨hgo, ?_, a3.dep z (by omega) hsg ⟨y1, y2⟩ ⟨y3, y4⟩, ?_, fun u => absurd rfl u, a6, a7, by rw [a8]; rfl, a9, ?_⟩, hM⟩
              · rw [f0 44 (by omega), r44' yN, a2]
              · refine a4.dep g ?_ ?_ ?_ ?_ ?_ (fun x x1 x2 j hj => ?_) (fun x x1 x2 => ?_) (fun j hj => ⟨?_, ?_, ?_, fun hj2 => ?_⟩)
                · rw [f16, a8, if_pos rfl, ep]
                · rw [f17, a8, if_pos rfl]
                · rw [f18, a8, if_pos rfl]
                · rw [f19, a8, if_pos rfl]
                · rw [fx 32 (by omega) (by omega), r32, ← q4, if_pos rfl, eN1]
                · rw [a8] at f16 f17 f18 f19
                  rcases (show x = 16 ∨ x = 17 ∨ x = 18 ∨ x = 19 by omega) with e | e | e | e
                  · rw [e, f16, if_neg hj]
                  · rw [e, f17, if_neg hj]
                  · rw [e, f18, if_neg hj]
                  · rw [e, f19, if_neg hj]
                · rw [fx x (by omega) (by omega), rx2 x (by omega) (by omega)]
                · rw [fx 30 (by omega) (by omega), rx2 30 (by omega) (by omega)]
                · rw [fx 34 (by omega) (by omega), rx2 34 (by omega) (by omega)]
                · rw [fx 33 (by omega) (by omega), rx2 33 (by omega) (by omega)]
                · rw [fx 32 (by omega) (by omega), r32, if_neg (by omega)]
              · have e5 : opC (depC c a (L i) (L (i + 1) - 96) (L (i + 2) - 96)) 0 (a :: t) = (cF c 0 a, (if cF c 0 a = 123 then 0 else cF c 10 a - 0), decide (cF c 0 a = 123 ∧ cF (depC c a (L i) (L (i + 1) - 96) (L (i + 2) - 96)) 9 a ≠ 0)) :: opC (depC c a (L i) (L (i + 1) - 96) (L (i + 2) - 96)) 1 t := rfl
                rw [e5, opC_dep (fun x hx => by have := g.2.2.2.1.low x hx; omega), ← q3, ← q2, ← q1, show cF (depC c a (L i) (L (i + 1) - 96) (L (i + 2) - 96)) 9 a = cF c 9 a + 1 from if_pos rfl, decide_eq_true ⟨h123, Nat.succ_ne_zero _⟩]
            · left
              have nN : ¬ (N / 2 ^ (L (i + 1) - 96) % 2 = 1 ∧ N / 2 ^ (L (i + 1 + 1) - 96) % 2 = 1) := fun u => y ⟨(hbt _ (by omega) y1).mpr u.1, (hbt _ (by omega) y3).mpr u.2⟩
              refine ⟨i, hi, ?_, ?_⟩
              · rw [← a1 n (by omega)]
                exact cbu_bad hi (by omega) (st1 y)
              · rw [f0 44 (by omega), r44 nN, a2, if_pos (by decide)]
        · rw [st3]
          have eq5 : hstC ((q.1, q.2.1, true) :: r) = 5 := (hst_cur (q := (q.1, q.2.1, true)) (r := r) h123).1
          have eqm : mkC ((q.1, q.2.1, true) :: r) = mkC (q :: r) := by rw [em]; exact (hst_cur (q := (q.1, q.2.1, true)) (r := r) h123).2
          rw [eq5, eqm]
      have bad95 : ¬ (N / 2 ^ (L (i + 1) - 96) % 2 = 1 ∧ N / 2 ^ (L (i + 1 + 1) - 96) % 2 = 1) → Jd Y (d + 3) y_MO_readsWaiter 95 [(0, sR 0 (.inl 6)), (1, sI (nI i)), (2, sI (nI (L i))), (3, sI (nI (L (i + 1) - 96))), (4, sI (nI (L (i + 1 + 1) - 96))), (5, sI (nI r.length))] [] (up τ 32 r.length (nI (if N % 2 = 1 then N else N + 1))) (rI k) := by
        intro nb
        refine s_MO_readsWaiter_95 Y (d + 2) 0 _ _ _ _ _ _ (rI k) ?_
        refine c_MO_isBad Y (d + 2) i _ ?_
        have z44 : (up τ 32 r.length (nI (if N % 2 = 1 then N else N + 1))) 0 44 = σ 0 44 := by rw [up_cell _ _ (by omega), t0 44 (by omega)]
        refine go100 _ (fun _ => by rw [up_self, z44]) (fun y => absurd y nb) (fun x hx => up_cell _ _ hx) (fun j j1 j2 => by rw [up_other _ _ (Or.inr j2), up_cell _ _ (by omega), t0 j j1]) ?_
        rw [up_other _ _ (Or.inr (by omega)), up_cell _ _ (by omega)]; exact t43
      refine ⟨v100, v100, v100, fun z => bad95 (fun y => hb1.mp z (d1.mpr y.1)), fun z => ⟨v100, fun u => ?_, fun u => bad95 (fun y => hb2.mp u (d2.mpr y.2))⟩⟩
      have x1 : N / 2 ^ (L (i + 1) - 96) % 2 = 1 := by
        by_cases y : N / 2 ^ (L (i + 1) - 96) % 2 = 1
        · exact y
        · exact absurd (hb1.mpr (fun v => y (d1.mp v))) z
      have x2 : N / 2 ^ (L (i + 1 + 1) - 96) % 2 = 1 := by
        by_cases y : N / 2 ^ (L (i + 1 + 1) - 96) % 2 = 1
        · exact y
        · exact absurd (hb2.mpr (fun v => y (d2.mp v))) u
      exact go100 _ (fun y => absurd ⟨x1, x2⟩ y) (fun _ => by rw [up_cell _ _ (by omega), t0 44 (by omega)]) (fun _ _ => rfl) (fun j j1 j2 => by rw [up_cell _ _ (by omega), t0 j j1]) (by rw [up_cell _ _ (by omega)]; exact t43)
    · refine s9 _ _ _ (hk0 _ (i + 1 + 1) (up_self _ _ _ _) ⟨fun x a _ _ => by rw [up_cell _ _ a, up_cell _ _ a], fun j a b => by rw [up_other _ _ (Or.inr (by omega)), up_other _ _ (Or.inr (by omega))]⟩ ?_)
      rw [cst_nam6 (by omega), if_pos ⟨hl1, hN1⟩, if_neg (by omega), cst_nam6 (by omega), if_neg]
      rintro ⟨z1, z2⟩
      rw [hf z1] at z2
      cases z2
  · refine ⟨fun z => absurd (by decide) z, fun _ => ?_⟩
    refine s9 _ _ _ (hk0 _ (i + 1) (up_self _ _ _ _) ⟨fun x a _ _ => up_cell _ _ a, fun j a b => up_other _ _ (Or.inr (by omega))⟩ ?_)
    rw [cst_nam6 (by omega), if_neg]
    rintro ⟨z1, z2⟩
    rw [hf z1] at z2
    cases z2
theorem c_MO_closesRecord (Y : List kd) (d : Nat) {L : Nat → Nat} {n : Nat} {R : Nat ⊕ CT} {σ : sS} {i : Nat} {q : Nat × Nat × Bool} {r : OC} {P F W w : Nat} (h : RQ L n σ i (q :: r) P F W w) (h123 : q.1 = 123) (hs : SHc L n R σ i (q :: r) P F W w) (k : Int32 → sS → Prop) (hk1 : LK1 L n R σ i (q :: r) k) (hk0 : (i < n → L i ≠ 125) → k 0 σ) :
    CJ Y (d + 2) y_MO_closesRecord [sR 0 (.inl 6)] σ (rI k) := by
  unfold LK1 at hk1
  have hq := h
  obtain ⟨hT, h20, hP, h21, hF, h22, hW, h23, hw, h45, hol, ho, hdt⟩ := hq
  have hn := hT.2.2.2.1
  rw [List.length_cons] at h45 hol
  have eh := (hst_cur (q := q) (r := r) h123).1
  have em := (hst_cur (q := q) (r := r) h123).2
  have e1 : nI (r.length + 1) - 1 = nI r.length := nI_subm (a := r.length + 1) (b := 1) (by omega)
  obtain ⟨⟨o31, oS, o33, o33b, ⟨p, p24, o30⟩, ⟨N, N64, o32, oN⟩, o34⟩, oR⟩ := ho
  have H33 : hid (q.1 = 123 → ∃ x, x ≤ 24 ∧ σ 33 r.length = nI x) := o33b
  have H34 : hid (∃ x, x ≤ 1 ∧ σ 34 r.length = nI x) := o34
  clear o33 o33b o34 oN
  clear oS
  refine s_MO_closesRecord_0 Y (d + 1) 0 σ (rI k) ?_
  refine c_MO_reads Y d hT (c := 125) (by omega) _ (fun hi e125 => ⟨fun _ => ?_, fun z => absurd z (by decide)⟩) (fun hz => ⟨fun z => absurd rfl z, fun _ => ⟨Or.inl rfl, hk0 hz⟩⟩)
  rw [up_self, up_other _ _ (Or.inr (show 45 ≠ 43 by omega)), h45, e1]
  simp only [Nat.zero_add, cl_nI (show r.length < 2 ^ 31 by omega)]
  refine ⟨vinI (by omega) (by omega), ?_⟩
  obtain ⟨τ, eτ⟩ : ∃ τ, τ = up (up σ 0 43 (nI (i + 1))) 0 45 (nI r.length) := ⟨_, rfl⟩
  rw [← eτ]
  have t0 : ∀ j, j ≠ 43 → j ≠ 45 → τ 0 j = σ 0 j := fun j a b => by rw [eτ, up_other _ _ (Or.inr b), up_other _ _ (Or.inr a)]
  have tx : ∀ x, x ≠ 0 → τ x = σ x := fun x hx => by rw [eτ, up_cell _ _ hx, up_cell _ _ hx]
  have t45 : τ 0 45 = nI r.length := by rw [eτ, up_self]
  have t43 : τ 0 43 = nI (i + 1) := by rw [eτ, up_other _ _ (Or.inr (by omega)), up_self]
  clear eτ
  rw [tx 30 (by omega), o30]
  have st : cst L (n - i) i (hstC (q :: r), 0, false, mkC (q :: r)) = cst L (n - (i + 1)) (i + 1) (cend (mkC r)) := by
    refine cst_step hi ?_
    have hcl : clast (mkC (q :: r)) (L i) = some (cend (mkC r)) := by unfold clast; rw [if_neg (cur_not e125).2.2.2, if_pos e125, em]; rfl
    rw [eh]
    cases hqq : q.2.2 with
    | true => exact hcl
    | false =>
      show (if L i = 46 then some (4, 0, false, mkC (q :: r)) else if isN (L i) then some (0, 0, false, mkC (q :: r)) else clast (mkC (q :: r)) (L i)) = _
      rw [if_neg (cur_not e125).2.2.1, if_neg (cur_not e125).1]
      exact hcl
  refine c_MO_endsCheck Y (d + 1) t45 (by omega) (oR.kept (fun j hj => by
    rw [tx 30 (by omega), tx 31 (by omega), tx 32 (by omega), tx 33 (by omega), tx 34 (by omega)]
    exact ⟨rfl, rfl, rfl, rfl, rfl⟩)) _ (fun σ' b1 b2 b3 b4 => ⟨by decide, ?_⟩)
  have hl2 := oset_len r
  have mτ : mC σ τ := ⟨fun x a _ _ => tx x a, fun j a b => t0 j (by omega) (by omega)⟩
  have f0 : ∀ j, j ≠ 43 → j ≠ 45 → σ' 0 j = σ 0 j := fun j a b => by rw [b3.2 j b, t0 j a b]
  refine hk1 σ' (i + 1) (oset r) P F W w ⟨hT.kept (by rw [b3.2 43 (by omega)]; exact t43) hi (f0 42 (by omega) (by omega)) (by rw [b3.1 29 (by omega) (by omega) (by omega) (by omega) (by omega), tx 29 (by omega)]), by rw [f0 20 (by omega) (by omega)]; exact h20, by omega, by rw [f0 21 (by omega) (by omega)]; exact h21, by omega, by rw [f0 22 (by omega) (by omega)]; exact h22, by omega, by rw [f0 23 (by omega) (by omega)]; exact h23, by omega, b1, by omega, b2, fun x hx => oset_dep hdt x (List.mem_of_mem_tail hx)⟩ ?_ (mτ.trans b3.mC) (by omega) (by rw [st, cend_oset (o := r) (fun x hx => hdt x hx)])
  rcases hs with hb | ⟨c, s, fr, ⟨a1, a2, a3, a4, a5, a6, a7, a8, a9, a10⟩, hM⟩
  · exact Or.inl (hb.of hn (Or.inl (f0 44 (by omega) (by omega))))
  · right
    obtain ⟨a, t, es, q1, q2, q3, q4⟩ := opC_cons a10
    subst es
    have g : GC 0 c (a :: t) 0 := a3.1
    have z : cF c 0 a = 123 := by rw [← q1]; exact h123
    have ha : a < cM c := (g.2.2.2.1.mem a List.mem_cons_self).1
    have hM24 := g.1
    have h30 := a4.2.2.2.1.1
    rw [← q4, o30] at h30
    have ep : p = a := nI_inj' h30 (by omega) (by omega)
    have hat : a ∉ t := fun y => by have := g.2.2.2.1.low a y; omega
    have ec : ctl (L i) = 0 := (cur_not e125).2.1
    have hgo := cbu_go a1 hi (cstep_close e125)
    rw [ec] at hgo
    have hg1 := g.close z
    obtain ⟨m1, m2, m3, m4⟩ := a4
    have et : ∀ x, tC c 1 t x = tC c 0 (a :: t) x := fun x => by
      by_cases e : x = a
      · rw [e, tC_head, tC_out hat]; rfl
      · rw [tC_ne _ _ _ e]
    have mt : MS τ c 1 t := by
      refine MS.kept (σ := σ) ⟨fun y hy => ?_, fun f hf => ?_, m3, m4.2⟩ (fun x x1 x2 => tx x (by omega)) (fun j hj => by
        rw [tx 30 (by omega), tx 32 (by omega), tx 33 (by omega), tx 34 (by omega)]
        exact ⟨rfl, rfl, rfl, rfl⟩)
      · rw [et]; exact m1 y hy
      · rw [et]; exact m2 f hf
    refine ⟨c, cset c t, fr, ⟨hgo, by rw [f0 44 (by omega) (by omega)]; exact a2, a3.close z, b4 c t q3 hg1 mt (fun b s2 e2 => ?_), fun y => absurd rfl y, a6, a7, a8, a9, ?_⟩, hM⟩
    · subst e2
      rw [ep]
      exact g.2.2.2.1.2.2.2.2.1.symm
    · rw [q3]
      exact oset_cset hg1
