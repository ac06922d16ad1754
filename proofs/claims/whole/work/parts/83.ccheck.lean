/-! checks told in letters: the reference's loop, the whole -/
theorem c_MO_readsInCheck (Y : List kd) (d : Nat) {L : Nat → Nat} {n : Nat} {R : Nat ⊕ CT} {σ : sS} {i : Nat} {q : Nat × Nat × Bool} {r : OC} {P F W w : Nat} (h : RQ L n σ i (q :: r) P F W w) (hs : SHc L n R σ i (q :: r) P F W w) (k : Int32 → sS → Prop) (hk1 : LK1 L n R σ i (q :: r) k) (hk0 : LK0 L n σ i (q :: r) k) :
    CJ Y (d + 5) y_MO_readsInCheck [sR 0 (.inl 6)] σ (rI k) := by
  have hq := h
  obtain ⟨hT, h20, hP, h21, hF, h22, hW, h23, hw, h45, hol, ho, hdt⟩ := hq
  have hn := hT.2.2.2.1
  have hin := hT.2.2.2.2
  rw [List.length_cons] at h45 hol
  have e1 : nI (r.length + 1) - 1 = nI r.length := nI_subm (a := r.length + 1) (b := 1) (by omega)
  have v100 : vp_in (nI r.length) 100 := vinI (by omega) (by omega)
  obtain ⟨⟨o31, oS, o33, o33b, o30, ⟨N, N64, o32, oN⟩, o34⟩, oR⟩ := ho
  have H33 : hid (q.1 ≠ 123 → q.2.2 = false) := fun z => (o33 z).2.2.2
  have HN : hid (N % 2 = 1 ↔ q.2.2 = true) := oN
  have qb := openS_lt oS
  clear o33 o33b o30 o34 oN oS
  refine s_MO_readsInCheck_0 Y (d + 4) 0 σ (rI k) ?_
  rw [h45, e1]
  simp only [Nat.zero_add, cl_nI (show r.length < 2 ^ 31 by omega)]
  rw [o31, z_eq qb 123 (by omega)]
  refine ⟨v100, fun e123 => ?_, fun n123 => ?_⟩
  · have eh := (hst_cur (q := q) (r := r) e123).1
    -- no dependent one, no end
    have rest : (i < n → L i ≠ 60 ∧ L i ≠ 61) → CJ Y (d + 4) y_MO_closesRecord [sR 0 (.inl 6)] σ (rI fun r3 σ3 => ((¬ r3 = 0 → (((1 : Int32) = 0 ∨ True) ∧ (rI k) (some (sI 1)) σ3)) ∧ (r3 = 0 → (vp_in ((σ3 0 45) - 1) 100 ∧ ((¬ (iHas (σ3 32 (Int32.toNatClampNeg ((σ3 0 45) - 1))) 0) = 0 → ((True ∨ (0 : Int32) = 1) ∧ (rI k) (some (sI 0)) σ3)) ∧ ((iHas (σ3 32 (Int32.toNatClampNeg ((σ3 0 45) - 1))) 0) = 0 → CJ Y (d + 4) y_MO_readsCheckField [sR 0 (.inl 6)] σ3 (rI fun r4 σ4 => ((r4 = 0 → ((True ∨ (0 : Int32) = 1) ∧ (rI k) (some (sI 0)) σ4)) ∧ (¬ r4 = 0 → (((1 : Int32) = 0 ∨ True) ∧ (rI k) (some (sI 1)) σ4)))))))))) := by
      intro h6061
      refine c_MO_closesRecord Y (d + 2) h e123 hs _ (fun σ' i' o' P' F' W' w' b1 b2 b3 b4 b5 => ⟨fun _ => ⟨by decide, hk1 σ' i' o' P' F' W' w' b1 b2 b3 b4 b5⟩, fun z => absurd z (by decide)⟩) (fun h125 => ⟨fun z => absurd rfl z, fun _ => ?_⟩)
      rw [h45, e1]
      simp only [cl_nI (show r.length < 2 ^ 31 by omega)]
      rw [o32]
      have hbC : iHas (nI N) 0 = 0 ↔ ¬ N / 2 ^ 0 % 2 = 1 := bitsC N N64 0 (by omega)
      rw [Nat.pow_zero, Nat.div_one] at hbC
      refine ⟨v100, fun z => ⟨by decide, ?_⟩, fun z => ?_⟩
      · have hN : N % 2 = 1 := by
          by_cases y : N % 2 = 1
          · exact y
          · exact absurd (hbC.mpr y) z
        have e5 : hstC (q :: r) = 5 := by rw [eh, if_pos (HN.mp hN)]
        refine hk0 σ i hT.1 (mC.refl σ) ?_
        rw [e5]
        refine cst_stop hin (by show (5 : Nat) ≠ 1; omega) (fun hi => ?_)
        obtain ⟨z1, z2⟩ := h6061 hi
        show clast (mkC (q :: r)) (L i) = none
        unfold clast
        rw [if_neg (by omega), if_neg (h125 hi)]
      · have hF2 : q.2.2 = false := by
          cases y : q.2.2 with
          | false => rfl
          | true => exact absurd (HN.mpr y) (hbC.mp z)
        refine c_MO_readsCheckField Y d h e123 hF2 hs (fun hi => ⟨(h6061 hi).1, (h6061 hi).2, h125 hi⟩) _ (fun σ' i' o' P' F' W' w' b1 b2 b3 b4 b5 => ⟨fun y => absurd y (by decide), fun _ => ⟨by decide, hk1 σ' i' o' P' F' W' w' b1 b2 b3 b4 b5⟩⟩) (fun σ' j b1 b2 b3 => ⟨fun _ => ⟨by decide, hk0 σ' j b1 b2 b3⟩, fun y => absurd rfl y⟩)
    have dep : i < n → (L i = 60 ∨ L i = 61) → Jd Y (d + 5) y_MO_readsInCheck 39 [(0, sR 0 (.inl 6))] [] σ (rI k) := by
      intro hi hsg
      refine s_MO_readsInCheck_39 Y (d + 4) 0 σ (rI k) ?_
      exact c_MO_readsWaiter Y (d + 1) h e123 hs hi hsg _ (fun σ' i' o' P' F' W' w' b1 b2 b3 b4 b5 => ⟨Or.inr rfl, hk1 σ' i' o' P' F' W' w' b1 b2 b3 b4 b5⟩) (fun σ' j b1 b2 b3 => ⟨Or.inl rfl, hk0 σ' j b1 b2 b3⟩)
    refine c_MO_sign Y (d + 4) hT _ (fun hi => ?_) (fun hi => ?_)
    · have lb : L i < 2 ^ 31 := by have := (hT.2.2.1 i hi).2; omega
      rw [z_eq lb 60 (by omega)]
      refine ⟨fun e => dep hi (Or.inl e), fun n60 => ?_⟩
      refine c_MO_sign Y (d + 4) hT _ (fun _ => ?_) (fun z => by omega)
      rw [z_eq lb 61 (by omega)]
      exact ⟨fun n61 => rest (fun _ => ⟨n60, n61⟩), fun e => dep hi (Or.inr e)⟩
    · refine ⟨fun e => absurd e (by decide), fun _ => ?_⟩
      refine c_MO_sign Y (d + 4) hT _ (fun z => by omega) (fun _ => ?_)
      exact ⟨fun _ => rest (fun z => by omega), fun e => absurd e (by decide)⟩
  · have eh : hstC (q :: r) = 0 := by
      show (if q.1 = 123 then _ else 0) = 0
      rw [if_neg n123]
    have ht : STc L n R σ i (q :: r) P F W w := by
      rcases hs with hb | ⟨c, s, fr, hy, hM⟩
      · exact Or.inl hb
      · refine Or.inr ⟨c, s, 0, fr, hy, ?_⟩
        unfold hdC
        rw [if_neg (by omega), ← hy.2.2.2.2.2.2.2.2.2]
        exact eh
    refine c_MO_readsCheck Y (d + 1) h ht (fun x hx => ?_) _ (fun σ' i' o' P' F' W' w' b1 b2 b3 b4 b5 => ⟨Or.inr rfl, hk1 σ' i' o' P' F' W' w' b1 b2 b3 b4 (by rw [eh]; exact b5)⟩) (fun σ' j b1 b2 b3 => ⟨Or.inl rfl, hk0 σ' j b1 b2 (by rw [eh]; exact b3)⟩)
    rcases List.mem_cons.mp hx with e | e
    · rw [e]; exact H33 n123
    · exact hdt x e
theorem c_MO_readsAllCheck (Y : List kd) (d : Nat) {L : Nat → Nat} {n : Nat} {σ : sS} (h42 : σ 0 42 = nI n) (hn : n ≤ 96) (hL : ∀ j, j < n → σ 29 j = nI (L j) ∧ L j < 256) (k : Int32 → sS → Prop)
    (hk0 : ∀ p σ', cst L n 0 (0, 0, false, []) = some p → σ' 0 43 = nI p → mC σ σ' → k 0 σ')
    (hkb : ∀ p σ', cst L n 0 (0, 0, false, []) = none → p < n → cbu L n n 0 c00 [] 0 0 0 = .inl p → σ' 0 44 = nI p → mC σ σ' → k 1 σ')
    (hk1 : ∀ c σ', cst L n 0 (0, 0, false, []) = none → cbu L n n 0 c00 [] 0 0 0 = .inr c → WFC c → σ' 0 44 = -1 → MC σ' c → mC σ σ' → k 1 σ') :
    CJ Y (d + 6) y_MO_readsAllCheck [sR 0 (.inl 6)] σ (rI k) := by
  obtain ⟨R, hR⟩ : ∃ R, cbu L n n 0 c00 [] 0 0 0 = R := ⟨_, rfl⟩
  rw [hR] at hkb hk1
  refine s_MO_readsAllCheck_0 Y (d + 5) 0 σ (rI k) ?_
  obtain ⟨τ, eτ⟩ : ∃ τ, τ = up (up (up (up (up (up (up σ 0 43 0) 0 44 (-1)) 0 45 0) 0 20 0) 0 23 0) 0 21 0) 0 22 0 := ⟨_, rfl⟩
  rw [← eτ]
  have tx : ∀ x, x ≠ 0 → τ x = σ x := fun x hx => by rw [eτ, up_cell _ _ hx, up_cell _ _ hx, up_cell _ _ hx, up_cell _ _ hx, up_cell _ _ hx, up_cell _ _ hx, up_cell _ _ hx]
  have t0 : ∀ j, (j < 20 ∨ 23 < j) → (j < 43 ∨ 45 < j) → τ 0 j = σ 0 j := fun j a b => by rw [eτ, up_other _ _ (Or.inr (by omega)), up_other _ _ (Or.inr (by omega)), up_other _ _ (Or.inr (by omega)), up_other _ _ (Or.inr (by omega)), up_other _ _ (Or.inr (by omega)), up_other _ _ (Or.inr (by omega)), up_other _ _ (Or.inr (by omega))]
  have t22 : τ 0 22 = nI 0 := by rw [eτ, up_self]; rfl
  have t21 : τ 0 21 = nI 0 := by rw [eτ, up_other _ _ (Or.inr (by omega)), up_self]; rfl
  have t23 : τ 0 23 = nI 0 := by rw [eτ, up_other _ _ (Or.inr (by omega)), up_other _ _ (Or.inr (by omega)), up_self]; rfl
  have t20 : τ 0 20 = nI 0 := by rw [eτ, up_other _ _ (Or.inr (by omega)), up_other _ _ (Or.inr (by omega)), up_other _ _ (Or.inr (by omega)), up_self]; rfl
  have t45 : τ 0 45 = nI 0 := by rw [eτ, up_other _ _ (Or.inr (by omega)), up_other _ _ (Or.inr (by omega)), up_other _ _ (Or.inr (by omega)), up_other _ _ (Or.inr (by omega)), up_self]; rfl
  have t44 : τ 0 44 = -1 := by rw [eτ, up_other _ _ (Or.inr (by omega)), up_other _ _ (Or.inr (by omega)), up_other _ _ (Or.inr (by omega)), up_other _ _ (Or.inr (by omega)), up_other _ _ (Or.inr (by omega)), up_self]
  have t43 : τ 0 43 = nI 0 := by rw [eτ, up_other _ _ (Or.inr (by omega)), up_other _ _ (Or.inr (by omega)), up_other _ _ (Or.inr (by omega)), up_other _ _ (Or.inr (by omega)), up_other _ _ (Or.inr (by omega)), up_other _ _ (Or.inr (by omega)), up_self]; rfl
  clear eτ
  have mτ : mC σ τ := ⟨fun x a _ _ => tx x a, t0⟩
  have T0 : TP L n τ 0 := ⟨t43, by rw [t0 42 (by omega) (by omega)]; exact h42, fun j hj => by rw [tx 29 (by omega)]; exact hL j hj, hn, Nat.zero_le _⟩
  have Q0 : RQ L n τ 0 [] 0 0 0 0 := ⟨T0, t20, Nat.le_refl _, t21, Nat.le_refl _, t22, Nat.le_refl _, t23, Nat.le_refl _, t45, Nat.le_refl _, True.intro, fun q hq => absurd hq List.not_mem_nil⟩
  have S0 : STc L n R τ 0 [] 0 0 0 0 := by
    refine Or.inr ⟨c00, [], 0, 0, ⟨fun m hm => ?_, t44, CG.start, ⟨fun q hq => absurd hq (Nat.not_lt_zero _), fun f hf => absurd hf (Nat.not_lt_zero _), fun w hw => absurd hw (Nat.not_lt_zero _), True.intro⟩, fun z => absurd rfl z, rfl, rfl, rfl, Nat.zero_le _, rfl⟩, rfl⟩
    rw [cbu_any L n m n 0 _ _ _ _ _ (by omega) (by omega)]
    exact hR
  -- a letter that cannot go on
  have stop : ∀ σ' j, σ' 0 43 = nI j → mC τ σ' → cst L n 0 (0, 0, false, []) = some j → Jd Y (d + 6) y_MO_readsAllCheck 40 [(0, sR 0 (.inl 6)), (1, sI 0)] [] σ' (rI k) := by
    intro σ' j b1 b2 b3
    refine s_MO_readsAllCheck_40 Y (d + 5) 0 _ σ' (rI k) ⟨fun _ => ?_, fun z => absurd rfl z⟩
    exact s_MO_readsAllCheck_59 Y (d + 5) 0 _ σ' (rI k) ⟨fun _ => ⟨Or.inl rfl, hk0 j σ' b3 b1 (mτ.trans b2)⟩, fun z => absurd rfl z⟩
  have key : ∀ m i σ' o P F W w, n ≤ i + m → RQ L n σ' i o P F W w → SHc L n R σ' i o P F W w → mC τ σ' → cst L n 0 (0, 0, false, []) = cst L (n - i) i (hstC o, 0, false, mkC o) → Jd Y (d + 6) y_MO_readsAllCheck 40 [(0, sR 0 (.inl 6)), (1, sI 1)] [] σ' (rI k) := by
    intro m
    induction m with
    | zero =>
      intro i σ' o P F W w hm q1 q2 q3 q4
      have hT := q1.1
      have ei : i = n := by have := hT.2.2.2.2; omega
      have h45 := q1.2.2.2.2.2.2.2.2.2.1
      have hol := q1.2.2.2.2.2.2.2.2.2.2.1
      cases o with
      | nil =>
        refine s_MO_readsAllCheck_40 Y (d + 5) 0 _ σ' (rI k) ⟨fun z => absurd z (by decide), fun _ => ⟨fun _ => ?_, fun z => by rw [h45] at z; exact absurd z (by show ¬ (0 : Int32) < nI 0; decide)⟩⟩
        refine s_MO_readsAllCheck_59 Y (d + 5) 0 _ σ' (rI k) ⟨fun z => absurd z (by decide), fun _ => ⟨fun z => ?_, fun _ => ⟨Or.inr rfl, ?_⟩⟩⟩
        · rw [hT.1, hT.2.1, ei] at z
          exact absurd rfl z
        · have hnone : cst L n 0 (0, 0, false, []) = none := by
            rw [q4, ei, Nat.sub_self]
            rfl
          rcases q2 with ⟨p, p1, p2, p3⟩ | ⟨c, s, fr, ⟨a1, a2, a3, a4, a5, a6, a7, a8, a9, a10⟩, hM⟩
          · exact hkb p σ' hnone p1 p2 p3 (mτ.trans q3)
          · have es : s = [] := by
              cases s with
              | nil => rfl
              | cons a t => cases a10
            subst es
            have wc := GC.whole a3.1 hM
            refine hk1 c σ' hnone ?_ wc a2 (a4.settled wc ?_ ?_ ?_) (mτ.trans q3)
            · rw [← a1 0 (by omega)]; rfl
            · rw [← a6]; exact q1.2.1
            · rw [← a7]; exact q1.2.2.2.1
            · rw [← a8]; exact q1.2.2.2.2.2.1
      | cons q r =>
        rw [List.length_cons] at h45 hol
        refine s_MO_readsAllCheck_40 Y (d + 5) 0 _ σ' (rI k) ⟨fun z => absurd z (by decide), fun _ => ⟨fun z => ?_, fun _ => ?_⟩⟩
        · rw [h45, lit 0, i32_lt (by omega) (by omega)] at z
          exact absurd (Nat.zero_lt_succ _) z
        · refine c_MO_readsInCheck Y d q1 q2 _ (fun σ'' i' o' P' F' W' w' b1 b2 b3 b4 b5 => ?_) (fun σ'' j b1 b2 b3 => stop σ'' j b1 (q3.trans b2) (q4.trans b3))
          have := b1.1.2.2.2.2
          omega
    | succ m ih =>
      intro i σ' o P F W w hm q1 q2 q3 q4
      have hT := q1.1
      have hin := hT.2.2.2.2
      have h45 := q1.2.2.2.2.2.2.2.2.2.1
      have hol := q1.2.2.2.2.2.2.2.2.2.2.1
      cases o with
      | nil =>
        refine s_MO_readsAllCheck_40 Y (d + 5) 0 _ σ' (rI k) ⟨fun z => absurd z (by decide), fun _ => ⟨fun _ => ?_, fun z => by rw [h45] at z; exact absurd z (by show ¬ (0 : Int32) < nI 0; decide)⟩⟩
        refine s_MO_readsAllCheck_59 Y (d + 5) 0 _ σ' (rI k) ⟨fun z => absurd z (by decide), fun _ => ⟨fun z => ⟨Or.inl rfl, ?_⟩, fun z => ⟨Or.inr rfl, ?_⟩⟩⟩
        · rw [hT.1, hT.2.1, i32_eq (by omega) (by omega)] at z
          refine hk0 i σ' ?_ hT.1 (mτ.trans q3)
          have e : n - i = (n - (i + 1)) + 1 := by omega
          rw [q4, e]
          rfl
        · rw [hT.1, hT.2.1, i32_eq (by omega) (by omega)] at z
          have hnone : cst L n 0 (0, 0, false, []) = none := by
            rw [q4, z, Nat.sub_self]
            rfl
          rcases q2 with ⟨p, p1, p2, p3⟩ | ⟨c, s, fr, ⟨a1, a2, a3, a4, a5, a6, a7, a8, a9, a10⟩, hM⟩
          · exact hkb p σ' hnone p1 p2 p3 (mτ.trans q3)
          · have es : s = [] := by
              cases s with
              | nil => rfl
              | cons a t => cases a10
            subst es
            have wc := GC.whole a3.1 hM
            refine hk1 c σ' hnone ?_ wc a2 (a4.settled wc ?_ ?_ ?_) (mτ.trans q3)
            · rw [← a1 0 (by omega)]; rfl
            · rw [← a6]; exact q1.2.1
            · rw [← a7]; exact q1.2.2.2.1
            · rw [← a8]; exact q1.2.2.2.2.2.1
      | cons q r =>
        rw [List.length_cons] at h45 hol
        refine s_MO_readsAllCheck_40 Y (d + 5) 0 _ σ' (rI k) ⟨fun z => absurd z (by decide), fun _ => ⟨fun z => ?_, fun _ => ?_⟩⟩
        · rw [h45, lit 0, i32_lt (by omega) (by omega)] at z
          exact absurd (Nat.zero_lt_succ _) z
        · exact c_MO_readsInCheck Y d q1 q2 _ (fun σ'' i' o' P' F' W' w' b1 b2 b3 b4 b5 => ih i' σ'' o' P' F' W' w' (by omega) b1 b2 (q3.trans b3) (q4.trans b5)) (fun σ'' j b1 b2 b3 => stop σ'' j b1 (q3.trans b2) (q4.trans b3))
  refine c_MO_readsCheck Y (d + 2) Q0 S0 (fun q hq => absurd hq List.not_mem_nil) _ (fun σ' i' o' P' F' W' w' b1 b2 b3 b4 b5 => key n i' σ' o' P' F' W' w' (by omega) b1 b2 b3 ?_) (fun σ' j b1 b2 b3 => stop σ' j b1 b2 ?_)
  · rw [Nat.sub_zero] at b5
    exact b5
  · rw [Nat.sub_zero] at b3
    exact b3

theorem mC.kc {σ σ' R : sS} {b : Nat} (h : KC σ b R) (m : mC σ σ') : KC σ' b R := h.same (fun j _ _ => by rw [m.1 35 (by omega) (by omega) (by omega)])
def mFc (σ σ' : sS) : Prop := (∀ c, c ≠ 0 → (c < 30 ∨ 35 < c) → (c < 7 ∨ 19 < c) → σ' c = σ c) ∧ (∀ j, j < 460 → σ' 35 j = σ 35 j) ∧ (∀ i, (i < 20 ∨ 23 < i) → i ≠ 42 → (i < 43 ∨ 45 < i) → i ≠ 49 → i ≠ 50 → σ' 0 i = σ 0 i) ∧ σ' 0 42 = 0
theorem c_MO_check (Y : List kd) (d n : Nat) (L : Nat → Nat) (hn : n ≤ 96) {σ : sS} (h42 : σ 0 42 = nI n) (hL : ∀ i, i < n → σ 29 i = nI (L i) ∧ L i < 256) {c0 : CT} (w0 : WFC c0) (hc : MC σ c0) (k : Int32 → sS → Prop)
    (h0 : ∀ σ', (ctold L n).2 = none → MC σ' c0 → mFc σ σ' → k (ctold L n).1 σ')
    (h1 : ∀ c σ', (ctold L n).2 = some c → WFC c → MC σ' c → mFc σ σ' → k (ctold L n).1 σ') :
    CJ Y (d + 7) y_MO_check [sR 0 (.inl 6)] σ (rI k) := by
  refine s_MO_check_0 Y (d + 6) 0 σ (rI k) ?_
  refine c_MO_keepC Y (d + 5) 1 (by omega) _ (fun σ1 a1 a2 a3 a4 => ?_)
  have e42 : σ1 0 42 = nI n := by rw [a3 42 (by omega) (by omega)]; exact h42
  have e29 : ∀ j, j < n → σ1 29 j = nI (L j) ∧ L j < 256 := fun j hj => by rw [a4 29 (by omega) (by omega)]; exact hL j hj
  -- what was there comes back
  have back : ∀ (τ : sS) (r : Int32), mC σ1 τ → (∀ σ2 : sS, σ2 0 43 = τ 0 43 → σ2 0 44 = τ 0 44 → MC σ2 c0 → mFc σ σ2 → (r = 0 → k (-1000 - (σ2 0 43)) σ2) ∧ (¬ r = 0 → k (-2000 - (σ2 0 44)) σ2)) → Jd Y (d + 7) y_MO_check 32 [(0, sR 0 (.inl 6)), (1, sI r)] [] (up τ 0 42 0) (rI k) := by
    intro τ r hm hq
    refine s_MO_check_32 Y (d + 6) 0 r _ (rI k) ?_
    refine c_MO_loadC Y (d + 5) 1 (by omega) (R := σ) ((mC.kc a1 hm).same (fun j _ _ => by rw [up_cell _ _ (by omega)])) _ (fun σ2 b1 b2 b3 b4 => ?_)
    refine hq σ2 ?_ ?_ (hc.on w0 b2 b1) ⟨fun c c0 c3 c2 => ?_, fun j hj => ?_, fun i i20 i42 i43 i49 i50 => ?_, ?_⟩
    · rw [b3 43 (by omega) (by omega) (by omega), up_other _ _ (Or.inr (by omega))]
    · rw [b3 44 (by omega) (by omega) (by omega), up_other _ _ (Or.inr (by omega))]
    · rw [b4 c c0 c2, up_cell _ _ c0, hm.1 c c0 c2 (by omega), a4 c c0 (by omega)]
    · rw [b4 35 (by omega) (by omega), up_cell _ _ (by omega), hm.1 35 (by omega) (by omega) (by omega), a2 j (by omega)]
    · rw [b3 i (by omega) i49 i50, up_other _ _ (Or.inr i42), hm.2 i i20 i43, a3 i i49 i50]
    · rw [b3 42 (by omega) (by omega) (by omega), up_self]
  refine c_MO_readsAllCheck Y d e42 hn e29 _ (fun p τ hs h43 hm => ⟨fun _ => ?_, fun z => absurd rfl z⟩) (fun p τ hs hp hb h44 hm => ⟨fun z => absurd z (by decide), fun _ => ⟨fun _ => ?_, fun z => ?_⟩⟩) (fun c τ hs hb w h44 hM hm => ⟨fun z => absurd z (by decide), fun _ => ⟨fun z => ?_, fun _ => ?_⟩⟩)
  · have e := ctold_st hs
    refine back τ 0 hm (fun σ2 c1 c2 c3 c4 => ⟨fun _ => ?_, fun z => absurd rfl z⟩)
    have := h0 σ2 (by rw [e]) c3 c4
    rw [e] at this
    rw [c1, h43]
    exact this
  · have e := ctold_bd hs hb
    refine back τ 1 hm (fun σ2 c1 c2 c3 c4 => ⟨fun z => absurd z (by decide), fun _ => ?_⟩)
    have := h0 σ2 (by rw [e]) c3 c4
    rw [e] at this
    rw [c2, h44]
    exact this
  · rw [up_other _ _ (Or.inr (by omega)), h44] at z
    exact absurd z (nI_pos (by omega))
  · rw [up_other _ _ (Or.inr (by omega)), h44] at z
    exact absurd (by decide) z
  · have e := ctold_ok hs hb
    have e1 : (ctold L n).1 = nI (cM c) := by rw [e]
    have hM2 : MC (up τ 0 42 0) c := hM.on w (fun i i20 i23 => up_other _ _ (Or.inr (by omega))) (fun q hq i hi => by
      have : 7 ≤ q.1 ∧ q.1 < 20 := (show ∀ q ∈ lC, 7 ≤ q.1 ∧ q.1 < 20 by decide) q hq
      rw [up_cell _ _ (by omega)])
    rw [show (up τ 0 42 0) 0 20 = nI (cM c) from hM2.1, ← e1]
    refine h1 c _ (by rw [e]) w hM2 ⟨fun x c0 c3 c2 => ?_, fun j hj => ?_, fun i i20 i42 i43 i49 i50 => ?_, up_self _ _ _ _⟩
    · rw [up_cell _ _ c0, hm.1 x c0 c2 (by omega), a4 x c0 (by omega)]
    · rw [up_cell _ _ (by omega), hm.1 35 (by omega) (by omega) (by omega), a2 j (by omega)]
    · rw [up_other _ _ (Or.inr i42), hm.2 i i20 i43, a3 i i49 i50]
