/-! checks told in letters: the class's CheckReader adds -/
theorem c_RD_topC1 (Y : List kd) (d t : Nat) {σ : sS} {q : Nat} {r : List Nat} (h1 : σ t 1 = nI (q :: r).length) (hs : stk σ (t + 1) (q :: r)) (hl : (q :: r).length ≤ 96) (k : Int32 → sS → Prop) (hk : k (nI q) σ) : CJ Y (d + 1) y_RD_top [sR t (.inl 0)] σ (rI k) := c_RD_topC Y d t h1 hs hl k hk
theorem c_CR_wants (Y : List kd) (d : Nat) {sg : Nat} (h : sgOK sg) {σ : sS} (k : Int32 → sS → Prop) (hl : leafS sg → k 0 σ) (ho : ¬ leafS sg → k (nI (wnt sg)) σ) : CJ Y d y_CR_wants [sI (nI sg)] σ (rI k) := by
  have hb : sg < 2 ^ 31 := by unfold sgOK at h; omega
  refine s_CR_wants_0 Y d _ σ (rI k) ?_
  rw [z_eq hb 35 (by omega), z_eq hb 42 (by omega), z_eq hb 47 (by omega), z_eq hb 94 (by omega), z_eq hb 123 (by omega)]
  refine ⟨fun e => hl (by unfold leafS; omega), fun n35 => ⟨fun e => hl (by unfold leafS; omega), fun n42 => ⟨fun e => ?_, fun n47 => ⟨fun e => hl (by unfold leafS; omega), fun n94 => ⟨fun e => ?_, fun n123 => ?_⟩⟩⟩⟩⟩
  · subst e; exact ho (by unfold leafS; omega)
  · subst e; exact ho (by unfold leafS; omega)
  · have := ho (by unfold leafS; omega)
    unfold wnt at this
    rw [if_neg n47, if_neg n123] at this
    exact this
theorem wsc_add {σ : sS} {t : Nat} {c : CT} {s : List Nat} {dg : Nat} (h : GC 0 c s dg) (hw : wsc σ t c 0 s) (sg lo hi fr lv : Nat) : wsc σ t (addC c s sg lo hi dg fr lv) 1 s := by
  cases s with
  | nil => exact True.intro
  | cons q r =>
    have hs := h.2.2.2.1
    have hq : q < cM c := (hs.mem q List.mem_cons_self).1
    have a0 : ∀ y, y < cM c → cF (addC c (q :: r) sg lo hi dg fr lv) 0 y = cF c 0 y := fun y hy => by
      show (if y = cM c then sg else cF c 0 y) = _
      rw [if_neg (by omega)]
    have a10 : ∀ y, y < cM c → cF (addC c (q :: r) sg lo hi dg fr lv) 10 y = if (q :: r).head? = some y then cF c 10 y + 1 else cF c 10 y := fun y hy => by
      show (if y = cM c then 0 else if (q :: r).head? = some y then cF c 10 y + 1 else cF c 10 y) = _
      rw [if_neg (by omega)]
    refine ⟨?_, hw.2.kept (fun _ _ => rfl) (fun x hx => ?_)⟩
    · rw [a0 q hq, a10 q hq, if_pos (show (q :: r).head? = some q from rfl), Nat.add_sub_cancel]
      exact hw.1
    · have hx2 : x < cM c := (hs.mem x (List.mem_cons_of_mem _ hx)).1
      rw [a0 x hx2, a10 x hx2, if_neg (nohead hs hx)]
      exact ⟨rfl, rfl⟩
theorem aC_old {c : CT} {s : List Nat} {sg lo hi dg fr lv q : Nat} (hq : q ≠ cM c) : ∀ f, f < 10 → f ≠ 3 → cF (addC c s sg lo hi dg fr lv) f q = cF c f q := by
  intro f hf h3
  rcases (show f = 0 ∨ f = 1 ∨ f = 2 ∨ f = 4 ∨ f = 5 ∨ f = 6 ∨ f = 7 ∨ f = 8 ∨ f = 9 by omega) with rfl | rfl | rfl | rfl | rfl | rfl | rfl | rfl | rfl
  all_goals exact if_neg hq
theorem aC_span {c : CT} {s : List Nat} {sg lo hi dg fr lv q : Nat} (hq : q ≠ cM c) (hs : q ∉ s) : cF (addC c s sg lo hi dg fr lv) 3 q = cF c 3 q := by
  show (if q = cM c then 1 else if q ∈ s then cF c 3 q + 1 else cF c 3 q) = _
  rw [if_neg hq, if_neg hs]
theorem c_CR_adds (Y : List kd) (d t : Nat) {σ : sS} {c : CT} {s : List Nat} {dg fr rt : Nat} (h : GC 0 c s dg) (hx : XCB σ t c 0 s dg fr rt) (hrt : rt < 200) {sg lo hi : Nat} (hne : cM c = 0 ∨ s ≠ []) (hpd : ∀ q r, s = q :: r → cF c 0 q = 123 → dg ≠ 0) (hsg : sgOK sg) (hlo : lo ≤ 99) (hhi : hi ≤ 99) (hfr : fr ≤ 1) (k : Int32 → sS → Prop)
    (h0 : ∀ σ', badC c s sg lo hi rt → cvK t σ σ' → k 0 σ')
    (h1 : ∀ σ', ¬ badC c s sg lo hi rt → cvK t σ σ' → XCB σ' t (addK c s sg lo hi dg fr rt).1 0 (addK c s sg lo hi dg fr rt).2.1 0 0 (addK c s sg lo hi dg fr rt).2.2.2.2 → k 1 σ') :
    CJ Y (d + 3) y_CR_adds [sR t (.inl 0), sI (nI sg), sI (nI lo), sI (nI hi)] σ (rI k) := by
  have hsb : sg < 2 ^ 31 := by unfold sgOK at hsg; omega
  have hM := h.1
  have hl := h.slen
  have go : ∀ (τ : sS) (rt' : Nat), rt' = (if sg = 94 then rt + 1 else rt) → ¬ hi < lo → (sg = 94 → rt < 3 ∧ 1 ≤ clv c s) → XCB τ t c 0 s dg fr rt' → cvK t σ τ → Jd Y (d + 3) y_CR_adds 18 [(0, sR t (.inl 0)), (1, sI (nI sg)), (2, sI (nI lo)), (3, sI (nI hi))] [] τ (rI k) := by
    intro τ rt' ert nlo n94 gx gk
    obtain ⟨x1, x2, x3, x4, x5, x6, x7, x8, x9, x10, x11⟩ := gx
    refine s_CR_adds_18 Y (d + 2) t _ _ _ τ (rI k) ?_
    refine c_PL_add Y (d + 1) (t + 2) (cM c) x7 (by omega) _ _ _ _ (fun hge => ?_) (fun σ1 hlt g1 g2 g3 g4 g5 g6 g7 g8 g9 => ?_)
    · exact ⟨fun z => absurd rfl z, fun _ => ⟨Or.inl rfl, h0 τ (Or.inr (Or.inr hge)) gk⟩⟩
    · have nb : ¬ badC c s sg lo hi rt := by
        rintro (z | ⟨z1, z2⟩ | z)
        · exact nlo z
        · exact z2 (n94 z1)
        · omega
      refine ⟨fun _ => ?_, fun z => absurd z (by decide)⟩
      have e1 : nI (cM c + 1) - 1 = nI (cM c) := nI_subm (a := cM c + 1) (b := 1) (by omega)
      have e9 : σ1 t 9 = nI dg := by rw [g9 t (by omega)]; exact x5
      have e10 : σ1 t 10 = nI fr := by rw [g9 t (by omega)]; exact x6
      rw [g1, e1, wr_nI hlt (by omega), up_cell _ _ (show t + 2 ≠ t + 7 by omega), up_cell _ _ (show t ≠ t + 7 by omega), g1, e1, wr_nI hlt (by omega), e9, e10]
      obtain ⟨τ2, hτ2⟩ : ∃ τ2, τ2 = up (up (up (up σ1 (t + 7) (cM c) (nI dg)) (t + 8) (cM c) (nI fr)) t 9 0) t 10 0 := ⟨_, rfl⟩
      rw [← hτ2]
      have u1 : ∀ y, y ≠ t → y ≠ t + 7 → y ≠ t + 8 → τ2 y = σ1 y := fun y y1 y2 y3 => by
        rw [hτ2, up_cell _ _ y1, up_cell _ _ y1, up_cell _ _ y3, up_cell _ _ y2]
      have u2 : ∀ i, i ≠ 9 → i ≠ 10 → τ2 t i = τ t i := fun i i9 i10 => by
        rw [hτ2, up_other _ _ (Or.inr i10), up_other _ _ (Or.inr i9), up_cell _ _ (by omega), up_cell _ _ (by omega), g9 t (by omega)]
      have u9 : τ2 t 9 = 0 := by rw [hτ2, up_other _ _ (Or.inr (by omega)), up_self]
      have u10 : τ2 t 10 = 0 := by rw [hτ2, up_self]
      have u7 : ∀ y, τ2 (t + 7) y = if y = cM c then nI dg else τ (t + 7) y := fun y => by
        rw [hτ2, up_cell _ _ (by omega), up_cell _ _ (by omega), up_cell _ _ (by omega)]
        by_cases e : y = cM c
        · rw [if_pos e, e, up_self]
        · rw [if_neg e, up_other _ _ (Or.inr e), g8 (t + 7) (by omega) (by omega) y e]
      have u8 : ∀ y, τ2 (t + 8) y = if y = cM c then nI fr else τ (t + 8) y := fun y => by
        rw [hτ2, up_cell _ _ (by omega), up_cell _ _ (by omega)]
        by_cases e : y = cM c
        · rw [if_pos e, e, up_self]
        · rw [if_neg e, up_other _ _ (Or.inr e), up_cell _ _ (by omega), g8 (t + 8) (by omega) (by omega) y e]
      have uK : cvK t σ τ2 := fun y hy => by rw [u1 y (by omega) (by omega) (by omega), g9 y (by omega), gk y hy]
      clear hτ2
      have X : XCB τ2 t (addC c s sg lo hi dg fr (clv c s)) 1 s 0 0 rt' := by
        refine ⟨by rw [u2 1 (by omega) (by omega)]; exact x1, x2.kept (fun i _ => by rw [u1 _ (by omega) (by omega) (by omega), g9 _ (by omega)]), (wsc_add h x3 sg lo hi fr (clv c s)).kept (fun i _ => by rw [u1 _ (by omega) (by omega) (by omega), g9 _ (by omega)]) (fun _ _ => ⟨rfl, rfl⟩), by rw [u2 8 (by omega) (by omega)]; exact x4, u9, u10, by rw [u1 _ (by omega) (by omega) (by omega)]; exact g1, ?_, ?_, ?_, ?_⟩
        · rw [u1 _ (by omega) (by omega) (by omega), g2 14 (by omega)]; exact x8
        · intro f f10 f3 q hq
          by_cases e : q = cM c
          · subst e
            rcases (show f = 0 ∨ f = 1 ∨ f = 2 ∨ f = 4 ∨ f = 5 ∨ f = 6 ∨ f = 7 ∨ f = 8 ∨ f = 9 by omega) with rfl | rfl | rfl | rfl | rfl | rfl | rfl | rfl | rfl
            · rw [u1 _ (by omega) (by omega) (by omega), show cF (addC c s sg lo hi dg fr (clv c s)) 0 (cM c) = sg from if_pos rfl]; exact g3
            · rw [u1 _ (by omega) (by omega) (by omega), show cF (addC c s sg lo hi dg fr (clv c s)) 1 (cM c) = lo from if_pos rfl]; exact g4
            · rw [u1 _ (by omega) (by omega) (by omega), show cF (addC c s sg lo hi dg fr (clv c s)) 2 (cM c) = hi from if_pos rfl]; exact g5
            · rw [show t + 3 + 4 = t + 7 from rfl, u7, if_pos rfl, show cF (addC c s sg lo hi dg fr (clv c s)) 4 (cM c) = dg from if_pos rfl]
            · rw [show t + 3 + 5 = t + 8 from rfl, u8, if_pos rfl, show cF (addC c s sg lo hi dg fr (clv c s)) 5 (cM c) = fr from if_pos rfl]
            · rw [u1 _ (by omega) (by omega) (by omega), g7 _ (by omega) (by omega), show cF (addC c s sg lo hi dg fr (clv c s)) 6 (cM c) = 0 from if_pos rfl]; rfl
            · rw [u1 _ (by omega) (by omega) (by omega), g7 _ (by omega) (by omega), show cF (addC c s sg lo hi dg fr (clv c s)) 7 (cM c) = 0 from if_pos rfl]; rfl
            · rw [u1 _ (by omega) (by omega) (by omega), g7 _ (by omega) (by omega), show cF (addC c s sg lo hi dg fr (clv c s)) 8 (cM c) = 0 from if_pos rfl]; rfl
            · rw [u1 _ (by omega) (by omega) (by omega), g7 _ (by omega) (by omega), show cF (addC c s sg lo hi dg fr (clv c s)) 9 (cM c) = 0 from if_pos rfl]; rfl
          · have hq : q < cM c + 1 := hq
            rw [aC_old e f f10 f3]
            have base := x9 f f10 f3 q (by omega)
            by_cases e7 : t + 3 + f = t + 7
            · rw [e7] at base ⊢
              rw [u7, if_neg e]; exact base
            · by_cases e8 : t + 3 + f = t + 8
              · rw [e8] at base ⊢
                rw [u8, if_neg e]; exact base
              · rw [u1 _ (by omega) e7 e8, g8 _ (by omega) (by omega) q e]; exact base
        · intro q hq hns
          by_cases e : q = cM c
          · subst e
            rw [u1 _ (by omega) (by omega) (by omega), show cF (addC c s sg lo hi dg fr (clv c s)) 3 (cM c) = 1 from if_pos rfl]; exact g6
          · have hq : q < cM c + 1 := hq
            rw [u1 _ (by omega) (by omega) (by omega), g8 _ (by omega) (by omega) q e, aC_span e hns]
            exact x10 q (by omega) hns
        · intro f f3 w hw
          rw [u1 _ (by omega) (by omega) (by omega), g9 _ (by omega)]
          exact x11 f f3 w hw
      have h94 : sg = 94 → 1 ≤ clv c s := fun z => (n94 z).2
      obtain ⟨q1, q2⟩ := h.add hlt hne hpd hsg hlo hhi hfr h94
      refine c_CR_wants Y (d + 2) hsg _ (fun hl => ?_) (fun hl => ?_)
      · rw [addK_leaf hl] at h1
        refine ⟨fun z => absurd rfl z, fun _ => ?_⟩
        refine c_CR_settle Y d t (q1 hl) X _ (fun σ' y1 y2 => ⟨Or.inr rfl, h1 σ' nb (uK.trans y2) ?_⟩)
        rw [ert] at y1
        exact y1
      · rw [addK_open hl] at h1
        have hw1 : 1 ≤ wnt sg ∧ wnt sg ≤ 24 := by
          unfold wnt
          split
          · omega
          · split <;> omega
        refine ⟨fun _ => ?_, fun z => ?_⟩
        · rw [X.1, wr_nI (by omega) (by omega), up_cell _ _ (show t + 2 ≠ t + 16 by omega), X.2.2.2.2.2.2.1]
          have e1' : nI (cM (addC c s sg lo hi dg fr (clv c s))) - 1 = nI (cM c) := e1
          rw [e1']
          have v1 : (up τ2 (t + 16) s.length (nI (wnt sg))) t 1 = nI s.length := by rw [up_cell _ _ (by omega)]; exact X.1
          have v2 : stk (up τ2 (t + 16) s.length (nI (wnt sg))) (t + 1) s := X.2.1.kept (fun i _ => by rw [up_cell _ _ (by omega)])
          refine c_RD_pushC Y (d + 1) t v1 v2 (by omega) (cM c) _ (fun σ3 b1 b2 b3 b4 => ⟨Or.inr rfl, ?_⟩)
          have w1 : ∀ y, y ≠ t → y ≠ t + 1 → y ≠ t + 16 → σ3 y = τ2 y := fun y y1 y2 y3 => by rw [b3 y y1 y2, up_cell _ _ y3]
          have w2 : ∀ i, i ≠ 1 → σ3 t i = τ2 t i := fun i hi => by rw [b4 i hi, up_cell _ _ (by omega)]
          obtain ⟨X1, X2, X3, X4, X5, X6, X7, X8, X9, X10, X11⟩ := X
          refine h1 σ3 nb (fun y hy => by rw [w1 y (by omega) (by omega) (by omega), uK y hy]) ⟨b1, b2, ⟨?_, X3.kept (fun i hi => ?_) (fun _ _ => ⟨rfl, rfl⟩)⟩, ?_, ?_, ?_, ?_, ?_, fun f f1 f3 p hp => ?_, fun p hp hn => ?_, fun f f1 w hw => ?_⟩
          · rw [b3 _ (by omega) (by omega), up_self, show cF (addC c s sg lo hi dg fr (clv c s)) 0 (cM c) = sg from if_pos rfl, show cF (addC c s sg lo hi dg fr (clv c s)) 10 (cM c) = 0 from if_pos rfl]
            rfl
          · rw [b3 _ (by omega) (by omega), up_other _ _ (Or.inr (by omega))]
          · rw [w2 8 (by omega), X4, ert]
          · rw [w2 9 (by omega)]; exact X5
          · rw [w2 10 (by omega)]; exact X6
          · rw [w1 _ (by omega) (by omega) (by omega)]; exact X7
          · rw [w1 _ (by omega) (by omega) (by omega)]; exact X8
          · rw [w1 _ (by omega) (by omega) (by omega)]; exact X9 f f1 f3 p hp
          · rw [w1 _ (by omega) (by omega) (by omega)]
            exact X10 p hp (fun z => hn (List.mem_cons_of_mem _ z))
          · rw [w1 _ (by omega) (by omega) (by omega)]; exact X11 f f1 w hw
        · rw [z_eq (by omega) 0 (by omega)] at z
          omega
  refine s_CR_adds_0 Y (d + 2) t _ _ _ σ (rI k) ?_
  rw [i32_lt (by omega) (by omega), z_eq hsb 94 (by omega)]
  refine ⟨fun hlt => ⟨Or.inl rfl, h0 σ (Or.inl hlt) (fun _ _ => rfl)⟩, fun nlt => ⟨fun n94 => ?_, fun e94 => ?_⟩⟩
  · exact go σ rt (by rw [if_neg n94]) nlt (fun z => absurd z n94) hx (fun _ _ => rfl)
  · refine c_CR_canReturn Y (d + 1) t h hx hrt _ (fun σ' y1 y2 y3 y4 => ⟨fun z => absurd z (by decide), fun _ => ?_⟩) (fun σ' y1 y2 => ⟨fun _ => ⟨Or.inl rfl, h0 σ' (Or.inr (Or.inl ⟨e94, y1⟩)) y2⟩, fun z => absurd rfl z⟩)
    exact go σ' (rt + 1) (by rw [if_pos e94]) nlt (fun _ => ⟨y1, y2⟩) y3 y4
theorem c_CR_addsField (Y : List kd) (d t : Nat) {σ : sS} {c : CT} {q : Nat} {r : List Nat} {fr0 rt : Nat} (h : GC 0 c (q :: r) 0) (hx : XCB σ t c 0 (q :: r) 0 fr0 rt) {dd fr : Nat} (hd : 1 ≤ dd ∧ dd ≤ 5) (k : Int32 → sS → Prop)
    (h0 : bitC c q dd → k 0 σ)
    (h1 : ∀ σ', ¬ bitC c q dd → cvK t σ σ' → XCB σ' t (fldC c q dd) 0 (q :: r) dd fr rt → k 1 σ') :
    CJ Y (d + 2) y_CR_addsField [sR t (.inl 0), sI (nI dd), sI (nI fr)] σ (rI k) := by
  have hM := h.1
  have hl := h.slen
  have hq : q < cM c := (h.2.2.2.1.mem q List.mem_cons_self).1
  have hN : cF c 7 q < 64 := (h.2.2.2.2.2.2.2.1 q hq).1.2.2.2.2.2.1
  obtain ⟨x1, x2, x3, x4, x5, x6, x7, x8, x9, x10, x11⟩ := id hx
  have x97 := x9 7 (by omega) (by omega) q hq
  have x96 := x9 6 (by omega) (by omega) q hq
  have x97 : σ (t + 10) q = nI (cF c 7 q) := x97
  have x96 : σ (t + 9) q = nI (cF c 6 q) := x96
  refine s_CR_addsField_0 Y (d + 1) t _ _ σ (rI k) ?_
  refine c_RD_topC1 Y d t x1 x2 (by omega) _ ?_
  refine c_PL_knowsN Y d (t + 2) (q := q) (by omega) x97 hN (by omega) _ (fun hb => ⟨fun z => absurd z (by decide), fun _ => ⟨Or.inl rfl, h0 hb⟩⟩) (fun nb => ⟨fun _ => ⟨Or.inr rfl, ?_⟩, fun z => absurd rfl z⟩)
  have hq24 : q < 24 := by omega
  rw [rd_nI hq24 (by omega), x97, bitsA _ hN dd (by omega), if_neg nb, wr_nI hq24 (by omega), rd_nI hq24 (by omega), wr_nI hq24 (by omega), up_cell _ _ (show t + 9 ≠ t + 10 by omega), x96, nI_s1]
  obtain ⟨τ, hτ⟩ : ∃ τ, τ = up (up (up (up σ (t + 10) q (nI (cF c 7 q + 2 ^ dd))) (t + 9) q (nI (cF c 6 q + 1))) t 9 (nI dd)) t 10 (nI fr) := ⟨_, rfl⟩
  rw [← hτ]
  have u1 : ∀ y, y ≠ t → y ≠ t + 9 → y ≠ t + 10 → τ y = σ y := fun y y1 y2 y3 => by
    rw [hτ, up_cell _ _ y1, up_cell _ _ y1, up_cell _ _ y2, up_cell _ _ y3]
  have u2 : ∀ i, i ≠ 9 → i ≠ 10 → τ t i = σ t i := fun i i9 i10 => by
    rw [hτ, up_other _ _ (Or.inr i10), up_other _ _ (Or.inr i9), up_cell _ _ (by omega), up_cell _ _ (by omega)]
  have u9 : τ t 9 = nI dd := by rw [hτ, up_other _ _ (Or.inr (by omega)), up_self]
  have u10 : τ t 10 = nI fr := by rw [hτ, up_self]
  have a9 : ∀ y, τ (t + 9) y = if y = q then nI (cF c 6 q + 1) else σ (t + 9) y := fun y => by
    rw [hτ, up_cell _ _ (by omega), up_cell _ _ (by omega)]
    by_cases e : y = q
    · rw [if_pos e, e, up_self]
    · rw [if_neg e, up_other _ _ (Or.inr e), up_cell _ _ (by omega)]
  have a10 : ∀ y, τ (t + 10) y = if y = q then nI (cF c 7 q + 2 ^ dd) else σ (t + 10) y := fun y => by
    rw [hτ, up_cell _ _ (by omega), up_cell _ _ (by omega), up_cell _ _ (by omega)]
    by_cases e : y = q
    · rw [if_pos e, e, up_self]
    · rw [if_neg e, up_other _ _ (Or.inr e)]
  clear hτ
  refine h1 τ nb (fun y hy => u1 y (by omega) (by omega) (by omega)) ⟨by rw [u2 1 (by omega) (by omega)]; exact x1, x2.kept (fun i _ => by rw [u1 _ (by omega) (by omega) (by omega)]), x3.kept (fun i _ => by rw [u1 _ (by omega) (by omega) (by omega)]) (fun _ _ => ⟨rfl, rfl⟩), by rw [u2 8 (by omega) (by omega)]; exact x4, u9, u10, by rw [u1 _ (by omega) (by omega) (by omega)]; exact x7, by rw [u1 _ (by omega) (by omega) (by omega)]; exact x8, fun f f1 f3 p hp => ?_, fun p hp hn => ?_, fun f f1 w hw => ?_⟩
  · have base := x9 f f1 f3 p hp
    by_cases e6 : f = 6
    · subst e6
      rw [show t + 3 + 6 = t + 9 from rfl, a9, show cF (fldC c q dd) 6 p = if p = q then cF c 6 p + 1 else cF c 6 p from rfl]
      by_cases e : p = q
      · rw [if_pos e, if_pos e, e]
      · rw [if_neg e, if_neg e]; exact base
    · by_cases e7 : f = 7
      · subst e7
        rw [show t + 3 + 7 = t + 10 from rfl, a10, show cF (fldC c q dd) 7 p = if p = q then cF c 7 p + 2 ^ dd else cF c 7 p from rfl]
        by_cases e : p = q
        · rw [if_pos e, if_pos e, e]
        · rw [if_neg e, if_neg e]; exact base
      · rw [u1 _ (by omega) (by omega) (by omega)]
        rcases (show f = 0 ∨ f = 1 ∨ f = 2 ∨ f = 4 ∨ f = 5 ∨ f = 8 ∨ f = 9 by omega) with rfl | rfl | rfl | rfl | rfl | rfl | rfl
        all_goals exact base
  · rw [u1 _ (by omega) (by omega) (by omega)]; exact x10 p hp hn
  · rw [u1 _ (by omega) (by omega) (by omega)]; exact x11 f f1 w hw
theorem c_PL_depend (Y : List kd) (d T : Nat) {σ : sS} {q n9 w : Nat} (hq : q < 24) (h9 : σ (T + 10) q = nI n9) (h9b : n9 < 2 ^ 30) (hw : σ T 14 = nI w) (hw32 : w < 32) (v2 v3 v4 : Int32) (k : sS → Prop)
    (hk : ∀ σ', σ' T 14 = nI (w + 1) → (∀ i, i ≠ 14 → σ' T i = σ T i) → σ' (T + 9) q = (if n9 = 0 then nI w else σ (T + 9) q) → σ' (T + 10) q = nI (n9 + 1) → (∀ y, y ≠ q → σ' (T + 9) y = σ (T + 9) y ∧ σ' (T + 10) y = σ (T + 10) y) → σ' (T + 11) w = v2 → σ' (T + 12) w = v3 → σ' (T + 13) w = v4 → (∀ y, y ≠ w → σ' (T + 11) y = σ (T + 11) y ∧ σ' (T + 12) y = σ (T + 12) y ∧ σ' (T + 13) y = σ (T + 13) y) → (∀ x, x ≠ T → (x < T + 9 ∨ T + 14 ≤ x) → σ' x = σ x) → k σ') :
    CJ Y (d + 1) y_PL_depend [sR T (.inl 2), sI (nI q), sI v2, sI v3, sI v4] σ (rN k) := by
  have go : ∀ τ : sS, τ T = σ T → τ (T + 9) q = (if n9 = 0 then nI w else σ (T + 9) q) → (∀ y, y ≠ q → τ (T + 9) y = σ (T + 9) y) → (∀ x, x ≠ T + 9 → τ x = σ x) → Jd Y (d + 1) y_PL_depend 23 [(0, sR T (.inl 2)), (1, sI (nI q)), (2, sI v2), (3, sI v3), (4, sI v4)] [] τ (rN k) := by
    intro τ t0 t9 t9o tx
    have e10 : τ (T + 10) q = nI n9 := by rw [tx _ (by omega)]; exact h9
    have e14 : τ T 14 = nI w := by rw [t0]; exact hw
    refine s_PL_depend_23 Y d T _ _ _ _ τ (rN k) ?_
    rw [rd_nI hq (by omega), e10, nI_s1, wr_nI hq (by omega)]
    refine s_PL_depend_41 Y d T _ _ _ _ (rN k) ?_
    rw [up_cell _ _ (show T ≠ T + 10 by omega), e14, wr_nI hw32 (by omega)]
    refine s_PL_depend_53 Y d T _ _ _ (rN k) ?_
    rw [up_cell _ _ (show T ≠ T + 11 by omega), up_cell _ _ (show T ≠ T + 10 by omega), e14, wr_nI hw32 (by omega)]
    refine s_PL_depend_65 Y d T _ _ (rN k) ?_
    rw [up_cell _ _ (show T ≠ T + 12 by omega), up_cell _ _ (show T ≠ T + 11 by omega), up_cell _ _ (show T ≠ T + 10 by omega), e14, wr_nI hw32 (by omega)]
    refine s_PL_depend_78 Y d T _ (rN k) ?_
    rw [up_cell _ _ (show T ≠ T + 13 by omega), up_cell _ _ (show T ≠ T + 12 by omega), up_cell _ _ (show T ≠ T + 11 by omega), up_cell _ _ (show T ≠ T + 10 by omega), e14, nI_s1]
    refine hk _ (up_self _ _ _ _) (fun i hi => ?_) ?_ ?_ (fun y hy => ⟨?_, ?_⟩) ?_ ?_ ?_ (fun y hy => ⟨?_, ?_, ?_⟩) (fun x x0 hx => ?_)
    · rw [up_other _ _ (Or.inr hi), up_cell _ _ (by omega), up_cell _ _ (by omega), up_cell _ _ (by omega), up_cell _ _ (by omega), t0]
    · rw [up_cell _ _ (by omega), up_cell _ _ (by omega), up_cell _ _ (by omega), up_cell _ _ (by omega), up_cell _ _ (by omega), t9]
    · rw [up_cell _ _ (by omega), up_cell _ _ (by omega), up_cell _ _ (by omega), up_cell _ _ (by omega), up_self]
    · rw [up_cell _ _ (by omega), up_cell _ _ (by omega), up_cell _ _ (by omega), up_cell _ _ (by omega), up_cell _ _ (by omega), t9o y hy]
    · rw [up_cell _ _ (by omega), up_cell _ _ (by omega), up_cell _ _ (by omega), up_cell _ _ (by omega), up_other _ _ (Or.inr hy), tx _ (by omega)]
    · rw [up_cell _ _ (by omega), up_cell _ _ (by omega), up_cell _ _ (by omega), up_self]
    · rw [up_cell _ _ (by omega), up_cell _ _ (by omega), up_self]
    · rw [up_cell _ _ (by omega), up_self]
    · rw [up_cell _ _ (by omega), up_cell _ _ (by omega), up_cell _ _ (by omega), up_other _ _ (Or.inr hy), up_cell _ _ (by omega), tx _ (by omega)]
    · rw [up_cell _ _ (by omega), up_cell _ _ (by omega), up_other _ _ (Or.inr hy), up_cell _ _ (by omega), up_cell _ _ (by omega), tx _ (by omega)]
    · rw [up_cell _ _ (by omega), up_other _ _ (Or.inr hy), up_cell _ _ (by omega), up_cell _ _ (by omega), up_cell _ _ (by omega), tx _ (by omega)]
    · rw [up_cell _ _ x0, up_cell _ _ (by omega), up_cell _ _ (by omega), up_cell _ _ (by omega), up_cell _ _ (by omega), tx _ (by omega)]
  refine s_PL_depend_0 Y d T _ _ _ _ σ (rN k) ?_
  rw [rd_nI hq (by omega), h9, z_eq (by omega) 0 (by omega), hw, wr_nI hq (by omega)]
  refine ⟨fun n0 => go σ rfl (by rw [if_neg n0]) (fun _ _ => rfl) (fun _ _ => rfl), fun e0 => ?_⟩
  exact go _ (up_cell _ _ (by omega)) (by rw [if_pos e0, up_self]) (fun y hy => up_other _ _ (Or.inr hy)) (fun x hx => up_cell _ _ hx)
theorem c_CR_addsDependent (Y : List kd) (d t : Nat) {σ : sS} {c : CT} {q : Nat} {r : List Nat} {fr rt : Nat} (h : GC 0 c (q :: r) 0) (hx : XCB σ t c 0 (q :: r) 0 fr rt) (hW : cW c < 32) {sg one other : Nat} (h1 : 1 ≤ one ∧ one ≤ 5) (h2 : 1 ≤ other ∧ other ≤ 5) (k : Int32 → sS → Prop)
    (hk0 : ¬ (bitC c q one ∧ bitC c q other) → k 0 σ)
    (hk1 : ∀ σ', bitC c q one ∧ bitC c q other → cvK t σ σ' → XCB σ' t (depC c q sg one other) 0 (q :: r) 0 fr rt → k 1 σ') :
    CJ Y (d + 2) y_CR_addsDependent [sR t (.inl 0), sI (nI sg), sI (nI one), sI (nI other)] σ (rI k) := by
  have hM := h.1
  have hl := h.slen
  have hq : q < cM c := (h.2.2.2.1.mem q List.mem_cons_self).1
  have hN : cF c 7 q < 64 := (h.2.2.2.2.2.2.2.1 q hq).1.2.2.2.2.2.1
  have h89 : cF c 8 q + cF c 9 q ≤ cW c := (h.2.2.2.2.2.2.2.1 q hq).1.2.2.2.2.2.2.2.1
  obtain ⟨x1, x2, x3, x4, x5, x6, x7, x8, x9, x10, x11⟩ := id hx
  have x97 : σ (t + 10) q = nI (cF c 7 q) := x9 7 (by omega) (by omega) q hq
  have x99 : σ (t + 2 + 10) q = nI (cF c 9 q) := x9 9 (by omega) (by omega) q hq
  refine s_CR_addsDependent_0 Y (d + 1) t _ _ _ σ (rI k) ?_
  refine c_RD_topC1 Y d t x1 x2 (by omega) _ ?_
  refine c_PL_knowsN Y d (t + 2) (q := q) (by omega) x97 hN (by omega) _ (fun hb => ⟨fun z => absurd z (by decide), fun _ => ?_⟩) (fun nb => ⟨fun _ => ⟨Or.inl rfl, hk0 (fun z => nb z.1)⟩, fun z => absurd rfl z⟩)
  refine c_PL_knowsN Y d (t + 2) (q := q) (by omega) x97 hN (by omega) _ (fun hb2 => ⟨fun _ => ?_, fun z => absurd z (by decide)⟩) (fun nb => ⟨fun z => absurd rfl z, fun _ => ⟨Or.inl rfl, hk0 (fun z => nb z.2)⟩⟩)
  refine c_PL_depend Y d (t + 2) (q := q) (by omega) x99 (by omega) x8 hW _ _ _ _ (fun σ' g1 g2 g3 g4 g5 g6 g7 g8 g9 g10 => ⟨Or.inr rfl, ?_⟩)
  have g3 : σ' (t + 11) q = (if cF c 9 q = 0 then nI (cW c) else σ (t + 11) q) := g3
  have g4 : σ' (t + 12) q = nI (cF c 9 q + 1) := g4
  have g5 : ∀ y, y ≠ q → σ' (t + 11) y = σ (t + 11) y ∧ σ' (t + 12) y = σ (t + 12) y := g5
  have ct : ∀ i, σ' t i = σ t i := fun i => by rw [g10 t (by omega) (by omega)]
  refine hk1 σ' ⟨hb, hb2⟩ (fun y hy => g10 y (by omega) (by omega)) ⟨by rw [ct]; exact x1, x2.kept (fun i _ => by rw [g10 _ (by omega) (by omega)]), x3.kept (fun i _ => by rw [g10 _ (by omega) (by omega)]) (fun _ _ => ⟨rfl, rfl⟩), by rw [ct]; exact x4, by rw [ct]; exact x5, by rw [ct]; exact x6, by rw [g2 13 (by omega)]; exact x7, g1, fun f f1 f3 p hp => ?_, fun p hp hn => ?_, fun f f1 w hw => ?_⟩
  · have base := x9 f f1 f3 p hp
    by_cases e8 : f = 8
    · subst e8
      rw [show t + 3 + 8 = t + 11 from rfl, show cF (depC c q sg one other) 8 p = if p = q then (if cF c 9 q = 0 then cW c else cF c 8 q) else cF c 8 p from rfl]
      have base : σ (t + 11) p = nI (cF c 8 p) := base
      by_cases e : p = q
      · subst e
        rw [if_pos rfl, g3]
        by_cases z : cF c 9 p = 0
        · rw [if_pos z, if_pos z]
        · rw [if_neg z, if_neg z]; exact base
      · rw [if_neg e, (g5 p e).1]; exact base
    · by_cases e9 : f = 9
      · subst e9
        rw [show t + 3 + 9 = t + 12 from rfl, show cF (depC c q sg one other) 9 p = if p = q then cF c 9 p + 1 else cF c 9 p from rfl]
        have base : σ (t + 12) p = nI (cF c 9 p) := base
        by_cases e : p = q
        · subst e
          rw [if_pos rfl, g4]
        · rw [if_neg e, (g5 p e).2]; exact base
      · rw [g10 _ (by omega) (by omega)]
        rcases (show f = 0 ∨ f = 1 ∨ f = 2 ∨ f = 4 ∨ f = 5 ∨ f = 6 ∨ f = 7 by omega) with rfl | rfl | rfl | rfl | rfl | rfl | rfl
        all_goals exact base
  · rw [g10 _ (by omega) (by omega)]; exact x10 p hp hn
  · have hw : w < cW c + 1 := hw
    by_cases e : w = cW c
    · subst e
      rcases (show f = 0 ∨ f = 1 ∨ f = 2 by omega) with rfl | rfl | rfl
      · rw [show cD (depC c q sg one other) 0 (cW c) = sg from if_pos rfl]; exact g6
      · rw [show cD (depC c q sg one other) 1 (cW c) = one from if_pos rfl]; exact g7
      · rw [show cD (depC c q sg one other) 2 (cW c) = other from if_pos rfl]; exact g8
    · have base := x11 f f1 w (by omega)
      rw [show cD (depC c q sg one other) f w = cD c f w from if_neg e]
      obtain ⟨y1, y2, y3⟩ := g9 w e
      rcases (show f = 0 ∨ f = 1 ∨ f = 2 by omega) with rfl | rfl | rfl
      · exact y1.trans base
      · exact y2.trans base
      · exact y3.trans base
