/-! the reference's value: taking out, putting, leaving out -/
/-- a world that differs in the value's rows alone -/
def mK (σ σ' : sS) : Prop := (∀ c, c ≠ 0 → (c < 2 ∨ 6 < c) → σ' c = σ c) ∧ ∀ i, i ≠ 6 → σ' 0 i = σ 0 i
theorem mK.refl (σ : sS) : mK σ σ := ⟨fun _ _ _ => rfl, fun _ _ => rfl⟩
theorem mK.trans {σ σ1 σ2 : sS} (h : mK σ σ1) (g : mK σ1 σ2) : mK σ σ2 := ⟨fun c h0 hc => by rw [g.1 c h0 hc, h.1 c h0 hc], fun i hi => by rw [g.2 i hi, h.2 i hi]⟩
theorem mK.of {σ σ' : sS} (h : ∀ c, c ≠ 5 → c ≠ 6 → σ' c = σ c) : mK σ σ' := ⟨fun c _ hc => h c (by omega) (by omega), fun i _ => by rw [h 0 (by omega) (by omega)]⟩
theorem c_MO_takesOut (Y : List kd) (d fr g n : Nat) (hfg : fr + g ≤ n) (h20 : n ≤ 20) {σ : sS} (hn : σ 0 6 = nI n) (k : sS → Prop)
    (hk : ∀ σ', σ' 0 6 = nI (n - g) → (∀ c y, 2 ≤ c → c < 5 → y < n - g → σ' c y = σ c (mq fr g y)) → (∀ c, c ≠ 0 → (c < 2 ∨ 5 ≤ c) → σ' c = σ c) → (∀ i, i ≠ 6 → σ' 0 i = σ 0 i) → k σ') :
    CJ Y d y_MO_takesOut [sR 0 (.inl 6), sI (nI fr), sI (nI g)] σ (rN k) := by
  refine s_MO_takesOut_0 Y d 0 _ _ σ (rN k) ?_
  rw [hn, nI_subm (by omega)]
  have key : ∀ m i, fr ≤ i → i + m = n - g → ∀ τ : sS, τ 0 6 = nI (n - g) → (∀ c y, 2 ≤ c → c < 5 → y < i → τ c y = σ c (mq fr g y)) → (∀ c y, 2 ≤ c → c < 5 → i ≤ y → τ c y = σ c y) → (∀ c, c ≠ 0 → (c < 2 ∨ 5 ≤ c) → τ c = σ c) → (∀ i, i ≠ 6 → τ 0 i = σ 0 i) → Jd Y d y_MO_takesOut 12 [(0, sR 0 (.inl 6)), (2, sI (nI g)), (3, sI (nI i))] [] τ (rN k) := by
    intro m
    induction m with
    | zero =>
      intro i hf hi τ t1 t2 t3 t4 t5
      refine s_MO_takesOut_12 Y d 0 _ _ τ (rN k) ⟨fun _ => hk τ t1 (fun c y h2 h5 hy => t2 c y h2 h5 (by omega)) t4 t5, fun hlt => ?_⟩
      rw [t1, i32_lt (by omega) (by omega)] at hlt
      omega
    | succ m ih =>
      intro i hf hi τ t1 t2 t3 t4 t5
      refine s_MO_takesOut_12 Y d 0 _ _ τ (rN k) ⟨fun hlt => ?_, fun _ => ?_⟩
      · rw [t1, i32_lt (by omega) (by omega)] at hlt
        omega
      · have v1 : vp_in (nI i + nI g) 21 := by rw [nI_add]; exact vinI (by omega) (by omega)
        have v2 : vp_in (nI i) 21 := vinI (by omega) (by omega)
        refine ⟨v1, v2, v1, v2, v1, v2, ?_⟩
        rw [nI_add, cl_nI (by omega), cl_nI (by omega), nI_s1]
        have e3 : up τ (0 + 2) i (τ (0 + 2) (i + g)) (0 + 3) (i + g) = τ 3 (i + g) := by rw [up_cell _ _ (by omega)]
        have e4 : up (up τ (0 + 2) i (τ (0 + 2) (i + g))) (0 + 3) i (τ 3 (i + g)) (0 + 4) (i + g) = τ 4 (i + g) := by rw [up_cell _ _ (by omega), up_cell _ _ (by omega)]
        rw [e3, e4]
        refine ih (i + 1) (by omega) (by omega) _ ?_ (fun c y h2 h5 hy => ?_) (fun c y h2 h5 hy => ?_) (fun c h0 hc => ?_) (fun j hj => ?_)
        · rw [up_cell _ _ (by omega), up_cell _ _ (by omega), up_cell _ _ (by omega)]; exact t1
        · have src : ∀ c, 2 ≤ c → c < 5 → τ c (i + g) = σ c (mq fr g i) := by
            intro c h2 h5
            rw [mq_ge hf]
            exact t3 c (i + g) h2 h5 (by omega)
          by_cases e : y = i
          · subst e
            rcases (show c = 2 ∨ c = 3 ∨ c = 4 by omega) with rfl | rfl | rfl
            · rw [up_cell _ _ (by omega), up_cell _ _ (by omega), ← src 2 (by omega) (by omega)]; exact up_self τ 2 _ _
            · rw [up_cell _ _ (by omega), ← src 3 (by omega) (by omega)]; exact up_self _ 3 _ _
            · rw [← src 4 (by omega) (by omega)]; exact up_self _ 4 _ _
          · rw [up_other _ _ (Or.inr e), up_other _ _ (Or.inr e), up_other _ _ (Or.inr e)]
            exact t2 c y h2 h5 (by omega)
        · rw [up_other _ _ (Or.inr (by omega)), up_other _ _ (Or.inr (by omega)), up_other _ _ (Or.inr (by omega))]
          exact t3 c y h2 h5 (by omega)
        · rw [up_cell _ _ (by omega), up_cell _ _ (by omega), up_cell _ _ (by omega)]; exact t4 c h0 hc
        · rw [up_cell _ _ (by omega), up_cell _ _ (by omega), up_cell _ _ (by omega)]; exact t5 j hj
  refine key (n - g - fr) fr (Nat.le_refl _) (by omega) _ (up_self _ _ _ _) (fun c y h2 h5 hy => ?_) (fun c y h2 h5 hy => ?_) (fun c h0 hc => ?_) (fun j hj => ?_)
  · rw [up_cell _ _ (by omega), mq_lt hy]
  · rw [up_cell _ _ (by omega)]
  · rw [up_cell _ _ (by omega)]
  · exact up_other _ _ (Or.inr hj)
theorem c_MO_putsAt (Y : List kd) (d : Nat) {v : VT} (w : WFV v) {σ : sS} (hv : MV σ v) {p kd x : Nat} (hp : p < v.1) (hk1 : kd ≤ 1) (h0 : kd = 0 → x ≤ 99) (h1 : kd ≠ 0 → x = 0) (k : sS → Prop) (hk : ∀ σ', MV σ' (fillV v p kd x) → mK σ σ' → k σ') : CJ Y (d + 3) y_MO_putsAt [sR 0 (.inl 6), sI (nI p), sI (nI kd), sI (nI x)] σ (rN k) := by
  have h20 := w.2.1
  have sp := w.sp20 hp
  have hs := w.2.2.1 p hp
  have wf := w.fill hp hk1 h0 h1
  have v1 : vp_in (nI p) 21 := vinI (by omega) (by omega)
  refine s_MO_putsAt_0 Y (d + 2) 0 _ _ _ σ (rN k) ⟨v1, ?_⟩
  rw [cl_nI (by omega), show σ (0 + 5) p = _ from (hv.2.1 p hp).2.2.1, nI_s1, show (1 : Int32) = nI 1 from rfl, nI_subm sp.1]
  refine c_MO_takesOut Y (d + 2) (p + 1) (v.2 4 p - 1) v.1 (by omega) h20 hv.1 _ (fun σ1 e1 e2 e3 e4 => ⟨v1, v1, ?_⟩)
  have hmq : ∀ y, mq (p + 1) (v.2 4 p - 1) y = mp p (v.2 4 p - 1) y := by
    intro y
    rcases Nat.lt_or_ge p y with z | z
    · rw [mq_ge (by omega), mp_gt z]
    · rw [mq_lt (by omega), mp_le z]
  have em : ∀ y, y < v.1 - (v.2 4 p - 1) → mp p (v.2 4 p - 1) y < v.1 := by
    intro y hy
    rcases Nat.lt_or_ge p y with z | z
    · rw [mp_gt z]; omega
    · rw [mp_le z]; omega
  refine c_MO_measures Y d wf ⟨?_, fun y hy => ⟨?_, ?_⟩, fun y j hy h2 hj => ?_⟩ _ (fun σ2 g1 g2 => hk σ2 g1 ?_)
  · rw [up_cell _ _ (by omega), up_cell _ _ (by omega)]; exact e1
  · have hy : y < v.1 - (v.2 4 p - 1) := hy
    rw [up_cell _ _ (by omega)]
    show up σ1 2 p (nI kd) 2 y = nI (if y = p then kd else v.2 0 (mp p (v.2 4 p - 1) y))
    by_cases e : y = p
    · subst e; rw [up_self, if_pos rfl]
    · rw [up_other _ _ (Or.inr e), if_neg e, e2 2 y (by omega) (by omega) hy, hmq]
      exact (hv.2.1 _ (em y hy)).1
  · have hy : y < v.1 - (v.2 4 p - 1) := hy
    show up (up σ1 2 p (nI kd)) 3 p (nI x) 3 y = nI (if (if y = p then kd else v.2 0 (mp p (v.2 4 p - 1) y)) = 0 then (if y = p then x else v.2 1 (mp p (v.2 4 p - 1) y)) else fK (v.2 2) (v.2 4) p y)
    unfold fK
    by_cases e : y = p
    · subst e
      rw [up_self, if_pos rfl, if_pos rfl, if_pos rfl]
      by_cases z : kd = 0
      · rw [if_pos z]
      · rw [if_neg z, h1 z]
    · rw [up_other _ _ (Or.inr e), if_neg e, if_neg e, if_neg e, up_cell _ _ (by omega), e2 3 y (by omega) (by omega) hy, hmq]
      exact (hv.2.1 _ (em y hy)).2.1
  · have hy : y < v.1 - (v.2 4 p - 1) := hy
    rw [up_cell _ _ (by omega), up_cell _ _ (by omega)]
    have e : y ≠ p := by
      intro z
      subst z
      have : fK (v.2 2) (v.2 4) y y = 0 := by unfold fK; rw [if_pos rfl]
      have hj : j < fK (v.2 2) (v.2 4) y y := hj
      omega
    have hc := ch_part wf.2.2.1 hy hj
    have hc : kch (fillV v p kd x) y j < v.1 - (v.2 4 p - 1) := hc
    rw [e2 4 _ (by omega) (by omega) hc, hmq]
    show σ 4 (mp p (v.2 4 p - 1) (kch (fillV v p kd x) y j)) = nI (v.2 3 (mp p (v.2 4 p - 1) (kch (fillV v p kd x) y j)))
    obtain ⟨z, hz⟩ : ∃ z, z = mp p (v.2 4 p - 1) y := ⟨_, rfl⟩
    have hzc : (y ≤ p ∧ z = y) ∨ (p < y ∧ z = y + (v.2 4 p - 1)) := by
      rcases Nat.lt_or_ge p y with q | q
      · exact Or.inr ⟨q, by rw [hz, mp_gt q]⟩
      · exact Or.inl ⟨q, by rw [hz, mp_le q]⟩
    have hzn : z < v.1 := by omega
    have hj2 : j < v.2 2 z := by
      have hj : j < fK (v.2 2) (v.2 4) p y := hj
      unfold fK at hj
      rw [if_neg e, ← hz] at hj
      exact hj
    have h22 : v.2 0 z = 2 := by
      have h2 : (if y = p then kd else v.2 0 (mp p (v.2 4 p - 1) y)) = 2 := h2
      rw [if_neg e, ← hz] at h2
      exact h2
    have hum : um p (v.2 4 p - 1) z = y := by rw [hz, um_mp]
    have hf := fill_ch w.2.2.1 hp hzn (by omega) (by omega) j (by omega)
    rw [hum] at hf
    have ho := ch_out w.2.2.1 hzn hp (by omega) (by omega) j (by omega)
    have e5 : mp p (v.2 4 p - 1) (kch (fillV v p kd x) y j) = kch v z j := by
      show mp p (v.2 4 p - 1) (ch (fS (v.2 4) p) y j) = ch (v.2 4) z j
      rw [hf]
      exact mp_um (by omega)
    rw [e5]
    exact hv.2.2 z j hzn h22 hj2
  · refine ⟨fun c c0 hc => ?_, fun i hi => ?_⟩
    · rw [g2 c (by omega) (by omega), up_cell _ _ (by omega), up_cell _ _ (by omega)]
      exact e3 c c0 (by omega)
    · rw [g2 0 (by omega) (by omega), up_cell _ _ (by omega), up_cell _ _ (by omega)]
      exact e4 i hi
theorem c_MO_fieldOf (Y : List kd) (d : Nat) {v : VT} (w : WFV v) {σ : sS} (hv : MV σ v) {p : Nat} (hp : p < v.1) (h2 : v.2 0 p = 2) (s : Int32) (k : Int32 → sS → Prop) (hk : k (if kidV v p s < v.2 2 p then nI (kch v p (kidV v p s)) else -9) σ) : CJ Y (d + 1) y_MO_fieldOf [sR 0 (.inl 6), sI (nI p), sI s] σ (rI k) := by
  have h20 := w.2.1
  have hk5 := w.kids5 hp
  have v1 : vp_in (nI p) 21 := vinI (by omega) (by omega)
  have en : σ (0 + 3) (Int32.toNatClampNeg (nI p)) = nI (v.2 2 p) := by rw [cl_nI (by omega)]; exact hv.num w hp (by omega)
  refine s_MO_fieldOf_0 Y d 0 _ _ σ (rI k) ?_
  have key : ∀ m i, i + m = v.2 2 p → k (if fst_ (fun k => decide (nI (v.2 3 (kch v p k)) = s)) m i < v.2 2 p then nI (kch v p (fst_ (fun k => decide (nI (v.2 3 (kch v p k)) = s)) m i)) else -9) σ → Jd Y (d + 1) y_MO_fieldOf 2 [(0, sR 0 (.inl 6)), (1, sI (nI p)), (2, sI s), (3, sI (nI i))] [] σ (rI k) := by
    intro m
    induction m with
    | zero =>
      intro i hi hq
      have e : fst_ (fun k => decide (nI (v.2 3 (kch v p k)) = s)) 0 i = i := rfl
      rw [e, if_neg (by omega)] at hq
      refine s_MO_fieldOf_2 Y d 0 _ _ _ σ (rI k) ⟨v1, fun _ => hq, fun hlt => ?_⟩
      rw [en, i32_lt (by omega) (by omega)] at hlt
      omega
    | succ m ih =>
      intro i hi hq
      have hc := (w.kchlt hp (show i < v.2 2 p by omega)).2
      refine s_MO_fieldOf_2 Y d 0 _ _ _ σ (rI k) ⟨v1, fun hlt => ?_, fun _ => c_MO_childOf Y d w hv hp (by omega) _ ⟨vinI (by omega) (by omega), fun hne => ?_, fun he => c_MO_childOf Y d w hv hp (by omega) _ ?_⟩⟩
      · rw [en, i32_lt (by omega) (by omega)] at hlt
        omega
      · rw [cl_nI (by omega), show σ (0 + 4) (kch v p i) = _ from hv.2.2 p i hp h2 (by omega)] at hne
        rw [nI_s1]
        refine ih (i + 1) (by omega) ?_
        have e : fst_ (fun k => decide (nI (v.2 3 (kch v p k)) = s)) (m + 1) i = fst_ (fun k => decide (nI (v.2 3 (kch v p k)) = s)) m (i + 1) := by
          show (if decide (nI (v.2 3 (kch v p i)) = s) = true then i else _) = _
          rw [if_neg (by simpa using hne)]
        rw [e] at hq
        exact hq
      · rw [cl_nI (by omega), show σ (0 + 4) (kch v p i) = _ from hv.2.2 p i hp h2 (by omega)] at he
        have e : fst_ (fun k => decide (nI (v.2 3 (kch v p k)) = s)) (m + 1) i = i := by
          show (if decide (nI (v.2 3 (kch v p i)) = s) = true then i else _) = _
          rw [if_pos (by simpa using he)]
        rw [e, if_pos (by omega)] at hq
        exact hq
  exact key (v.2 2 p) 0 (by omega) hk
theorem nI_div (a b : Nat) (ha : a < 2 ^ 31) (hb : b < 2 ^ 31) : nI a / nI b = nI (a / b) := by
  apply Int32.toInt_inj.mp
  have h1 := nI_toInt ha
  have h2 := nI_toInt hb
  have h3 := nI_toInt (show a / b < 2 ^ 31 from Nat.lt_of_le_of_lt (Nat.div_le_self a b) ha)
  rw [Int32.toInt_div_of_ne_left, h1, h2, h3]
  · rfl
  · intro e
    have := congrArg Int32.toInt e
    rw [h1] at this
    have : (Int32.minValue).toInt = -2147483648 := by decide
    omega
theorem c_MO_leavesOut (Y : List kd) (d : Nat) {v : VT} (w : WFV v) {σ : sS} (hv : MV σ v) {r : Nat} (hr : r < v.1) (h0 : 0 < r) (k : sS → Prop) (hk : ∀ σ', MV σ' (outV v r) → mK σ σ' → k σ') : CJ Y (d + 3) y_MO_leavesOut [sR 0 (.inl 6), sI (nI r)] σ (rN k) := by
  have h20 := w.2.1
  have wo := w.out hr h0
  obtain ⟨P, j, h1, h2, h3, h4, h5⟩ := w.hold hr h0
  have spr := w.sp20 hr
  have hK := w.kids5 h2
  have hr4 := w.road4 hr
  have ev : outV v r = lnk (outV0 v r P) := by unfold outV; rw [h5]
  have wp := w.out0 hr h2 h3 h4
  have kP : v.2 0 P ≠ 0 := fun z => by have := (w.2.2.2.2.2.2.2 P h2).2.2.2.1 (by omega); omega
  have v1 : vp_in (nI r) 21 := vinI (by omega) (by omega)
  have v2 : vp_in (nI P) 21 := vinI (by omega) (by omega)
  refine s_MO_leavesOut_0 Y (d + 2) 0 _ σ (rN k) ⟨v1, by decide, ?_⟩
  have e10 : σ (0 + 6) (Int32.toNatClampNeg (nI r)) / 10 = nI (v.2 5 P) := by
    rw [cl_nI (by omega), show σ (0 + 6) r = _ from (hv.2.1 r hr).2.2.2, show (10 : Int32) = nI 10 from rfl, nI_div _ _ (by omega) (by omega)]
    congr 1
    have a1 := ((w.2.2.2.2.2.2.2 P h2).2.2.2.2.2.2 j h3).2.2.1
    have a2 := w.dig h2 h3
    rw [h4] at a1 a2
    omega
  rw [e10]
  refine c_MO_partAt Y _ h20 hv _ _ ?_
  rw [findV_road w h2, if_pos h2]
  refine ⟨v2, v2, v1, ?_⟩
  rw [cl_nI (show P < 2 ^ 31 by omega), cl_nI (show r < 2 ^ 31 by omega), show σ (0 + 3) P = _ from hv.num w h2 kP, show (1 : Int32) = nI 1 from rfl, nI_subm (by omega), up_cell _ _ (by omega), show σ (0 + 5) r = _ from (hv.2.1 r hr).2.2.1]
  refine c_MO_takesOut Y _ r (v.2 4 r) v.1 (by omega) h20 (by rw [up_cell _ _ (by omega)]; exact hv.1) _ (fun σ1 e1 e2 e3 e4 => ?_)
  have em : ∀ y, y < v.1 - v.2 4 r → mq r (v.2 4 r) y < v.1 := by
    intro y hy
    rcases Nat.lt_or_ge y r with z | z
    · rw [mq_lt z]; omega
    · rw [mq_ge z]; omega
  have wo' : WFV (lnk (outV0 v r P)) := ev ▸ wo
  refine c_MO_measures Y d wo' ⟨e1, fun y hy => ⟨?_, ?_⟩, fun y i hy hy2 hi => ?_⟩ _ (fun σ2 g1 g2 => hk σ2 (ev ▸ g1) ?_)
  · have hy : y < v.1 - v.2 4 r := hy
    rw [e2 2 y (by omega) (by omega) hy, up_cell _ _ (by omega)]
    exact (hv.2.1 _ (em y hy)).1
  · have hy : y < v.1 - v.2 4 r := hy
    rw [e2 3 y (by omega) (by omega) hy]
    show up σ 3 P (nI (v.2 2 P - 1)) 3 (mq r (v.2 4 r) y) = nI (if v.2 0 (mq r (v.2 4 r) y) = 0 then v.2 1 (mq r (v.2 4 r) y) else oK (v.2 2) (v.2 4) r P y)
    unfold oK
    by_cases z : y = P
    · subst z
      rw [mq_lt h1, up_self, if_neg kP, if_pos rfl]
    · have z3 : mq r (v.2 4 r) y ≠ P := by
        intro z2
        rcases Nat.lt_or_ge y r with z3 | z3
        · rw [mq_lt z3] at z2; omega
        · rw [mq_ge z3] at z2; omega
      rw [up_other _ _ (Or.inr z3), if_neg z]
      exact (hv.2.1 _ (em y hy)).2.1
  · have hy : y < v.1 - v.2 4 r := hy
    have hy2 : (outV0 v r P).2 0 y = 2 := hy2
    have hi : i < (outV0 v r P).2 2 y := hi
    have hc := ch_part wp.2.2.1 hy hi
    have hc : kch (outV0 v r P) y i < v.1 - v.2 4 r := hc
    show σ1 4 (kch (outV0 v r P) y i) = nI (lkD (outV0 v r P) (kch (outV0 v r P) y i))
    rw [lkD_rec wp hy hi hy2, e2 4 _ (by omega) (by omega) hc, up_cell _ _ (by omega)]
    obtain ⟨k1, q1, q2, q3, -, -⟩ := out_kid w hr h2 h3 h4 hy hi
    show σ 4 (mq r (v.2 4 r) (kch (outV0 v r P) y i)) = nI (v.2 3 (mq r (v.2 4 r) (kch (outV0 v r P) y i)))
    rw [q2]
    exact hv.2.2 _ k1 q3 hy2 q1
  · refine ⟨fun c c0 hc => ?_, fun i hi => ?_⟩
    · rw [g2 c (by omega) (by omega), e3 c c0 (by omega), up_cell _ _ (by omega)]
    · rw [g2 0 (by omega) (by omega), e4 i hi, up_cell _ _ (by omega)]
