/-! first, limited, total, judge, count -/
theorem X_at' {σ : sS} {F : List Nat} {w : Nat} (h : FX σ F w) (h6 : F.length ≤ 6144) {i x : Nat} (hi : F[i]? = some x) : rd σ (0 + 37) 6144 (nI i) = nI x := X_at h h6 hi
theorem M_toldAt (d : Nat) {σ : sS} {F : List Nat} {w : Nat} (h : FM σ F w) (h6 : F.length ≤ 16384) (hok : okF F) (k : Int32 → sS → Prop) (i : Nat) (hi : i ≤ F.length) (h1 : ∀ x j, i = j + 1 → F[j]? = some x → k (nI x) σ) (h0 : i = 0 → k (-9) σ) : CJ LM (d + 1) y_MO_toldAt [sR 0 (.inl 6), sI (nI i - 1)] σ (rI k) := by
  refine s_MO_toldAt_0 LM d 0 _ σ (rI k) ?_
  cases i with
  | zero =>
    have e : iIn (nI 0 - 1) 0 (σ 0 33 - 1) = 0 := iIn_neg (lo := 0) (by decide) (by omega)
    rw [e]
    exact ⟨fun _ => h0 rfl, fun z => absurd rfl z⟩
  | succ j =>
    have e1 : nI (j + 1) - 1 = nI j := nI_subm (a := j + 1) (b := 1) (by omega)
    have e2 : nI F.length - 1 = nI (F.length - 1) := nI_subm (a := F.length) (b := 1) (by omega)
    obtain ⟨x, x1, x2⟩ := at_some (show j < F.length by omega)
    have hxb := hok x x2
    have e : iIn (nI j) 0 (nI (F.length - 1)) = 1 := (iIn_nI (lo := 0) (by omega) (by omega) (by omega)).trans (by rw [if_neg (by omega), if_neg (by omega)])
    rw [h.1, e1, e2, e]
    refine ⟨fun z => absurd z (by decide), fun _ => ⟨vinI (by omega) (by omega), vinI (by omega) (by omega), ?_⟩⟩
    rw [cl_nI (by omega), show σ (0 + 20) j = _ from (h.2.2 j x x1).1, show σ (0 + 21) j = _ from (h.2.2 j x x1).2, lit 100, pk_mul, nI_add, show 100 * (x / 100) + x % 100 = x by omega]
    exact h1 x j rfl x1
theorem st_first : stI RelS y_GF_first y_MO_first [] := by
  refine stI_mk (fun σx σm v c n L m T rf im ok hx hm => ?_)
  have wc := ok.wc
  have w := ok.wv
  have hl := fl_len wc w
  have hok := fl_ok wc w
  obtain ⟨F, eF⟩ : ∃ F, (fl c v).1 = F := ⟨_, rfl⟩
  rw [eF] at hl hok
  by_cases h0 : F.length = 0
  · refine ⟨-9, v, c, n, L, m, T, rf, im, ok, fun k hk => ?_, fun k hk => ?_⟩
    · refine s_GF_first_0 LX 299 0 σx (rI k) (X_gather 299 (by omega) w wc hx _ (fun σ' g1 g2 g3 => ?_))
      rw [eF, h0]
      exact ⟨fun _ => hk _ g2, fun z => absurd z (by decide)⟩
    · refine s_MO_first_0 LM 299 0 σm (rI k) (M_finds 292 w wc hm _ (fun σ' g1 g2 g3 => ?_))
      rw [eF] at g1
      refine s_MO_toldAt_0 LM 298 0 0 σ' (rI _) ?_
      rw [g1.1, h0]
      exact ⟨fun _ => hk _ g2, fun z => absurd (by decide) z⟩
  · obtain ⟨x, x1, x2⟩ := at_some (show 0 < F.length by omega)
    refine ⟨nI x, v, c, n, L, m, T, rf, im, ok, fun k hk => ?_, fun k hk => ?_⟩
    · refine s_GF_first_0 LX 299 0 σx (rI k) (X_gather 299 (by omega) w wc hx _ (fun σ' g1 g2 g3 => ?_))
      rw [eF] at g1 ⊢
      refine ⟨fun z => ?_, fun _ => ?_⟩
      · rw [lit 0, i32_lt (by omega) (by omega)] at z; omega
      · rw [show rd σ' (0 + 37) 6144 0 = nI x from X_at' g1 (by omega) (i := 0) x1]
        exact hk _ g2
    · refine s_MO_first_0 LM 299 0 σm (rI k) (M_finds 292 w wc hm _ (fun σ' g1 g2 g3 => ?_))
      rw [eF] at g1
      refine M_toldAt 298 g1 (by omega) hok _ 1 (by omega) (fun y j ej y1 => ?_) (fun z => by omega)
      have : j = 0 := by omega
      subst this
      have : y = x := Option.some.inj (y1.symm.trans x1)
      subst this
      exact hk _ g2
theorem st_limited (a b : Int32) : stI RelS y_GF_limited y_MO_limited [sI a, sI b] := by
  refine stI_mk (fun σx σm v c n L m T rf im ok hx hm => ?_)
  have wc := ok.wc
  have w := ok.wv
  have hl := fl_len wc w
  have hok := fl_ok wc w
  by_cases h0 : a < 0
  · have e : iBd a 0 99 = -4 := iBd_neg (lo := 0) h0 (by omega)
    refine ⟨-4, v, c, n, L, m, T, rfU rf 4, im, ok, fun k hk => ?_, fun k hk => ?_⟩
    · exact s_GF_limited_0 LX 299 0 _ _ σx (rI k) ⟨fun z => absurd h0 z, fun _ => X_refuse 298 hx (-4) 4 rfl (by omega) _ hk⟩
    · refine s_MO_limited_0 LM 299 0 _ _ σm (rI k) ?_
      rw [e]
      exact ⟨fun _ => s_MO_limited_24 LM 299 0 _ _ _ σm (rI k) ⟨fun z => absurd z (by decide), fun _ => M_no 299 wc hm (-4) 4 rfl (by omega) _ hk⟩, fun z => absurd z (by decide)⟩
  · obtain ⟨x, hxb, rfl⟩ := i32_nI h0
    have e : iBd (nI x) 0 99 = if 99 < x then -6 else 0 := (iBd_nI (lo := 0) (hi := 99) hxb (by omega) (by omega)).trans (by rw [if_neg (by omega)])
    have c9 : (99 : Int32) < nI x ↔ 99 < x := i32_lt (a := 99) (by omega) hxb
    by_cases h9 : 99 < x
    · rw [if_pos h9] at e
      refine ⟨-6, v, c, n, L, m, T, rfU rf 6, im, ok, fun k hk => ?_, fun k hk => ?_⟩
      · exact s_GF_limited_0 LX 299 0 _ _ σx (rI k) ⟨fun _ => ⟨fun z => absurd (c9.mpr h9) z, fun _ => X_refuse 298 hx (-6) 6 rfl (by omega) _ hk⟩, fun z => absurd z h0⟩
      · refine s_MO_limited_0 LM 299 0 _ _ σm (rI k) ?_
        rw [e]
        exact ⟨fun _ => s_MO_limited_24 LM 299 0 _ _ _ σm (rI k) ⟨fun z => absurd z (by decide), fun _ => M_no 299 wc hm (-6) 6 rfl (by omega) _ hk⟩, fun z => absurd z (by decide)⟩
    · rw [if_neg h9] at e
      by_cases hb : b = 0 ∨ b = 1
      · have e1 : iIn b 0 1 = 1 := (iIn01 b).1 hb
        obtain ⟨F, eF⟩ : ∃ F, (fl c v).1 = F := ⟨_, rfl⟩
        rw [eF] at hl hok
        obtain ⟨q, eq⟩ : ∃ q, q = if F.length < x then F.length else x := ⟨_, rfl⟩
        have hqF : q ≤ F.length := by rw [eq]; split <;> omega
        have ei : (if nI F.length < nI x then nI F.length else nI x) = nI q := by
          rw [eq]
          by_cases z : F.length < x
          · rw [if_pos z, if_pos ((i32_lt (by omega) hxb).mpr z)]
          · rw [if_neg z, if_neg (fun y => z ((i32_lt (by omega) hxb).mp y))]
        have X40 : ∀ k : Int32 → sS → Prop, (∀ σ', FX σ' F (fl c v).2 → AX σ' v c n L m T rf im → ((¬ b = 0 → ((¬ (0 : Int32) < nI q → (rI k) (some (sI (-9))) σ') ∧ ((0 : Int32) < nI q → (rI k) (some (sI (rd σ' (0 + 37) 6144 (nI q - 1)))) σ'))) ∧ (b = 0 → (rI k) (some (sI (nI q))) σ'))) → CJ LX 300 y_GF_limited (sR 0 (.inl 5) :: [sI (nI x), sI b]) σx (rI k) := by
          intro k g
          have go : Jd LX 300 y_GF_limited 40 [(0, sR 0 (.inl 5)), (1, sI (nI x)), (2, sI b)] [] σx (rI k) := by
            refine s_GF_limited_40 LX 299 0 _ _ σx (rI k) (X_gather 299 (by omega) w wc hx _ (fun σ' g1 g2 g3 => ?_))
            rw [eF] at g1 ⊢
            rw [ei]
            exact g σ' g1 g2
          refine s_GF_limited_0 LX 299 0 _ _ σx (rI k) ⟨fun _ => ⟨fun _ => ⟨fun _ => go, fun n0 => ⟨fun _ => go, fun n1 => ?_⟩⟩, fun z => absurd (c9.mp z) h9⟩, fun z => absurd z h0⟩
          rcases hb with z | z
          · exact absurd z n0
          · exact absurd z n1
        have M50 : ∀ k : Int32 → sS → Prop, (∀ σ', FM σ' F (fl c v).2 → AM σ' v c n L m T rf im → Jd LM 300 y_MO_limited 50 [(0, sR 0 (.inl 6)), (2, sI b)] [sI (nI q)] σ' (rI k)) → CJ LM 300 y_MO_limited (sR 0 (.inl 6) :: [sI (nI x), sI b]) σm (rI k) := by
          intro k g
          refine s_MO_limited_0 LM 299 0 _ _ σm (rI k) ?_
          rw [e, e1]
          refine ⟨fun z => absurd rfl z, fun _ => ⟨fun _ => ?_, fun z => absurd z (by decide)⟩⟩
          refine s_MO_limited_24 LM 299 0 _ _ _ σm (rI k) ⟨fun _ => ?_, fun z => absurd rfl z⟩
          refine M_many 291 w wc hm _ (fun σ' g1 g2 g3 => ?_)
          rw [eF] at g1 ⊢
          rw [i32_lt (by omega) hxb, g1.1]
          have := g σ' g1 g2
          refine ⟨fun z => ?_, fun z => ?_⟩
          · rw [eq, if_neg z] at this; exact this
          · rw [eq, if_pos z] at this; exact this
        by_cases b0 : b = 0
        · refine ⟨nI q, v, c, n, L, m, T, rf, im, ok, fun k hk => X40 k (fun σ' g1 g2 => ⟨fun z => absurd b0 z, fun _ => hk _ g2⟩), fun k hk => M50 k (fun σ' g1 g2 => ?_)⟩
          exact s_MO_limited_50 LM 299 0 _ _ σ' (rI k) ⟨fun z => absurd b0 z, fun _ => hk _ g2⟩
        · by_cases q0 : q = 0
          · refine ⟨-9, v, c, n, L, m, T, rf, im, ok, fun k hk => X40 k (fun σ' g1 g2 => ⟨fun _ => ⟨fun _ => hk _ g2, fun z => ?_⟩, fun z => absurd z b0⟩), fun k hk => M50 k (fun σ' g1 g2 => ?_)⟩
            · rw [q0] at z; exact absurd z (by decide)
            · exact s_MO_limited_50 LM 299 0 _ _ σ' (rI k) ⟨fun _ => M_toldAt 298 g1 (by omega) hok _ q hqF (fun y j ej _ => by omega) (fun _ => hk _ g2), fun z => absurd z b0⟩
          · obtain ⟨y, y1, y2⟩ := at_some (show q - 1 < F.length by omega)
            refine ⟨nI y, v, c, n, L, m, T, rf, im, ok, fun k hk => X40 k (fun σ' g1 g2 => ⟨fun _ => ⟨fun z => ?_, fun _ => ?_⟩, fun z => absurd z b0⟩), fun k hk => M50 k (fun σ' g1 g2 => ?_)⟩
            · rw [lit 0, i32_lt (by omega) (by omega)] at z; omega
            · rw [show nI q - 1 = nI (q - 1) from nI_subm (a := q) (b := 1) (by omega), X_at' g1 (by omega) y1]
              exact hk _ g2
            · refine s_MO_limited_50 LM 299 0 _ _ σ' (rI k) ⟨fun _ => M_toldAt 298 g1 (by omega) hok _ q hqF (fun z j ej z1 => ?_) (fun z => absurd z q0), fun z => absurd z b0⟩
              have : j = q - 1 := by omega
              subst this
              have : z = y := Option.some.inj (z1.symm.trans y1)
              subst this
              exact hk _ g2
      · have e1 : iIn b 0 1 = 0 := (iIn01 b).2 hb
        refine ⟨-2, v, c, n, L, m, T, rfU rf 2, im, ok, fun k hk => ?_, fun k hk => ?_⟩
        · exact s_GF_limited_0 LX 299 0 _ _ σx (rI k) ⟨fun _ => ⟨fun _ => ⟨fun z => absurd (Or.inl z) hb, fun _ => ⟨fun z => absurd (Or.inr z) hb, fun _ => X_refuse 298 hx (-2) 2 rfl (by omega) _ hk⟩⟩, fun z => absurd (c9.mp z) h9⟩, fun z => absurd z h0⟩
        · refine s_MO_limited_0 LM 299 0 _ _ σm (rI k) ?_
          rw [e, e1]
          exact ⟨fun z => absurd rfl z, fun _ => ⟨fun z => absurd rfl z, fun _ => s_MO_limited_24 LM 299 0 _ _ _ σm (rI k) ⟨fun z => absurd z (by decide), fun _ => M_no 299 wc hm (-2) 2 rfl (by omega) _ hk⟩⟩⟩
/-! sums over parts -/
def smN (v : VT) : Nat → Nat
  | 0 => 0
  | i + 1 => smN v i + (if v.2 0 i = 0 then v.2 1 i else 0)
def cntN (v : VT) : Nat → Nat
  | 0 => 0
  | i + 1 => cntN v i + (if v.2 0 i = 0 then 1 else 0)
def maxP (v : VT) : Nat → Nat
  | 0 => 0
  | i + 1 => if maxP v i < v.2 5 i then v.2 5 i else maxP v i
theorem cntN_le (v : VT) : ∀ i, cntN v i ≤ i
  | 0 => Nat.le_refl _
  | i + 1 => by
    have := cntN_le v i
    show cntN v i + (if v.2 0 i = 0 then 1 else 0) ≤ i + 1
    split <;> omega
theorem smN_le {v : VT} (w : WFV v) : ∀ i, i ≤ v.1 → smN v i ≤ 99 * i
  | 0, _ => Nat.le_refl _
  | i + 1, h => by
    have h1 := smN_le w i (by omega)
    have h2 := (w.2.2.2.2.2.2.2 i (by omega)).2.1
    show smN v i + (if v.2 0 i = 0 then v.2 1 i else 0) ≤ 99 * (i + 1)
    by_cases z : v.2 0 i = 0
    · rw [if_pos z]; have := h2 z; omega
    · rw [if_neg z]; omega
theorem maxP_lt {v : VT} (w : WFV v) : ∀ i, i ≤ v.1 → maxP v i < 10000
  | 0, _ => by show 0 < 10000; omega
  | i + 1, h => by
    have h1 := maxP_lt w i (by omega)
    have h2 := w.road4 (show i < v.1 by omega)
    show (if maxP v i < v.2 5 i then v.2 5 i else maxP v i) < 10000
    split <;> omega
theorem kd4 {v : VT} (w : WFV v) {p : Nat} (hp : p < v.1) : v.2 0 p ≤ 3 := (w.2.2.2.2.2.2.2 p hp).1
theorem X_numbers (d : Nat) {σ : sS} {v : VT} (w : WFV v) (hv : XV σ 1 v) (k : Int32 → sS → Prop) (hk : k (nI (cntN v v.1)) σ) : CJ LX (d + 1) y_GF_numbers [sR 0 (.inl 5)] σ (rI k) := by
  have h20 := w.2.1
  refine s_GF_numbers_0 LX d 0 σ (rI k) ?_
  have key : ∀ r i, i + r = v.1 → Jd LX (d + 1) y_GF_numbers 4 [(0, sR 0 (.inl 5)), (1, sI (nI (cntN v i))), (2, sI (nI i))] [] σ (rI k) := by
    intro r
    induction r with
    | zero =>
      intro i hi
      have ei : i = v.1 := by omega
      subst ei
      refine s_GF_numbers_4 LX d 0 _ _ σ (rI k) ⟨fun _ => hk, fun z => ?_⟩
      rw [show σ (0 + 1) 6 = nI v.1 from hv.1, i32_lt (by omega) (by omega)] at z
      omega
    | succ r ih =>
      intro i hi
      have hp : i < v.1 := by omega
      have nx := ih (i + 1) (by omega)
      have ec : cntN v (i + 1) = cntN v i + (if v.2 0 i = 0 then 1 else 0) := rfl
      rw [ec] at nx
      refine s_GF_numbers_4 LX d 0 _ _ σ (rI k) ⟨fun z => ?_, fun _ => ?_⟩
      · rw [show σ (0 + 1) 6 = nI v.1 from hv.1, i32_lt (by omega) (by omega)] at z
        omega
      · rw [hv.rd h20 (f := 0) (by omega) hp (a := 0 + 2) rfl, z_eq (by have := kd4 w hp; omega) 0 (by omega)]
        refine ⟨fun z => ?_, fun z => ?_⟩
        · refine s_GF_numbers_32 LX d 0 _ _ σ (rI k) ?_
          rw [if_neg z, Nat.add_zero] at nx
          rw [nI_s1]
          exact nx
        · refine s_GF_numbers_32 LX d 0 _ _ σ (rI k) ?_
          rw [if_pos z] at nx
          rw [nI_s1, nI_s1]
          exact nx
  exact key v.1 0 (by omega)
theorem M_numbers (d : Nat) {σ : sS} {v : VT} (w : WFV v) (hv : MV σ v) (M : Nat) (hM : M < 2 ^ 31) (k : Int32 → sS → Prop) (hk : k (nI (if cntN v v.1 < M then cntN v v.1 else M)) σ) : CJ LM d y_MO_numbersUpTo [sR 0 (.inl 6), sI (nI M)] σ (rI k) := by
  have h20 := w.2.1
  refine s_MO_numbersUpTo_0 LM d 0 _ σ (rI k) ?_
  have key : ∀ r i, i + r = v.1 → Jd LM d y_MO_numbersUpTo 4 [(0, sR 0 (.inl 6)), (1, sI (nI M)), (2, sI (nI (cntN v i))), (3, sI (nI i))] [] σ (rI k) := by
    intro r
    induction r with
    | zero =>
      intro i hi
      have ei : i = v.1 := by omega
      subst ei
      have hc := cntN_le v v.1
      refine s_MO_numbersUpTo_4 LM d 0 _ _ _ σ (rI k) ⟨fun _ => ?_, fun z => ?_⟩
      · rw [i32_lt (by omega) hM]
        refine ⟨fun z => ?_, fun z => ?_⟩
        · rw [if_neg z] at hk; exact hk
        · rw [if_pos z] at hk; exact hk
      · rw [show σ 0 6 = nI v.1 from hv.1, i32_lt (by omega) (by omega)] at z
        omega
    | succ r ih =>
      intro i hi
      have hp : i < v.1 := by omega
      have nx := ih (i + 1) (by omega)
      have ec : cntN v (i + 1) = cntN v i + (if v.2 0 i = 0 then 1 else 0) := rfl
      rw [ec] at nx
      refine s_MO_numbersUpTo_4 LM d 0 _ _ _ σ (rI k) ⟨fun z => ?_, fun _ => ⟨vinI (by omega) (by omega), ?_⟩⟩
      · rw [show σ 0 6 = nI v.1 from hv.1, i32_lt (by omega) (by omega)] at z
        omega
      · rw [cl_nI (by omega), show σ (0 + 2) i = _ from (hv.2.1 i hp).1, z_eq (by have := kd4 w hp; omega) 0 (by omega)]
        refine ⟨fun z => ?_, fun z => ?_⟩
        · refine s_MO_numbersUpTo_27 LM d 0 _ _ _ _ σ (rI k) ?_
          rw [if_neg z, Nat.add_zero] at nx
          rw [nI_s1, show nI (cntN v i) + 0 = nI (cntN v i) from nI_add _ 0]
          exact nx
        · refine s_MO_numbersUpTo_27 LM d 0 _ _ _ _ σ (rI k) ?_
          rw [if_pos z] at nx
          rw [nI_s1, nI_s1]
          exact nx
  exact key v.1 0 (by omega)
theorem X_greatest (d : Nat) {σ : sS} {v : VT} (w : WFV v) (hv : XV σ 1 v) (k : Int32 → sS → Prop) (hk : k (nI (maxP v v.1)) σ) : CJ LX (d + 1) y_GF_greatestPath [sR 0 (.inl 5)] σ (rI k) := by
  have h20 := w.2.1
  refine s_GF_greatestPath_0 LX d 0 σ (rI k) ?_
  have key : ∀ r i, i + r = v.1 → Jd LX (d + 1) y_GF_greatestPath 4 [(0, sR 0 (.inl 5)), (1, sI (nI (maxP v i))), (2, sI (nI i))] [] σ (rI k) := by
    intro r
    induction r with
    | zero =>
      intro i hi
      have ei : i = v.1 := by omega
      subst ei
      refine s_GF_greatestPath_4 LX d 0 _ _ σ (rI k) ⟨fun _ => hk, fun z => ?_⟩
      rw [show σ (0 + 1) 6 = nI v.1 from hv.1, i32_lt (by omega) (by omega)] at z
      omega
    | succ r ih =>
      intro i hi
      have hp : i < v.1 := by omega
      have nx := ih (i + 1) (by omega)
      have ec : maxP v (i + 1) = if maxP v i < v.2 5 i then v.2 5 i else maxP v i := rfl
      have hm := maxP_lt w i (by omega)
      have hr := w.road4 hp
      refine s_GF_greatestPath_4 LX d 0 _ _ σ (rI k) ⟨fun z => ?_, fun _ => ?_⟩
      · rw [show σ (0 + 1) 6 = nI v.1 from hv.1, i32_lt (by omega) (by omega)] at z
        omega
      · rw [hv.rd h20 (f := 5) (by omega) hp (a := 0 + 7) rfl, nI_s1]
        have e : (if nI (maxP v i) < nI (v.2 5 i) then nI (v.2 5 i) else nI (maxP v i)) = nI (maxP v (i + 1)) := by
          rw [ec]
          by_cases z : maxP v i < v.2 5 i
          · rw [if_pos z, if_pos ((i32_lt (by omega) (by omega)).mpr z)]
          · rw [if_neg z, if_neg (fun y => z ((i32_lt (by omega) (by omega)).mp y))]
        rw [e]
        exact nx
  exact key v.1 0 (by omega)
theorem M_greatest (d : Nat) {σ : sS} {v : VT} (w : WFV v) (hv : MV σ v) (k : Int32 → sS → Prop) (hk : k (nI (maxP v v.1)) σ) : CJ LM d y_MO_greatestPath [sR 0 (.inl 6)] σ (rI k) := by
  have h20 := w.2.1
  refine s_MO_greatestPath_0 LM d 0 σ (rI k) ?_
  have key : ∀ r i, i + r = v.1 → Jd LM d y_MO_greatestPath 4 [(0, sR 0 (.inl 6)), (1, sI (nI (maxP v i))), (2, sI (nI i))] [] σ (rI k) := by
    intro r
    induction r with
    | zero =>
      intro i hi
      have ei : i = v.1 := by omega
      subst ei
      refine s_MO_greatestPath_4 LM d 0 _ _ σ (rI k) ⟨fun _ => hk, fun z => ?_⟩
      rw [show σ 0 6 = nI v.1 from hv.1, i32_lt (by omega) (by omega)] at z
      omega
    | succ r ih =>
      intro i hi
      have hp : i < v.1 := by omega
      have nx := ih (i + 1) (by omega)
      have ec : maxP v (i + 1) = if maxP v i < v.2 5 i then v.2 5 i else maxP v i := rfl
      have hm := maxP_lt w i (by omega)
      have hr := w.road4 hp
      refine s_MO_greatestPath_4 LM d 0 _ _ σ (rI k) ⟨fun z => ?_, fun _ => ⟨vinI (by omega) (by omega), ?_⟩⟩
      · rw [show σ 0 6 = nI v.1 from hv.1, i32_lt (by omega) (by omega)] at z
        omega
      · rw [cl_nI (by omega), show σ (0 + 6) i = _ from (hv.2.1 i hp).2.2.2, i32_lt (by omega) (by omega)]
        refine ⟨fun z => ?_, fun z => ⟨vinI (by omega) (by omega), ?_⟩⟩
        · refine s_MO_greatestPath_32 LM d 0 _ _ σ (rI k) ?_
          rw [ec, if_neg z] at nx
          rw [nI_s1]
          exact nx
        · refine s_MO_greatestPath_32 LM d 0 _ _ σ (rI k) ?_
          rw [ec, if_pos z] at nx
          rw [nI_s1]
          exact nx
  exact key v.1 0 (by omega)
theorem st_total : stI RelS y_GF_total y_MO_total [] := by
  refine stI_mk (fun σx σm v c n L m T rf im ok hx hm => ?_)
  have wc := ok.wc
  have w := ok.wv
  have h20 := w.2.1
  have hl := fl_len wc w
  by_cases h0 : (fl c v).1.length = 0
  · refine ⟨nI (smN v v.1), v, c, n, L, m, T, rf, im, ok, fun k hk => ?_, fun k hk => ?_⟩
    · refine s_GF_total_0 LX 299 0 σx (rI k) (X_gather 299 (by omega) w wc hx _ (fun σ' g1 g2 g3 => ?_))
      rw [h0]
      refine ⟨fun _ => ?_, fun z => absurd z (by decide)⟩
      have hv := g2.1
      have key : ∀ r i, i + r = v.1 → Jd LX 300 y_GF_total 21 [(0, sR 0 (.inl 5)), (1, sI (nI (smN v i))), (2, sI (nI i))] [] σ' (rI k) := by
        intro r
        induction r with
        | zero =>
          intro i hi
          have ei : i = v.1 := by omega
          subst ei
          refine s_GF_total_21 LX 299 0 _ _ σ' (rI k) ⟨fun _ => hk _ g2, fun z => ?_⟩
          rw [show σ' (0 + 1) 6 = nI v.1 from hv.1, i32_lt (by omega) (by omega)] at z
          omega
        | succ r ih =>
          intro i hi
          have hp : i < v.1 := by omega
          have nx := ih (i + 1) (by omega)
          have ec : smN v (i + 1) = smN v i + (if v.2 0 i = 0 then v.2 1 i else 0) := rfl
          rw [ec] at nx
          refine s_GF_total_21 LX 299 0 _ _ σ' (rI k) ⟨fun z => ?_, fun _ => ?_⟩
          · rw [show σ' (0 + 1) 6 = nI v.1 from hv.1, i32_lt (by omega) (by omega)] at z
            omega
          · rw [hv.rd h20 (f := 0) (by omega) hp (a := 0 + 2) rfl, hv.rd h20 (f := 1) (by omega) hp (a := 0 + 3) rfl, z_eq (by have := kd4 w hp; omega) 0 (by omega)]
            refine ⟨fun z => ?_, fun z => ?_⟩
            · refine s_GF_total_60 LX 299 0 _ _ σ' (rI k) ?_
              rw [if_neg z, Nat.add_zero] at nx
              rw [nI_s1]
              exact nx
            · refine s_GF_total_60 LX 299 0 _ _ σ' (rI k) ?_
              rw [if_pos z] at nx
              rw [nI_s1, nI_add]
              exact nx
      exact key v.1 0 (by omega)
    · refine s_MO_total_0 LM 299 0 σm (rI k) (M_many 291 w wc hm _ (fun σ' g1 g2 g3 => ?_))
      rw [h0]
      refine ⟨fun _ => ?_, fun z => absurd z (by decide)⟩
      have hv := g2.1
      refine s_MO_allNumbers_0 LM 299 0 σ' (rI _) ?_
      have key : ∀ r i, i + r = v.1 → Jd LM 299 y_MO_allNumbers 4 [(0, sR 0 (.inl 6)), (1, sI (nI (smN v i))), (2, sI (nI i))] [] σ' (rI fun r2 σ2 => (rI k) (some (sI r2)) σ2) := by
        intro r
        induction r with
        | zero =>
          intro i hi
          have ei : i = v.1 := by omega
          subst ei
          refine s_MO_allNumbers_4 LM 299 0 _ _ σ' (rI _) ⟨fun _ => hk _ g2, fun z => ?_⟩
          rw [show σ' 0 6 = nI v.1 from hv.1, i32_lt (by omega) (by omega)] at z
          omega
        | succ r ih =>
          intro i hi
          have hp : i < v.1 := by omega
          have nx := ih (i + 1) (by omega)
          have ec : smN v (i + 1) = smN v i + (if v.2 0 i = 0 then v.2 1 i else 0) := rfl
          rw [ec] at nx
          refine s_MO_allNumbers_4 LM 299 0 _ _ σ' (rI _) ⟨fun z => ?_, fun _ => ⟨vinI (by omega) (by omega), ?_⟩⟩
          · rw [show σ' 0 6 = nI v.1 from hv.1, i32_lt (by omega) (by omega)] at z
            omega
          · rw [cl_nI (by omega), show σ' (0 + 2) i = _ from (hv.2.1 i hp).1, show σ' (0 + 3) i = _ from (hv.2.1 i hp).2.1, z_eq (by have := kd4 w hp; omega) 0 (by omega)]
            refine ⟨fun z => ?_, fun z => ⟨vinI (by omega) (by omega), ?_⟩⟩
            · refine s_MO_allNumbers_32 LM 299 0 _ _ _ σ' (rI _) ?_
              rw [if_neg z, Nat.add_zero] at nx
              rw [nI_s1, show nI (smN v i) + 0 = nI (smN v i) from nI_add _ 0]
              exact nx
            · refine s_MO_allNumbers_32 LM 299 0 _ _ _ σ' (rI _) ?_
              rw [if_pos z] at nx
              rw [nI_s1, if_pos z, nI_add]
              exact nx
      exact key v.1 0 (by omega)
  · refine ⟨-9, v, c, n, L, m, T, rf, im, ok, fun k hk => ?_, fun k hk => ?_⟩
    · refine s_GF_total_0 LX 299 0 σx (rI k) (X_gather 299 (by omega) w wc hx _ (fun σ' g1 g2 g3 => ⟨fun z => ?_, fun _ => hk _ g2⟩))
      rw [lit 0, i32_lt (by omega) (by omega)] at z
      omega
    · refine s_MO_total_0 LM 299 0 σm (rI k) (M_many 291 w wc hm _ (fun σ' g1 g2 g3 => ⟨fun z => ?_, fun _ => hk _ g2⟩))
      rw [lit 0, i32_lt (by omega) (by omega)] at z
      omega
