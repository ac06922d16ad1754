/-! by lot -/
def nxS (s : Int32) : Int32 := s * 1664525 + 1013904223
def drS (s : Int32) (b : Nat) : Nat := ((nxS s &&& 2147483647).toInt.toNat / 256) % b
theorem mask_nn (z : Int32) : ¬ (z &&& 2147483647) < 0 := by
  intro h
  rw [Int32.lt_iff_toInt_lt, Int32.toInt_zero, Jvm.Kit.i32_mask z 2147483647 (k := 31) (by decide) (by decide)] at h
  omega
theorem drS_of (s : Int32) {b : Nat} (hb2 : b < 2 ^ 31) : ((nxS s &&& 2147483647) / 256) - ((nxS s &&& 2147483647) / 256) / nI b * nI b = nI (drS s b) := by
  obtain ⟨q, hq, e⟩ := i32_nI (mask_nn (nxS s))
  have e2 : drS s b = q / 256 % b := by
    unfold drS
    rw [e, nI_toInt hq]
    rfl
  have e3 : nI q / 256 = nI (q / 256) := nI_div q 256 hq (by omega)
  rw [e2, e, e3, nI_mod _ _ (by omega) hb2]
theorem drS_lt (s : Int32) {b : Nat} (hb : 0 < b) : drS s b < b := Nat.mod_lt _ hb
theorem X_draw (d : Nat) {σ : sS} {v : VT} {c : CT} {n : Nat} {L : Nat → Nat} {m : Nat} {T : Nat → Nat} {rf : Nat → Int32} {im : Option (VT × CT)} (hx : AX σ v c n L m T rf im) {s : Int32} (hs : σ 0 13 = s) {b : Nat} (hb : 0 < b) (hb2 : b < 2 ^ 31) (k : Int32 → sS → Prop) (hk : ∀ σ', AX σ' v c n L m T rf im → σ' 0 13 = nxS s → (∀ x, x ≠ 0 → σ' x = σ x) → k (nI (drS s b)) σ') : CJ LX d y_GF_draw [sR 0 (.inl 5), sI (nI b)] σ (rI k) := by
  refine s_GF_draw_0 LX d 0 _ σ (rI k) ⟨by decide, ?_⟩
  rw [hs, show s * 1664525 + 1013904223 = nxS s from rfl, up_self, drS_of s hb2]
  have g : k (nI (drS s b)) (up σ 0 13 (nxS s)) := hk _ (hx.kept ⟨fun x a _ _ => up_cell _ _ a, fun i a => up_other _ _ (Or.inr a)⟩) (up_self _ _ _ _) (fun x a => up_cell _ _ a)
  refine ⟨fun z => absurd ((i32_lt (a := 0) (by omega) hb2).mpr hb) z, fun _ => ⟨fun z => ?_, g⟩⟩
  have := nI_inj' (b := 0) z hb2 (by omega)
  omega
theorem M_draw (d : Nat) {σ : sS} {v v0 : VT} {c : CT} {n : Nat} {L : Nat → Nat} {m : Nat} {T : Nat → Nat} {rf : Nat → Int32} {im : Option (VT × CT)} (wc : WFC c) (hm : AM σ v c n L m T rf im) (hn : MND σ v0) {s : Int32} (hs : σ 0 53 = s) {b : Nat} (hb : 0 < b) (hb2 : b < 2 ^ 31) (k : Int32 → sS → Prop) (hk : ∀ σ', AM σ' v c n L m T rf im → MND σ' v0 → σ' 0 53 = nxS s → k (nI (drS s b)) σ') : CJ LM d y_MO_draw [sR 0 (.inl 6), sI (nI b)] σ (rI k) := by
  refine s_MO_draw_0 LM d 0 _ σ (rI k) ⟨by decide, ?_, ?_⟩
  · intro z
    have := nI_inj' (b := 0) z hb2 (by omega)
    omega
  · rw [hs, show s * 1664525 + 1013904223 = nxS s from rfl, up_self, drS_of s hb2]
    exact hk _ (hm.kept wc ⟨fun x a _ _ => up_cell _ _ a, fun j hj => by rw [up_cell _ _ (by omega)], fun i _ _ _ _ _ a => up_other _ _ (Or.inr a)⟩) (hn.kept (up_cell _ _ (by omega))) (up_self _ _ _ _)
/-- one change by lot -/
def lotS (q : VT × Int32) : VT × Int32 := if drS (nxS q.2) 4 = 0 then (fillV q.1 (drS q.2 q.1.1) 1 0, nxS (nxS q.2)) else (fillV q.1 (drS q.2 q.1.1) 0 (drS (nxS (nxS q.2)) 100), nxS (nxS (nxS q.2)))
def lotN (q : VT × Int32) : Nat → VT × Int32
  | 0 => q
  | i + 1 => lotS (lotN q i)
theorem lotS_ok {q : VT × Int32} (w : WFV q.1) : WFV (lotS q).1 := by
  have hp := drS_lt q.2 (b := q.1.1) w.1
  have h9 := drS_lt (nxS (nxS q.2)) (b := 100) (by omega)
  unfold lotS
  split
  · exact w.fill hp (by omega) (fun z => absurd z (by decide)) (fun _ => rfl)
  · exact w.fill hp (by omega) (fun _ => by omega) (fun z => absurd rfl z)
theorem lotN_ok {q : VT × Int32} (w : WFV q.1) : ∀ i, WFV (lotN q i).1
  | 0 => w
  | i + 1 => lotS_ok (lotN_ok w i)
noncomputable def lotR (v : VT) (c : CT) (s0 : Int32) : Nat → (Nat × Nat) × Int32
  | 0 => ((0, 0), s0)
  | i + 1 => (((lotR v c s0 i).1.1 + (fl c (lotN (v, (lotR v c s0 i).2) 4).1).1.length, (lotR v c s0 i).1.2 + (if (fl c (lotN (v, (lotR v c s0 i).2) 4).1).1.length = 0 then 1 else 0)), (lotN (v, (lotR v c s0 i).2) 4).2)
theorem X_tryLots (d : Nat) {σ : sS} {v : VT} {c : CT} {n : Nat} {L : Nat → Nat} {m : Nat} {T : Nat → Nat} {rf : Nat → Int32} {im : Option (VT × CT)} (w : WFV v) (hx : AX σ v c n L m T rf im) {s : Int32} (hs : σ 0 13 = s) (k : sS → Prop) (hk : ∀ σ', XV σ' 8 (lotN (v, s) 4).1 → AX σ' v c n L m T rf im → σ' 0 13 = (lotN (v, s) 4).2 → k σ') : CJ LX (d + 4) y_GF_tryLots [sR 0 (.inl 5)] σ (rN k) := by
  refine s_GF_tryLots_0 LX (d + 3) 0 σ (rN k) (X_take (d + 1) w hx _ (fun σ1 a1 a2 a3 => ?_))
  have key : ∀ r i τ, i + r = 4 → XV τ 8 (lotN (v, s) i).1 → AX τ v c n L m T rf im → τ 0 13 = (lotN (v, s) i).2 → Jd LX (d + 4) y_GF_tryLots 13 [(0, sR 0 (.inl 5)), (1, sI (nI i))] [] τ (rN k) := by
    intro r
    induction r with
    | zero =>
      intro i τ hi h8 hxx h13
      have ei : i = 4 := by omega
      rw [ei] at h8 h13
      refine s_GF_tryLots_13 LX (d + 3) 0 _ τ (rN k) ⟨fun _ => hk _ h8 hxx h13, fun z => ?_⟩
      rw [lit 4, i32_lt (by omega) (by omega)] at z; omega
    | succ r ih =>
      intro i τ hi h8 hxx h13
      have wu := lotN_ok (q := (v, s)) w i
      have nx := fun τ => ih (i + 1) τ (by omega)
      have e : lotN (v, s) (i + 1) = lotS (lotN (v, s) i) := rfl
      rw [e] at nx
      obtain ⟨⟨u, s1⟩, eu⟩ : ∃ q, lotN (v, s) i = q := ⟨_, rfl⟩
      rw [eu] at nx wu h8 h13
      have wu : WFV u := wu
      have u20 := wu.2.1
      have up0 := wu.1
      have hp := drS_lt s1 (b := u.1) up0
      have h4 := drS_lt (nxS s1) (b := 4) (by omega)
      have h9 := drS_lt (nxS (nxS s1)) (b := 100) (by omega)
      refine s_GF_tryLots_13 LX (d + 3) 0 _ τ (rN k) ⟨fun z => ?_, fun _ => ?_⟩
      · rw [lit 4, i32_lt (by omega) (by omega)] at z; omega
      · rw [show τ (0 + 8) 6 = nI u.1 from h8.1]
        refine X_draw (d + 3) (s := s1) hxx h13 up0 (by omega) _ (fun τ1 b1 b2 b3 => ?_)
        refine X_draw (d + 3) b1 b2 (b := 4) (by omega) (by omega) _ (fun τ2 c1 c2 c3 => ?_)
        have x2 : XV τ2 8 u := h8.kept (fun y a b => by rw [c3 y (by omega), b3 y (by omega)])
        rw [z_eq (by omega) 0 (by omega)]
        refine ⟨fun q => ?_, fun q => ?_⟩
        · refine X_draw (d + 3) c1 c2 (b := 100) (by omega) (by omega) _ (fun τ3 e1 e2 e3 => ?_)
          have x3 : XV τ3 8 u := x2.kept (fun y a b => e3 y (by omega))
          refine X_fill d e1 wu x3 hp (kd := 0) (by omega) (by omega) _ (fun τ4 g1 g2 g3 => ?_)
          refine s_GF_tryLots_66 LX (d + 3) 0 _ τ4 (rN k) ?_
          have el : lotS (u, s1) = (fillV u (drS s1 u.1) 0 (drS (nxS (nxS s1)) 100), nxS (nxS (nxS s1))) := if_neg q
          rw [el] at nx
          rw [nI_s1]
          exact nx τ4 g1 g2 (by rw [g3]; exact e2)
        · refine X_fill d c1 wu x2 hp (kd := 1) (by omega) (x := 0) (by omega) _ (fun τ4 g1 g2 g3 => ?_)
          refine s_GF_tryLots_66 LX (d + 3) 0 _ τ4 (rN k) ?_
          have el : lotS (u, s1) = (fillV u (drS s1 u.1) 1 0, nxS (nxS s1)) := if_pos q
          rw [el] at nx
          rw [nI_s1]
          exact nx τ4 g1 g2 (by rw [g3]; exact c2)
  exact key 4 0 σ1 (by omega) a1 a2 (by rw [a3]; exact hs)
theorem M_byLot (d : Nat) {σ : sS} {u v0 : VT} {c : CT} {n : Nat} {L : Nat → Nat} {m : Nat} {T : Nat → Nat} {rf : Nat → Int32} {im : Option (VT × CT)} (wc : WFC c) (wu : WFV u) (hm : AM σ u c n L m T rf im) (hn : MND σ v0) {s : Int32} (hs : σ 0 53 = s) (k : sS → Prop) (hk : ∀ σ', AM σ' (lotS (u, s)).1 c n L m T rf im → MND σ' v0 → σ' 0 53 = (lotS (u, s)).2 → k σ') : CJ LM (d + 4) y_MO_changesByLot [sR 0 (.inl 6)] σ (rN k) := by
  have u20 := wu.2.1
  have up0 := wu.1
  have hp := drS_lt s (b := u.1) up0
  have h4 := drS_lt (nxS s) (b := 4) (by omega)
  have h9 := drS_lt (nxS (nxS s)) (b := 100) (by omega)
  refine s_MO_changesByLot_0 LM (d + 3) 0 σ (rN k) ?_
  rw [show σ 0 6 = nI u.1 from hm.1.1]
  refine M_draw (d + 3) wc hm hn hs up0 (by omega) _ (fun τ1 b1 b2 b3 => ?_)
  refine M_draw (d + 3) wc b1 b2 b3 (b := 4) (by omega) (by omega) _ (fun τ2 c1 c2 c3 => ?_)
  rw [z_eq (by omega) 0 (by omega)]
  refine ⟨fun q => ?_, fun q => ?_⟩
  · refine M_draw (d + 3) wc c1 c2 c3 (b := 100) (by omega) (by omega) _ (fun τ3 e1 e2 e3 => ?_)
    have el : lotS (u, s) = (fillV u (drS s u.1) 0 (drS (nxS (nxS s)) 100), nxS (nxS (nxS s))) := if_neg q
    rw [el] at hk
    exact M_put d wu wc e1 e2 hp (kd := 0) (by omega) (fun _ => by omega) (fun z => absurd rfl z) _ (fun τ4 g1 g2 g3 => hk τ4 g1 g2 (by rw [g3]; exact e3))
  · have el : lotS (u, s) = (fillV u (drS s u.1) 1 0, nxS (nxS s)) := if_pos q
    rw [el] at hk
    exact M_put d wu wc c1 c2 hp (kd := 1) (x := 0) (by omega) (fun z => absurd z (by decide)) (fun _ => rfl) _ (fun τ4 g1 g2 g3 => hk τ4 g1 g2 (by rw [g3]; exact c3))
