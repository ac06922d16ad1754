/-! the law's check of all fields: told, and what two of them say -/
theorem sumf_le1 {α : Type} {f : α → Nat} {l : List α} (h : ∀ a ∈ l, f a ≤ 1) : sumf f l ≤ l.length := by
  induction l with
  | nil => exact Nat.le_refl _
  | cons q r ih =>
    have h1 := h q List.mem_cons_self
    have h2 := ih (fun a ha => h a (List.mem_cons_of_mem _ ha))
    simp only [sumf, List.length_cons]
    omega
theorem xal_le (x : XD) : xal x + xlc x ≤ 1 := by
  unfold xal xlc
  split
  · split <;> omega
  · split <;> omega
theorem xmo_le {α : Type} (fs : List XD) (q : Nat × α) : xmo fs q ≤ 1 := by unfold xmo; split <;> omega
theorem xF0_le {d : Nat} {t : Tr (d + 1)} {fs : List XD} (hw : twf (d + 1) t) (hl : fs.length ≤ 9) : (xF0 t fs).length ≤ 13 := by
  rw [xF0_len, ← sumf_add]
  have h1 := sumf_le1 (f := fun x => xal x + xlc x) (l := fs) (fun x _ => xal_le x)
  have h2 := sumf_le1 (f := xmo fs) (l := trC t) (fun x _ => xmo_le fs x)
  have h3 := hw.2.2.2.2.1
  omega
theorem t823 (B : dB) (ax : Nat → Nat) {E : Nat} (hE : 300 ≤ E) {Q : dQ} (hQ : ∀ σ μ, Q (some (.int 1)) σ μ) {dx : Nat} {T : Tr (dx + 1)} (hwf : twf (dx + 1) T) {V V0 : VT} {c c0 : CT} {fs : List XD} {w : List Nat} (hk : FSK fs w) (h2 : V.2 0 0 = 2) {b wt : Nat} (hb : b ≤ 9) (dif : Bool) (hf : fl c V = (if dif then xF0 T fs ++ [100 * b + 9] else xF0 T fs, wt)) (e : ∀ c2, RQ c2 1 fs → CE c2 1 w → lk c2 V 119 1 0 = fl c V) (h96 : (xrl fs w).length ≤ 96) {a5 : Nat} {G : Nat → Prop} {u : Nat} (hu : 500 ≤ u) {μ : dW} (hC : CL μ G 3 a5 (xall fs w)) {σ : sS} (hX : XL σ V c (some (V0, c0)) []) : DJ B ax (E + 1 + 1) u y_LW_law 823 [(1, .ref (ax 0)), (4, .int (nI V0.1)), (5, .ref a5), (6, .int (nI (sumf xal fs))), (9, .int (nI (sumf xlc fs))), (10, .int (nI (sumf (xmo fs) (trC T)))), (13, .int (nI wt)), (15, .int (nI b))] [.int (if dif then 1 else 0)] σ μ Q := by
  have hl13 := xF0_le hwf hk.2.2.2.2
  obtain ⟨c6, c7, c9⟩ := xF0_cnt T fs
  have hlen := xF0_len T fs
  have e' : ∀ c2, RQ c2 1 fs → CE c2 1 w → lk c2 V 119 1 0 = ((fl c V).1, (fl c V).2) := e
  cases dif with
  | false =>
    have hf : fl c V = (xF0 T fs, wt) := hf
    refine s_LW_law_823 B ax (E + 1) u _ _ _ _ _ _ _ _ _ σ μ Q ⟨fun _ => ?_, fun z => absurd z (by decide)⟩
    exact t865 B ax hE hQ hk h2 (al := sumf xal fs) (lc := sumf xlc fs) (mo := sumf (xmo fs) (trC T)) (ul := 0) (wt := wt) (by rw [hf]; show (xF0 T fs).length < 99; omega) (by rw [hf]; exact hlen) (by rw [hf]) (by rw [hf]; exact c6) (by rw [hf]; exact c7) (by rw [hf]; exact c9) e' h96 hu hC hX
  | true =>
    have hf : fl c V = (xF0 T fs ++ [100 * b + 9], wt) := hf
    have hL : (fl c V).1.length = (xF0 T fs).length + 1 := by rw [hf]; simp
    have hy : (fl c V).1[(xF0 T fs).length]? = some (100 * b + 9) := by
      rw [hf]
      show (xF0 T fs ++ [100 * b + 9])[(xF0 T fs).length]? = _
      rw [List.getElem?_append_right (Nat.le_refl _), Nat.sub_self]
      rfl
    have em : nI (fl c V).1.length - 1 = nI (xF0 T fs).length := by
      rw [hL]; exact nI_subm (a := (xF0 T fs).length + 1) (b := 1) (by omega)
    refine s_LW_law_823 B ax (E + 1) u _ _ _ _ _ _ _ _ _ σ μ Q ⟨fun z => absurd rfl z, fun _ => ⟨rfl, x_faults (by omega) hX _ (fun σ1 h1 => ⟨rfl, ?_⟩)⟩⟩
    rw [em]
    refine x_fault (by omega) h1 hy 0 (Or.inl rfl) _ (fun σ2 h2' => ?_)
    rw [if_pos rfl, show (100 * b + 9) / 100 = b by omega]
    refine ⟨fun z => absurd rfl z, fun _ => ⟨rfl, x_faults (by omega) h2' _ (fun σ3 h3 => ⟨rfl, ?_⟩)⟩⟩
    rw [em]
    refine x_fault (by omega) h3 hy 1 (Or.inr rfl) _ (fun σ4 h4 => ?_)
    rw [if_neg (show ¬ (1 : Int32) = 0 by decide), show (100 * b + 9) % 100 = 9 by omega]
    refine ⟨fun _ => ?_, fun z => absurd rfl z⟩
    have k9 : ∀ e, ¬ e = 9 → (fl c V).1.countP (fun y => decide (y % 100 = e)) = (xF0 T fs).countP (fun y => decide (y % 100 = e)) := by
      intro e he
      rw [hf]
      show (xF0 T fs ++ [100 * b + 9]).countP _ = _
      rw [List.countP_append]
      have h1 : ¬ 9 = e := by omega
      simp [h1]
    exact t865 B ax hE hQ hk h2 (al := sumf xal fs) (lc := sumf xlc fs) (mo := sumf (xmo fs) (trC T)) (ul := 1) (wt := wt) (by omega) (by rw [hL]; omega) (by rw [hf]) (by rw [k9 6 (by omega)]; exact c6) (by rw [k9 7 (by omega)]; exact c7) (by
      rw [hf]
      show (xF0 T fs ++ [100 * b + 9]).countP _ = _
      rw [List.countP_append, c9]
      simp) e' h96 hu hC h4
theorem t788 (B : dB) (ax : Nat → Nat) {E : Nat} (hE : 300 ≤ E) {Q : dQ} (hQ : ∀ σ μ, Q (some (.int 1)) σ μ) {dx : Nat} {T : Tr (dx + 1)} (hwf : twf (dx + 1) T) (hT2 : trK T = 2) {V : VT} (v : VF dx V T) {c c0 : CT} {fs : List XD} (hF : FOK (trC T) fs) {x y : XD} (hxm : x ∈ fs) (hym : y ∈ fs) (hk : FSK fs [10 * xdN x + xdN y]) (hR : RQ c 0 fs) (hE0 : CE c 0 [10 * xdN x + xdN y]) (h96 : (xrl fs [10 * xdN x + xdN y]).length ≤ 96) {a5 : Nat} {G : Nat → Prop} {u : Nat} (hu : 500 ≤ u) {μ : dW} (hC : CL μ G 3 a5 (xall fs [10 * xdN x + xdN y])) {σ : sS} (hX : XL σ V c (some (V, c0)) []) (s0 : Int32) (hs1 : snd_ x ∧ snd_ y → s0 = 1) (hs0 : ¬ (snd_ x ∧ snd_ y) → s0 = 0) : DJ B ax (E + 1 + 1) u y_LW_law 788 [(1, .ref (ax 0)), (4, .int (nI V.1)), (5, .ref a5), (6, .int (nI (sumf xal fs))), (9, .int (nI (sumf xlc fs))), (10, .int (nI (sumf (xmo fs) (trC T)))), (14, .int (nI (xdN x))), (15, .int (nI (xdN y)))] [.int s0] σ μ Q := by
  have h2 : V.2 0 0 = 2 := v.2.1.trans hT2
  obtain ⟨hx, hd, hw, hM, hl⟩ := id hk
  have w := hX.wv
  obtain ⟨A1, A0⟩ := lk_rec1 (m := 117) w v hT2 hR hF hx hd hwf hxm hym hE0
  have y9 : xdN y ≤ 9 := by have := (hx y hym).2.1; omega
  have ef : fl c V = lk c V (117 + 3) 0 0 := rfl
  by_cases hs : snd_ x ∧ snd_ y
  · rw [hs1 hs]
    obtain ⟨px, py, p1, p2, p3, p4, p5, p6⟩ := A1 hs
    have n1 : ¬ (1 : Int32) = 0 := by decide
    refine s_LW_law_788 B ax (E + 1) u _ _ _ _ _ _ _ _ 1 σ μ Q ⟨fun z => absurd z n1, fun _ => ?_⟩
    refine s_LW_law_800 B ax (E + 1) u _ _ _ _ _ _ _ _ 1 0 σ μ Q ⟨fun z => absurd z n1, fun _ => ⟨rfl, ?_⟩⟩
    rw [← p3, ← p4]
    refine x_same (by omega) hX p1 p2 _ (fun hsm => ⟨fun _ => ?_, fun z => absurd z n1⟩) (fun hns => ⟨fun z => absurd rfl z, fun _ => ?_⟩)
    · rw [p4]
      refine s_LW_law_822 B ax (E + 1) u _ _ _ _ _ _ _ _ σ μ Q ?_
      refine t823 B ax hE hQ hwf hk h2 (b := xdN y) (wt := 0) y9 false (ef.trans (p5 hsm)) (fun c2 r1 r2 => ?_) h96 hu hC hX
      obtain ⟨B1, B0⟩ := lk_rec1 (m := 116) w v hT2 r1 hF hx hd hwf hxm hym r2
      obtain ⟨qx, qy, q1, q2, q3, q4, q5, q6⟩ := B1 hs
      have e1 : qx = px := w.road1 V.1 _ _ q1 p1 q1 p1 (q3.trans p3.symm)
      have e2 : qy = py := w.road1 V.1 _ _ q2 p2 q2 p2 (q4.trans p4.symm)
      rw [e1, e2] at q5
      exact (q5 hsm).trans (ef.trans (p5 hsm)).symm
    · rw [p4]
      refine t823 B ax hE hQ hwf hk h2 (b := xdN y) (wt := 0) y9 true (ef.trans (p6 hns)) (fun c2 r1 r2 => ?_) h96 hu hC hX
      obtain ⟨B1, B0⟩ := lk_rec1 (m := 116) w v hT2 r1 hF hx hd hwf hxm hym r2
      obtain ⟨qx, qy, q1, q2, q3, q4, q5, q6⟩ := B1 hs
      have e1 : qx = px := w.road1 V.1 _ _ q1 p1 q1 p1 (q3.trans p3.symm)
      have e2 : qy = py := w.road1 V.1 _ _ q2 p2 q2 p2 (q4.trans p4.symm)
      rw [e1, e2] at q6
      exact (q6 hns).trans (ef.trans (p6 hns)).symm
  · rw [hs0 hs]
    refine s_LW_law_788 B ax (E + 1) u _ _ _ _ _ _ _ _ 0 σ μ Q ⟨fun _ => ?_, fun z => absurd rfl z⟩
    refine s_LW_law_800 B ax (E + 1) u _ _ _ _ _ _ _ _ 0 1 σ μ Q ⟨fun _ => ?_, fun z => absurd rfl z⟩
    refine s_LW_law_822 B ax (E + 1) u _ _ _ _ _ _ _ _ σ μ Q ?_
    refine t823 B ax hE hQ hwf hk h2 (b := xdN y) (wt := 1) y9 false (ef.trans (A0 hs)) (fun c2 r1 r2 => ?_) h96 hu hC hX
    obtain ⟨B1, B0⟩ := lk_rec1 (m := 116) w v hT2 r1 hF hx hd hwf hxm hym r2
    exact (B0 hs).trans (ef.trans (A0 hs)).symm
theorem xrl_len {fs : List XD} {w : List Nat} (hw : dOK w) : (xrl fs w).length ≤ 8 * fs.length + 5 := by
  have hxl : ∀ l : List XD, (xls l).length ≤ 8 * l.length := by
    intro l
    induction l with
    | nil => exact Nat.le_refl _
    | cons x r ih =>
      have h1 : (xlt x).length ≤ 8 := by
        have h2 : (xkl (xdQ x) (xdL x) (xdH x)).length ≤ 6 := by
          unfold xkl
          split
          · exact Nat.le_of_ble_eq_true rfl
          · split
            · exact Nat.le_of_ble_eq_true rfl
            · exact Nat.le_of_ble_eq_true rfl
        have e : xlt x = (if xdR x = 1 then [46] else []) ++ [96 + xdN x] ++ xkl (xdQ x) (xdL x) (xdH x) := rfl
        rw [e, List.length_append, List.length_append]
        split
        · show 1 + 1 + _ ≤ 8; omega
        · show 0 + 1 + _ ≤ 8; omega
      show (xlt x ++ xls r).length ≤ 8 * (r.length + 1)
      rw [List.length_append]
      omega
  have h1 := hxl fs
  have h2 : (depL w).length ≤ 3 := by
    rcases hw with e | ⟨a, b, e, a1, a2, b1, b2⟩
    · rw [e]; exact Nat.zero_le _
    · rw [e, depL_one a2 b2]; exact Nat.le_refl _
  have e : (xrl fs w).length = 1 + (xls fs).length + ((depL w).length + 1) := by simp [xrl]; omega
  rw [e]
  omega
theorem t680 (B : dB) (ax : Nat → Nat) {E : Nat} (hE : 300 ≤ E) {Q : dQ} (hQ : ∀ σ μ, Q (some (.int 1)) σ μ) {dx : Nat} {T : Tr (dx + 1)} (hwf : twf (dx + 1) T) (hT2 : trK T = 2) {V V1 : VT} (v : VF dx V T) {c0 c1 : CT} {fs : List XD} {w : List Nat} (hF : FOK (trC T) fs) (hk : FSK fs w) (hw1 : 0 < fs.length → ∃ x ∈ fs, ∃ y ∈ fs, w = [10 * xdN x + xdN y]) (hw0 : fs.length = 0 → w = []) {a5 a7 : Nat} {G : Nat → Prop} {u : Nat} (hu : 1000 ≤ u) {μ : dW} (hC : CL μ G 3 a5 (xall fs w)) {gw : Nat → Int32} (h7 : μ a7 = some (eA 1 6 gw)) (hgw : ∀ x ∈ fs, (snd_ x → gw (xdN x) = 1) ∧ (¬ snd_ x → gw (xdN x) = 0)) {σ : sS} (hX : XL σ V1 c1 (some (V, c0)) []) : DJ B ax (E + 1 + 1) u y_LW_law 680 [(1, .ref (ax 0)), (4, .int (nI V.1)), (5, .ref a5), (6, .int (nI (sumf xal fs))), (7, .ref a7), (9, .int (nI (sumf xlc fs))), (10, .int (nI (sumf (xmo fs) (trC T)))), (11, .int (nI fs.length))] [] σ μ Q := by
  obtain ⟨hx, hd, hw, hM, hl⟩ := id hk
  refine s_LW_law_680 B ax (E + 1) u _ _ _ _ _ _ _ _ σ μ Q ⟨rfl, x_on (by omega) hX _ (fun σ1 hX1 => ⟨fun _ => ⟨by show 3 ≤ u; omega, fun q1 hq1 => ⟨401, by omega, ?_⟩⟩, fun z => absurd rfl z⟩)⟩
  have hC1 : CL (dset μ q1 (eO 6 (dfl 6))) (fun x => G x ∧ μ x ≠ none) 3 a5 (xall fs w) := hC.nn.kept (fun _ z => z) (fun q hq _ => dset_ne _ _ (fun z => hq.2 (z ▸ hq1)))
  refine c_TP_init B ax E 401 (Nat.le_refl _) (dset_same _ _ _) _ (fun ca μ2 hca hT k2 => ?_)
  have hcaq : ca ≠ q1 := fun z => by rw [z, dset_same] at hca; cases hca
  have hca0 : μ ca = none := by rw [dset_ne _ _ hcaq] at hca; exact hca
  have n1 : ¬ (G q1 ∧ μ q1 ≠ none) := fun z => z.2 hq1
  have n2 : ¬ (G ca ∧ μ ca ≠ none) := fun z => z.2 hca0
  have st : ∀ μ' μ'' : dW, CL μ' (fun x => G x ∧ μ x ≠ none) 3 a5 (xall fs w) → (∀ q, q ≠ q1 → q ≠ ca → μ'' q = μ' q) → CL μ'' (fun x => G x ∧ μ x ≠ none) 3 a5 (xall fs w) := fun μ' μ'' h g => h.kept (fun _ z => z) (fun q hq _ => g q (fun z => n1 (z ▸ hq)) (fun z => n2 (z ▸ hq)))
  have hC2 := st _ _ hC1 k2
  refine ⟨hC2.obj, 0, Nat.zero_le _, c_CK_tell B ax 3 (E + 1) 0 hC2 (kwf_xall hx hl (hw.ok hx)) hT n1 n2 (by omega) ?_ _ (fun μ4 hT4 k4 => ?_)⟩
  · -- so long at most
    rw [klet_xall w hx]
    have := xrl_len (fs := fs) (hw.ok hx)
    simp only [List.length_nil]
    omega
  have eL : ([] : List Nat) ++ klet 3 (xall fs w) = xrl fs w := by rw [List.nil_append, klet_xall w hx]
  rw [eL] at hT4
  have hC4 := st _ _ hC2 k4
  have h74 : μ4 a7 = some (eA 1 6 gw) := by
    have m1 : a7 ≠ q1 := fun z => by rw [z, hq1] at h7; cases h7
    have m2 : a7 ≠ ca := fun z => by rw [z, hca0] at h7; cases h7
    rw [k4 a7 m1 m2, k2 a7 m1 m2, dset_ne _ _ m1]
    exact h7
  obtain ⟨f, p1, p2, p3, p4⟩ := id hT4
  refine ⟨_, _, p1, rfl, fun h => ⟨hT4.obj, 0, Nat.zero_le _, ?_⟩, fun _ => ⟨Or.inr rfl, hQ _ _⟩⟩
  obtain ⟨c, t1, t2, t3⟩ := ctold_rec hx hd hw hM (by omega : fs.length ≤ 20)
  have hlen400 : (xrl fs w).length < 2 ^ 31 := by have := xrl_len (fs := fs) (hw.ok hx); omega
  have h96 : (xrl fs w).length ≤ 96 := by
    rw [lit 96, i32_lt (by omega) hlen400] at h
    omega
  refine c_TP_putc B ax hT4 h96 (xrl_small hx (hw.ok hx)) t1 hX1 E 0 hE _ (fun σ2 hX2 => ⟨hC4.obj, 0, Nat.zero_le _, c_CK_many B ax 3 (E + 1) 0 hC4 (kwf_xall hx hl (hw.ok hx)) (by omega) _ ?_⟩)
  rw [ksz_xall]
  refine ⟨fun _ => ⟨fun h0 => ?_, fun h0 => ?_⟩, fun z => absurd rfl z⟩
  · -- nothing hangs on two
    have e0 : fs.length = 0 := by
      rcases Nat.eq_zero_or_pos fs.length with y | y
      · exact y
      · exact absurd (nI_lt y (by omega) : nI 0 < nI fs.length) h0
    have ew := hw0 e0
    subst ew
    have ef : fl c V = (xF0 T fs, 0) := lk_rec0 (m := 117) hX2.wv v hT2 t2 hF hx t3
    have hl13 := xF0_le hwf hl
    obtain ⟨c6, c7, c9⟩ := xF0_cnt T fs
    refine t865 B ax hE hQ hk (v.2.1.trans hT2) (al := sumf xal fs) (lc := sumf xlc fs) (mo := sumf (xmo fs) (trC T)) (ul := 0) (wt := 0) (by rw [ef]; show (xF0 T fs).length < 99; omega) (by rw [ef]; exact xF0_len T fs) (by rw [ef]) (by rw [ef]; exact c6) (by rw [ef]; exact c7) (by rw [ef]; exact c9) (fun c2 r1 r2 => ?_) h96 (by omega) hC4 hX2
    rw [ef]
    exact lk_rec0 (m := 116) hX2.wv v hT2 r1 hF hx r2
  · have e0 : 0 < fs.length := by
      rcases Nat.eq_zero_or_pos fs.length with y | y
      · rw [y] at h0; exact absurd h0 (by decide)
      · exact y
    obtain ⟨x, hxm, y, hym, ew⟩ := hw1 e0
    subst ew
    have hC4' := hC4
    obtain ⟨bb, cc, ee, gg, ww, hh, z1, f1, f2, f3, f4, z2, z3, z4, z5, z6⟩ := hC4'
    have ewl : (ckW (xall fs [10 * xdN x + xdN y])).length = 1 := rfl
    rw [ewl] at z4
    have e5 : ww 0 = nI (10 * xdN x + xdN y) := z5 0 _ rfl
    have hxx := hx x hxm
    have hyy := hx y hym
    have x5 := hxx.2.1
    have y5 := hyy.2.1
    have d1 : nI (10 * xdN x + xdN y) / 10 = nI (xdN x) := by
      rw [lit 10, pk_div (by omega) (by omega) (by omega)]
      congr 1
      omega
    have d2 : nI (10 * xdN x + xdN y) - nI (10 * xdN x + xdN y) / 10 * 10 = nI (xdN y) := by
      rw [lit 10, pk_rem (by omega) (by omega) (by omega)]
      congr 1
      omega
    have c0' : (Int32.toNatClampNeg 0) = 0 := rfl
    have vp0 : vp_in 0 1 := (show vp_in (nI 0) 1 from vp_in_nI (by omega) (by omega))
    refine ⟨_, ee, z1, rfl, 1, ww, z4, vp0, by decide, _, ee, z1, rfl, 1, ww, z4, vp0, by decide, 6, gw, h74, ?_⟩
    rw [c0', e5, d2, d1, nI_clamp (by omega)]
    refine ⟨vp_in_nI (by omega) (by omega), fun g0 => ?_, fun g1 => ?_⟩
    · have ns : ¬ snd_ x := fun z => by rw [(hgw x hxm).1 z] at g0; exact absurd g0 (by decide)
      refine s_LW_law_787 B ax (E + 1) _ _ _ _ _ _ _ _ _ σ2 μ4 Q ?_
      exact t788 B ax hE hQ hwf hT2 v hF hxm hym hk t2 t3 h96 (by omega) hC4 hX2 0 (fun z => absurd z.1 ns) (fun _ => rfl)
    · have sx : snd_ x := Classical.byContradiction (fun z => g1 ((hgw x hxm).2 z))
      refine ⟨6, gw, h74, ?_⟩
      rw [nI_clamp (by omega)]
      refine ⟨vp_in_nI (by omega) (by omega), fun g0 => ?_, fun g2 => ?_⟩
      · have ns : ¬ snd_ y := fun z => by rw [(hgw y hym).1 z] at g0; exact absurd g0 (by decide)
        refine s_LW_law_787 B ax (E + 1) _ _ _ _ _ _ _ _ _ σ2 μ4 Q ?_
        exact t788 B ax hE hQ hwf hT2 v hF hxm hym hk t2 t3 h96 (by omega) hC4 hX2 0 (fun z => absurd z.2 ns) (fun _ => rfl)
      · have sy : snd_ y := Classical.byContradiction (fun z => g2 ((hgw y hym).2 z))
        exact t788 B ax hE hQ hwf hT2 v hF hxm hym hk t2 t3 h96 (by omega) hC4 hX2 1 (fun _ => rfl) (fun z => absurd ⟨sx, sy⟩ z)
