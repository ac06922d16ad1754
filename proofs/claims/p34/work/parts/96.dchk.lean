/-! the law's checks: made, grown, counted, told -/
/-- a check's object, open -/
def OC8 (μ : dW) (a : Nat) (s lo hi : Int32) (b c e n m : Nat) (g w : Nat → Int32) (h : Nat → Option Nat) : Prop := μ a = some (eO 8 [.int s, .int lo, .int hi, .ref b, .ref c, .ref e]) ∧ μ b = some (eA 0 n g) ∧ μ c = some (eR 1 n h) ∧ μ e = some (eA 0 m w)
theorem OC8.kept {μ μ' : dW} {a : Nat} {s lo hi : Int32} {b c e n m : Nat} {g w : Nat → Int32} {h : Nat → Option Nat} (H : OC8 μ a s lo hi b c e n m g w h) (x : Ext μ μ') : OC8 μ' a s lo hi b c e n m g w h := ⟨(x a (ne_none H.1)).trans H.1, (x b (ne_none H.2.1)).trans H.2.1, (x c (ne_none H.2.2.1)).trans H.2.2.1, (x e (ne_none H.2.2.2)).trans H.2.2.2⟩
theorem c_CK_init (B : dB) (ax : Nat → Nat) (D u : Nat) (hu : 3 ≤ u) {σ : sS} {μ : dW} {a : Nat} (s : Int32) (ha : μ a = some (eO 8 (dfl 8))) (k : sS → dW → Prop) (hk : ∀ μ' b c e g w h, μ b = none → μ c = none → μ e = none → OC8 μ' a s 0 0 b c e 0 0 g w h → (∀ q, q ≠ a → μ q ≠ none → μ' q = μ q) → k σ μ') : DCJ B ax (D + 1) u y_CK_init [.ref a, .int s] σ μ (qN k) := by
  have e1 : (Int32.toNatClampNeg 0) = 0 := rfl
  refine s_CK_init_0 B ax D u a _ σ μ _ ⟨by decide, by rw [e1]; omega, by decide, fun q1 h1 => ?_⟩
  have n1 : a ≠ q1 := ne_fresh ha h1
  refine ⟨_, (dset_ne _ _ n1).trans ha, by decide, by decide, by rw [e1]; omega, by decide, fun q2 h2 => ?_⟩
  have n2 : q2 ≠ a := fun z => by rw [z, dset_same] at h2; cases h2
  rw [dset_ne _ _ n2] at h2
  have n3 : q2 ≠ q1 := fun z => by rw [z, dset_same] at h2; cases h2
  rw [dset_ne _ _ n3] at h2
  refine ⟨_, (dset_ne _ _ (Ne.symm n2)).trans (dset_same _ _ _), Nat.le_of_ble_eq_true rfl, by decide, by rw [e1]; omega, by decide, fun q5 h5 => ?_⟩
  have n4 : q5 ≠ a := fun z => by rw [z, dset_same] at h5; cases h5
  rw [dset_ne _ _ n4] at h5
  have n5 : q5 ≠ q2 := fun z => by rw [z, dset_same] at h5; cases h5
  rw [dset_ne _ _ n5, dset_ne _ _ n4] at h5
  have n6 : q5 ≠ q1 := fun z => by rw [z, dset_same] at h5; cases h5
  rw [dset_ne _ _ n6] at h5
  refine ⟨_, (dset_ne _ _ (Ne.symm n4)).trans (dset_same _ _ _), Nat.le_of_ble_eq_true rfl, ?_⟩
  refine ⟨_, dset_same _ _ _, Nat.le_of_ble_eq_true rfl, ?_⟩
  refine hk _ q1 q2 q5 (fun _ => 0) (fun _ => 0) (fun _ => none) h1 h2 h5 ⟨?_, ?_, ?_, ?_⟩ (fun q hq hn => ?_)
  · rw [dset_same]; rfl
  · rw [dset_ne _ _ (Ne.symm n1), dset_ne _ _ (Ne.symm n1), dset_ne _ _ (Ne.symm n6), dset_ne _ _ (Ne.symm n1), dset_ne _ _ (Ne.symm n3), dset_ne _ _ (Ne.symm n1), dset_same]; rfl
  · rw [dset_ne _ _ n2, dset_ne _ _ n2, dset_ne _ _ (Ne.symm n5), dset_ne _ _ n2, dset_same]; rfl
  · rw [dset_ne _ _ n4, dset_ne _ _ n4, dset_same]; rfl
  · have m1 : q ≠ q1 := fun z => hn (z ▸ h1)
    have m2 : q ≠ q2 := fun z => hn (z ▸ h2)
    have m5 : q ≠ q5 := fun z => hn (z ▸ h5)
    rw [dset_ne _ _ hq, dset_ne _ _ hq, dset_ne _ _ m5, dset_ne _ _ hq, dset_ne _ _ m2, dset_ne _ _ hq, dset_ne _ _ m1]
theorem c_CK_with (B : dB) (ax : Nat → Nat) (D u : Nat) {σ : sS} {μ : dW} {a y : Nat} {s lo hi : Int32} {b c e n m0 : Nat} {g w : Nat → Int32} {h : Nat → Option Nat} (hO : OC8 μ a s lo hi b c e n m0 g w h) (hh : ∀ i, i < n → ∃ a' fs, h i = some a' ∧ μ a' = some (eO 8 fs)) (hy : ∃ fs, μ y = some (eO 8 fs)) (nm : Int32) (hlen : n ≤ 100) (hu : 2 * (n + 2) ≤ u) (k : Nat → sS → dW → Prop)
    (hk : ∀ μ' b' c' g' h', μ b' = none → μ c' = none → OC8 μ' a s lo hi b' c' e (n + 1) m0 g' w h' → (∀ i, i < n → g' i = g i ∧ h' i = h i) → g' n = nm → h' n = some y → (∀ q, q ≠ a → μ q ≠ none → μ' q = μ q) → k a σ μ') : DCJ B ax D u y_CK_with [.ref a, .int nm, .ref y] σ μ (qR k) := by
  obtain ⟨h1, h2, h3, h4⟩ := hO
  have en : (nI n + 1).toNatClampNeg = n + 1 := by rw [nI_s1, nI_clamp (by omega)]
  refine s_CK_with_0 B ax D u a _ y σ μ _ ⟨_, b, h1, rfl, 0, n, g, h2, Nat.zero_le _, by rw [nI_s1]; exact nI_pos (by omega), by rw [en]; omega, by rw [en]; omega, fun q3 hq3 => ?_⟩
  rw [en]
  have a3 : a ≠ q3 := ne_fresh h1 hq3
  have c3 : c ≠ q3 := ne_fresh h3 hq3
  refine ⟨_, c, (dset_ne _ _ a3).trans h1, rfl, 1, n, h, (dset_ne _ _ c3).trans h3, Nat.le_refl _, by rw [nI_s1]; exact nI_pos (by omega), by rw [en]; omega, by rw [en]; omega, fun q7 hq7 => ?_⟩
  rw [en]
  have n73 : q7 ≠ q3 := fun z => by rw [z, dset_same] at hq7; cases hq7
  rw [dset_ne _ _ n73] at hq7
  have a7 : a ≠ q7 := ne_fresh h1 hq7
  have c7 : c ≠ q7 := ne_fresh h3 hq7
  have b3 : b ≠ q3 := ne_fresh h2 hq3
  have b7 : b ≠ q7 := ne_fresh h2 hq7
  have e3 : e ≠ q3 := ne_fresh h4 hq3
  have e7 : e ≠ q7 := ne_fresh h4 hq7
  have ea : e ≠ a := fun z => by rw [z, h1] at h4; cases h4
  obtain ⟨fy, hy0⟩ := hy
  have y3 : y ≠ q3 := ne_fresh hy0 hq3
  have y7 : y ≠ q7 := ne_fresh hy0 hq7
  have loop : ∀ m j (μ1 : dW) (u1 : Nat) (g3 : Nat → Int32) (h7 : Nat → Option Nat), j + m = n → (∀ q, q ≠ q3 → q ≠ q7 → μ1 q = μ q) → μ1 q3 = some (eA 0 (n + 1) g3) → μ1 q7 = some (eR 1 (n + 1) h7) → (∀ i, i < j → g3 i = g i ∧ h7 i = h i) →
      DJ B ax D u1 y_CK_with 25 [(0, .ref a), (1, .int nm), (2, .ref y), (3, .ref q3), (4, .ref q7), (5, .int (nI j))] [] σ μ1 (qR k) := by
    intro m
    induction m with
    | zero =>
      intro j μ1 u1 g3 h7 hj hq m3 m7 hold
      have ej : j = n := by omega
      subst ej
      have ea1 : μ1 a = _ := (hq a a3 a7).trans h1
      have ec : μ1 c = _ := (hq c c3 c7).trans h3
      refine s_CK_with_25 B ax D u1 a _ y q3 q7 _ σ μ1 _ ⟨_, c, ea1, rfl, 1, _, h, ec, Nat.le_refl _, fun _ => ?_, fun hlt => absurd hlt (nI_nlt (Nat.le_refl _) (by omega))⟩
      refine ⟨_, c, ea1, rfl, 1, _, h, ec, Nat.le_refl _, _, g3, m3, vp_in_nI (by omega) (by omega), ?_⟩
      rw [nI_clamp (by omega)]
      refine ⟨_, c, (dset_ne _ _ a3).trans ea1, rfl, 1, _, h, (dset_ne _ _ c3).trans ec, Nat.le_refl _, ?_⟩
      refine ⟨1, _, h7, fy, (dset_ne _ _ n73).trans m7, Nat.le_refl _, vp_in_nI (by omega) (by omega), (dset_ne _ _ y3).trans ((hq y y3 y7).trans hy0), ?_⟩
      rw [nI_clamp (by omega)]
      refine ⟨_, (dset_ne _ _ a7).trans ((dset_ne _ _ a3).trans ea1), Nat.le_of_ble_eq_true rfl, _, dset_same _ _ _, Nat.le_of_ble_eq_true rfl, ?_⟩
      refine hk _ q3 q7 (upd g3 j nm) (va_up h7 j (some y)) hq3 hq7 ⟨?_, ?_, ?_, ?_⟩ (fun i hi => ⟨?_, ?_⟩) pk_us ?_ (fun q qa qn => ?_)
      · rw [dset_same]; rfl
      · rw [dset_ne _ _ (Ne.symm a3), dset_ne _ _ (Ne.symm a3), dset_ne _ _ (Ne.symm n73), dset_same]
      · rw [dset_ne _ _ (Ne.symm a7), dset_ne _ _ (Ne.symm a7), dset_same]
      · rw [dset_ne _ _ ea, dset_ne _ _ ea, dset_ne _ _ e7, dset_ne _ _ e3, hq e e3 e7]; exact h4
      · rw [pk_un (by omega)]; exact (hold i hi).1
      · show (if i = j then _ else _) = _
        rw [if_neg (by omega)]; exact (hold i hi).2
      · show (if j = j then _ else _) = _
        rw [if_pos rfl]
      · have x3 : q ≠ q3 := fun z => qn (z ▸ hq3)
        have x7 : q ≠ q7 := fun z => qn (z ▸ hq7)
        rw [dset_ne _ _ qa, dset_ne _ _ qa, dset_ne _ _ x7, dset_ne _ _ x3, hq q x3 x7]
    | succ m ih =>
      intro j μ1 u1 g3 h7 hj hq m3 m7 hold
      have ea1 : μ1 a = _ := (hq a a3 a7).trans h1
      have eb : μ1 b = _ := (hq b b3 b7).trans h2
      have ec : μ1 c = _ := (hq c c3 c7).trans h3
      obtain ⟨a', fs, e2, ha0⟩ := hh j (by omega)
      have z3 : a' ≠ q3 := ne_fresh ha0 hq3
      have z7 : a' ≠ q7 := ne_fresh ha0 hq7
      refine s_CK_with_25 B ax D u1 a _ y q3 q7 _ σ μ1 _ ⟨_, c, ea1, rfl, 1, _, h, ec, Nat.le_refl _, fun hno => absurd (nI_lt (by omega) (by omega)) hno, fun _ => ?_⟩
      refine ⟨_, b, ea1, rfl, _, g, eb, vp_in_nI (by omega) (by omega), _, g3, m3, vp_in_nI (by omega) (by omega), ?_⟩
      rw [nI_clamp (by omega)]
      refine ⟨_, c, (dset_ne _ _ a3).trans ea1, rfl, 1, _, h, a', (dset_ne _ _ c3).trans ec, Nat.le_refl _, vp_in_nI (by omega) (by omega), by rw [nI_clamp (by omega)]; exact e2, ?_⟩
      refine ⟨1, _, h7, fs, (dset_ne _ _ n73).trans m7, Nat.le_refl _, vp_in_nI (by omega) (by omega), (dset_ne _ _ z3).trans ((hq a' z3 z7).trans ha0), ?_⟩
      rw [nI_clamp (by omega), nI_s1]
      refine ih (j + 1) _ _ (upd g3 j (g j)) (va_up h7 j (some a')) (by omega) (fun q x3 x7 => ?_) ?_ ?_ (fun i hi => ?_)
      · rw [dset_ne _ _ x7, dset_ne _ _ x3, hq q x3 x7]
      · rw [dset_ne _ _ (Ne.symm n73), dset_same]
      · rw [dset_same]
      · by_cases z : i = j
        · subst z
          refine ⟨pk_us, ?_⟩
          show (if i = i then _ else _) = _
          rw [if_pos rfl, e2]
        · obtain ⟨o1, o2⟩ := hold i (by omega)
          refine ⟨by rw [pk_un z]; exact o1, ?_⟩
          show (if i = j then _ else _) = _
          rw [if_neg z]
          exact o2
  refine loop n 0 _ _ (fun _ => 0) (fun _ => none) (by omega) (fun q x3 x7 => ?_) ?_ ?_ (fun i hi => absurd hi (Nat.not_lt_zero _))
  · rw [dset_ne _ _ x7, dset_ne _ _ x3]
  · rw [dset_ne _ _ (Ne.symm n73), dset_same]
  · rw [dset_same]
theorem c_CK_many (B : dB) (ax : Nat → Nat) {σ : sS} {μ : dW} {F : Nat → Prop} : ∀ (d : Nat) {a : Nat} {t : Ck d} (D u : Nat), CL μ F d a t → kwf d t → d ≤ D → ∀ (k : Int32 → sS → dW → Prop), k (nI (ksz d t)) σ μ → DCJ B ax D u y_CK_many [.ref a] σ μ (qI k)
  | 0, a, t, D, u, h, _, _, _, _ => h.elim
  | d + 1, a, t, 0, u, _, _, hD, _, _ => absurd hD (Nat.not_succ_le_zero d)
  | d + 1, a, t, D + 1, u, hv, hw, hD, k, hk => by
    obtain ⟨b, c, e, g, w, h, h1, f1, f2, f3, f4, h2, h3, h4, h5, h6⟩ := hv
    obtain ⟨w1, w2, w3, w4, w5, w6, w7⟩ := hw
    refine s_CK_many_0 B ax D u a σ μ _ ⟨_, c, h1, rfl, _, _, h, h3, Nat.le_refl _, ?_⟩
    have loop : ∀ m j acc, j + m = (ckC t).length → acc + sumf (fun q => ksz d q.2) ((ckC t).drop j) = ksz (d + 1) t → DJ B ax (D + 1) u y_CK_many 13 [(1, .int (nI acc)), (2, .ref c), (3, .int (nI (ckC t).length)), (4, .int (nI j))] [] σ μ (qI k) := by
      intro m
      induction m with
      | zero =>
        intro j acc hj hs
        have ej : j = (ckC t).length := by omega
        subst ej
        rw [List.drop_length] at hs
        have hs : acc = ksz (d + 1) t := by simpa [sumf] using hs
        refine s_CK_many_13 B ax D u _ c _ _ σ μ _ ⟨fun _ => ?_, fun hlt => absurd hlt (nI_nlt (Nat.le_refl _) (by omega))⟩
        show k (nI acc) σ μ
        rw [hs]
        exact hk
      | succ m ih =>
        intro j acc hj hs
        obtain ⟨q, hq⟩ := at_len hj
        obtain ⟨e1, a', e2, e3⟩ := h6 j q hq
        have hmem := List.mem_of_getElem? hq
        refine s_CK_many_13 B ax D u _ c _ _ σ μ _ ⟨fun hn => absurd (nI_lt (by omega) (by omega)) hn, fun _ => ⟨1, _, h, a', h3, Nat.le_refl _, vp_in_nI (by omega) (by omega), by rw [nI_clamp (by omega)]; exact e2, e3.obj, 0, Nat.zero_le _, c_CK_many B ax d D 0 e3 (w7 q hmem).2.2 (by omega) _ ?_⟩⟩
        show DJ B ax (D + 1) (u - 0) y_CK_many 13 [(1, .int (nI acc + nI (ksz d q.2))), (2, .ref c), (3, .int (nI (ckC t).length)), (4, .int (nI j + 1))] [] σ μ (qI k)
        rw [nI_add, nI_s1]
        refine ih (j + 1) _ (by omega) ?_
        rw [get_drop hq] at hs
        simp only [sumf] at hs
        omega
    exact loop (ckC t).length 0 1 (by omega) (by rw [List.drop_zero]; rfl)
theorem n97r {n : Nat} (h : n < 2 ^ 31) : (97 : Int32) + (nI n - nI n / 10 * 10) - 1 = nI (96 + n % 10) := by
  rw [lit 97, lit 10, pk_rem h (by omega) (by omega), nI_add, lit 1, nI_subm (by omega)]
  congr 1
  omega
theorem n97q {n : Nat} (h : n < 2 ^ 31) : (97 : Int32) + (nI n / 10 - nI n / 10 / 10 * 10) - 1 = nI (96 + n / 10 % 10) := by
  rw [lit 97, lit 10, pk_div h (by omega) (by omega), pk_rem (by omega) (by omega) (by omega), nI_add, lit 1, nI_subm (by omega)]
  congr 1
  omega
theorem c_CK_tell (B : dB) (ax : Nat → Nat) {σ : sS} : ∀ (d : Nat) {μ : dW} {F : Nat → Prop} {a : Nat} {t : Ck d} {tp ca : Nat} {L : List Nat} (D u : Nat), CL μ F d a t → kwf d t → TPE μ tp ca L → ¬ F tp → ¬ F ca → d ≤ D → L.length + (klet d t).length ≤ 400 → ∀ (k : sS → dW → Prop), (∀ μ', TPE μ' tp ca (L ++ klet d t) → (∀ q, q ≠ tp → q ≠ ca → μ' q = μ q) → k σ μ') → DCJ B ax D u y_CK_tell [.ref a, .ref tp] σ μ (qN k)
  | 0, μ, F, a, t, tp, ca, L, D, u, h, _, _, _, _, _, _, _, _ => h.elim
  | d + 1, μ, F, a, t, tp, ca, L, 0, u, _, _, _, _, _, hD, _, _, _ => absurd hD (Nat.not_succ_le_zero d)
  | d + 1, μ, F, a, t, tp, ca, L, D + 1, u, hv, hw, hT, n1, n2, hD, hlen, k, hk => by
    obtain ⟨b, c, e, g, w, h, h1, f1, f2, f3, f4, h2, h3, h4, h5, h6⟩ := hv
    obtain ⟨w1, w2, w3, w4, w5, w6, w7⟩ := hw
    have ne : ∀ q, F q → q ≠ tp ∧ q ≠ ca := fun q hq => ⟨fun e => n1 (e ▸ hq), fun e => n2 (e ▸ hq)⟩
    have kp : ∀ μ1 : dW, (∀ q, q ≠ tp → q ≠ ca → μ1 q = μ q) → μ1 a = some (eO 8 [.int (nI (ckS t)), .int (nI (ckL t)), .int (nI (ckH t)), .ref b, .ref c, .ref e]) ∧ μ1 b = some (eA 0 (ckC t).length g) ∧ μ1 c = some (eR 1 (ckC t).length h) ∧ μ1 e = some (eA 0 (ckW t).length w) := fun μ1 z => ⟨by rw [z a (ne a f1).1 (ne a f1).2]; exact h1, by rw [z b (ne b f2).1 (ne b f2).2]; exact h2, by rw [z c (ne c f3).1 (ne c f3).2]; exact h3, by rw [z e (ne e f4).1 (ne e f4).2]; exact h4⟩
    have chain : ∀ μ1 μ2 : dW, (∀ q, q ≠ tp → q ≠ ca → μ1 q = μ q) → (∀ q, q ≠ tp → q ≠ ca → μ2 q = μ1 q) → ∀ q, q ≠ tp → q ≠ ca → μ2 q = μ q := fun μ1 μ2 x y q q1 q2 => (y q q1 q2).trans (x q q1 q2)
    generalize hE : (if ckS t = 123 then [125] else ([] : List Nat)) = Ez at *
    -- dependents and the end
    have st186 : ∀ m j μ1 L1 (u1 : Nat), j + m = (ckW t).length → TPE μ1 tp ca L1 → (∀ q, q ≠ tp → q ≠ ca → μ1 q = μ q) → L1.length + (depL ((ckW t).drop j) ++ Ez).length ≤ 400 →
        (∀ μ', TPE μ' tp ca (L1 ++ (depL ((ckW t).drop j) ++ Ez)) → (∀ q, q ≠ tp → q ≠ ca → μ' q = μ q) → k σ μ') →
        DJ B ax (D + 1) u1 y_CK_tell 186 [(0, .ref a), (1, .ref tp), (2, .ref e), (3, .int (nI (ckW t).length)), (4, .int (nI j))] [] σ μ1 (qN k) := by
      intro m
      induction m with
      | zero =>
        intro j μ1 L1 u1 hj hT1 hq1 hl1 hk1
        obtain ⟨e1, e2, e3, e4⟩ := kp μ1 hq1
        have ej : j = (ckW t).length := by omega
        subst ej
        rw [List.drop_length] at hl1 hk1
        refine s_CK_tell_186 B ax D u1 a tp e _ _ σ μ1 _ ⟨fun _ => ⟨_, _, e1, rfl, fun hn => ?_, fun hp => ⟨hT1.obj, 0, Nat.zero_le _, ?_⟩⟩, fun hlt => absurd hlt (nI_nlt (Nat.le_refl _) (by omega))⟩
        · rw [eq_nI (by omega) 123 (by omega)] at hn
          rw [if_neg hn] at hE
          refine hk1 μ1 ?_ hq1
          rw [← hE]
          simpa [depL] using hT1
        · rw [eq_nI (by omega) 123 (by omega)] at hp
          rw [if_pos hp] at hE
          rw [← hE] at hl1 hk1
          refine c_TP_add B ax D 0 hT1 (by simp [depL] at hl1; omega) 125 _ (fun μ2 t2 q2 => hk1 μ2 ?_ (chain _ _ hq1 q2))
          simpa [depL] using t2
      | succ m ih =>
        intro j μ1 L1 u1 hj hT1 hq1 hl1 hk1
        obtain ⟨e1, e2, e3, e4⟩ := kp μ1 hq1
        obtain ⟨x, hx⟩ := at_len hj
        have hx9 := w6 x (List.mem_of_getElem? hx)
        have hwx := h5 j x hx
        rw [get_drop hx] at hl1 hk1
        simp only [depL, List.append_assoc] at hl1 hk1
        generalize hR : depL ((ckW t).drop (j + 1)) ++ Ez = R at hl1 hk1
        rw [List.length_append] at hl1
        have hl1 : L1.length + (3 + R.length) ≤ 400 := hl1
        have st213 : ∀ s0, s0 = (if 99 < x then 60 else 61) → DJ B ax (D + 1) u1 y_CK_tell 213 [(0, .ref a), (1, .ref tp), (2, .ref e), (3, .int (nI (ckW t).length)), (4, .int (nI j)), (5, .int (nI x))] [.int (nI s0), .ref tp] σ μ1 (qN k) := by
          intro s0 hs0
          refine s_CK_tell_213 B ax D u1 a tp e _ _ _ _ tp σ μ1 _ ⟨hT1.obj, 0, Nat.zero_le _, c_TP_add B ax D 0 hT1 (by omega) s0 _ (fun μ2 t2 q2 => ⟨by decide, by decide, t2.obj, 0, Nat.zero_le _, ?_⟩)⟩
          rw [n97q (by omega)]
          refine c_TP_add B ax D 0 t2 (by rw [List.length_append, List.length_singleton]; omega) _ _ (fun μ3 t3 q3 => ⟨by decide, t3.obj, 0, Nat.zero_le _, ?_⟩)
          rw [n97r (by omega)]
          refine c_TP_add B ax D 0 t3 (by rw [List.length_append, List.length_append, List.length_singleton, List.length_singleton]; omega) _ _ (fun μ4 t4 q4 => ?_)
          show DJ B ax (D + 1) _ y_CK_tell 186 [(0, .ref a), (1, .ref tp), (2, .ref e), (3, .int (nI (ckW t).length)), (4, .int (nI j + 1))] [] σ μ4 (qN k)
          rw [nI_s1]
          refine ih (j + 1) μ4 _ _ (by omega) t4 (chain _ _ (chain _ _ (chain _ _ hq1 q2) q3) q4) ?_ (fun μ' t5 q5 => hk1 μ' ?_ q5)
          · rw [hR, List.length_append, List.length_append, List.length_append, List.length_singleton, List.length_singleton, List.length_singleton]; omega
          · rw [hR] at t5
            rw [← hs0]
            simpa using t5
        refine s_CK_tell_186 B ax D u1 a tp e _ _ σ μ1 _ ⟨fun hn => absurd (nI_lt (by omega) (by omega)) hn, fun _ => ⟨_, w, e4, vp_in_nI (by omega) (by omega), ?_⟩⟩
        rw [nI_clamp (by omega), hwx]
        refine ⟨fun hn => ?_, fun hp => ?_⟩
        · rw [lt_nI (by omega) 99 (by omega)] at hn
          exact st213 61 (by rw [if_neg hn])
        · rw [lt_nI (by omega) 99 (by omega)] at hp
          exact st213 60 (by rw [if_pos hp])
    generalize hDz : depL (ckW t) ++ Ez = Dz at st186
    -- the checks in it
    have st106 : ∀ m j μ1 L1 (u1 : Nat), j + m = (ckC t).length → TPE μ1 tp ca L1 → (∀ q, q ≠ tp → q ≠ ca → μ1 q = μ q) → L1.length + (fldL (fun x => klet d x) ((ckC t).drop j) ++ Dz).length ≤ 400 →
        (∀ μ', TPE μ' tp ca (L1 ++ (fldL (fun x => klet d x) ((ckC t).drop j) ++ Dz)) → (∀ q, q ≠ tp → q ≠ ca → μ' q = μ q) → k σ μ') →
        DJ B ax (D + 1) u1 y_CK_tell 106 [(0, .ref a), (1, .ref tp), (2, .int (nI j))] [] σ μ1 (qN k) := by
      intro m
      induction m with
      | zero =>
        intro j μ1 L1 u1 hj hT1 hq1 hl1 hk1
        obtain ⟨e1, e2, e3, e4⟩ := kp μ1 hq1
        have ej : j = (ckC t).length := by omega
        subst ej
        rw [List.drop_length] at hl1 hk1
        refine s_CK_tell_106 B ax D u1 a tp _ σ μ1 _ ⟨_, c, e1, rfl, 1, _, h, e3, Nat.le_refl _, fun _ => ⟨_, e, e1, rfl, 0, _, w, e4, Nat.zero_le _, ?_⟩, fun hlt => absurd hlt (nI_nlt (Nat.le_refl _) (by omega))⟩
        refine st186 (ckW t).length 0 μ1 L1 _ (by omega) hT1 hq1 ?_ ?_
        · rw [List.drop_zero, hDz]; simpa [fldL] using hl1
        · rw [List.drop_zero, hDz]; simpa [fldL] using hk1
      | succ m ih =>
        intro j μ1 L1 u1 hj hT1 hq1 hl1 hk1
        obtain ⟨e1, e2, e3, e4⟩ := kp μ1 hq1
        obtain ⟨q, hq⟩ := at_len hj
        obtain ⟨g1, a', g2, g3⟩ := h6 j q hq
        obtain ⟨m1, m2, m4⟩ := w7 q (List.mem_of_getElem? hq)
        rw [get_drop hq] at hl1 hk1
        simp only [fldL, List.append_assoc] at hl1 hk1
        generalize hR : fldL (fun x => klet d x) ((ckC t).drop (j + 1)) ++ Dz = R at hl1 hk1
        have st159 : ∀ μ2 L2 (u2 : Nat), TPE μ2 tp ca L2 → (∀ q, q ≠ tp → q ≠ ca → μ2 q = μ q) → L2.length + (klet d q.2 ++ R).length ≤ 400 → (∀ μ', TPE μ' tp ca (L2 ++ (klet d q.2 ++ R)) → (∀ q, q ≠ tp → q ≠ ca → μ' q = μ q) → k σ μ') →
            DJ B ax (D + 1) u2 y_CK_tell 159 [(0, .ref a), (1, .ref tp), (2, .int (nI j))] [] σ μ2 (qN k) := by
          intro μ2 L2 u2 hT2 hq2 hl2 hk2
          obtain ⟨e1, e2, e3, e4⟩ := kp μ2 hq2
          rw [List.length_append] at hl2
          have v2 : CL μ2 F d a' q.2 := g3.kept (fun _ z => z) (fun x hx _ => hq2 x (ne x hx).1 (ne x hx).2)
          refine s_CK_tell_159 B ax D u2 a tp _ σ μ2 _ ⟨_, c, e1, rfl, 1, _, h, a', e3, Nat.le_refl _, vp_in_nI (by omega) (by omega), by rw [nI_clamp (by omega)]; exact g2, v2.obj, 0, Nat.zero_le _, ?_⟩
          refine c_CK_tell B ax d D 0 v2 m4 hT2 n1 n2 (by omega) (by omega) _ (fun μ3 t3 q3 => ?_)
          show DJ B ax (D + 1) _ y_CK_tell 106 [(0, .ref a), (1, .ref tp), (2, .int (nI j + 1))] [] σ μ3 (qN k)
          rw [nI_s1]
          refine ih (j + 1) μ3 _ _ (by omega) t3 (chain _ _ hq2 q3) ?_ (fun μ' t4 q4 => hk2 μ' ?_ q4)
          · rw [hR, List.length_append]; omega
          · rw [hR, List.append_assoc] at t4
            exact t4
        have st132 : ∀ μ2 L2 (u2 : Nat), TPE μ2 tp ca L2 → (∀ q, q ≠ tp → q ≠ ca → μ2 q = μ q) → L2.length + ((if 0 < q.1 then [96 + q.1 % 10] else []) ++ (klet d q.2 ++ R)).length ≤ 400 → (∀ μ', TPE μ' tp ca (L2 ++ ((if 0 < q.1 then [96 + q.1 % 10] else []) ++ (klet d q.2 ++ R))) → (∀ q, q ≠ tp → q ≠ ca → μ' q = μ q) → k σ μ') →
            DJ B ax (D + 1) u2 y_CK_tell 132 [(0, .ref a), (1, .ref tp), (2, .int (nI j))] [] σ μ2 (qN k) := by
          intro μ2 L2 u2 hT2 hq2 hl2 hk2
          obtain ⟨e1, e2, e3, e4⟩ := kp μ2 hq2
          refine s_CK_tell_132 B ax D u2 a tp _ σ μ2 _ ⟨_, b, e1, rfl, _, g, e2, vp_in_nI (by omega) (by omega), ?_⟩
          rw [nI_clamp (by omega), g1]
          refine ⟨fun hn => ?_, fun hp => ⟨_, b, e1, rfl, _, g, e2, vp_in_nI (by omega) (by omega), by decide, hT2.obj, 0, Nat.zero_le _, ?_⟩⟩
          · rw [lt_nI (by omega) 0 (by omega)] at hn
            rw [if_neg hn] at hl2 hk2
            exact st159 μ2 L2 u2 hT2 hq2 hl2 hk2
          · rw [lt_nI (by omega) 0 (by omega)] at hp
            rw [if_pos hp] at hl2 hk2
            rw [List.length_append, List.length_singleton] at hl2
            rw [nI_clamp (by omega), g1, n97r (by omega)]
            refine c_TP_add B ax D 0 hT2 (by omega) _ _ (fun μ3 t3 q3 => ?_)
            refine st159 μ3 _ _ t3 (chain _ _ hq2 q3) ?_ (fun μ' t4 q4 => hk2 μ' ?_ q4)
            · rw [List.length_append, List.length_singleton]; omega
            · rw [List.append_assoc] at t4
              exact t4
        refine s_CK_tell_106 B ax D u1 a tp _ σ μ1 _ ⟨_, c, e1, rfl, 1, _, h, e3, Nat.le_refl _, fun hn => absurd (nI_lt (by omega) (by omega)) hn, fun _ => ⟨_, b, e1, rfl, _, g, e2, vp_in_nI (by omega) (by omega), ?_⟩⟩
        rw [nI_clamp (by omega), g1]
        refine ⟨fun hn => ?_, fun hp => ⟨hT1.obj, 0, Nat.zero_le _, ?_⟩⟩
        · rw [lt_nI (by omega) 10 (by omega)] at hn
          rw [if_neg hn] at hl1 hk1
          exact st132 μ1 L1 _ hT1 hq1 hl1 hk1
        · rw [lt_nI (by omega) 10 (by omega)] at hp
          rw [if_pos hp] at hl1 hk1
          rw [List.length_append, List.length_singleton] at hl1
          refine c_TP_add B ax D 0 hT1 (by omega) 46 _ (fun μ3 t3 q3 => ?_)
          refine st132 μ3 _ _ t3 (chain _ _ hq1 q3) ?_ (fun μ' t4 q4 => hk1 μ' ?_ q4)
          · rw [List.length_append, List.length_singleton]; omega
          · rw [List.append_assoc] at t4
            exact t4
    generalize hFz : fldL (fun x => klet d x) (ckC t) ++ Dz = Fz at st106
    have st104 : ∀ μ1 L1 (u1 : Nat), TPE μ1 tp ca L1 → (∀ q, q ≠ tp → q ≠ ca → μ1 q = μ q) → L1.length + Fz.length ≤ 400 → (∀ μ', TPE μ' tp ca (L1 ++ Fz) → (∀ q, q ≠ tp → q ≠ ca → μ' q = μ q) → k σ μ') → DJ B ax (D + 1) u1 y_CK_tell 104 [(0, .ref a), (1, .ref tp)] [] σ μ1 (qN k) := by
      intro μ1 L1 u1 hT1 hq1 hl1 hk1
      refine s_CK_tell_104 B ax D u1 a tp σ μ1 _ ?_
      refine st106 (ckC t).length 0 μ1 L1 _ (by omega) hT1 hq1 ?_ ?_
      · rw [List.drop_zero, hFz]; exact hl1
      · rw [List.drop_zero, hFz]; exact hk1
    have st73 : ∀ μ1 L1 (u1 : Nat), TPE μ1 tp ca L1 → (∀ q, q ≠ tp → q ≠ ca → μ1 q = μ q) → L1.length + ((if ckS t = 64 then [48 + ckL t, 48 + ckH t] else []) ++ Fz).length ≤ 400 → (∀ μ', TPE μ' tp ca (L1 ++ ((if ckS t = 64 then [48 + ckL t, 48 + ckH t] else []) ++ Fz)) → (∀ q, q ≠ tp → q ≠ ca → μ' q = μ q) → k σ μ') → DJ B ax (D + 1) u1 y_CK_tell 73 [(0, .ref a), (1, .ref tp)] [] σ μ1 (qN k) := by
      intro μ1 L1 u1 hT1 hq1 hl1 hk1
      obtain ⟨e1, e2, e3, e4⟩ := kp μ1 hq1
      refine s_CK_tell_73 B ax D u1 a tp σ μ1 _ ⟨_, _, e1, rfl, fun hn => ?_, fun hp => ⟨_, _, e1, rfl, hT1.obj, 0, Nat.zero_le _, ?_⟩⟩
      · rw [eq_nI (by omega) 64 (by omega)] at hn
        rw [if_neg hn] at hl1 hk1
        exact st104 μ1 L1 u1 hT1 hq1 hl1 hk1
      · rw [eq_nI (by omega) 64 (by omega)] at hp
        rw [if_pos hp] at hl1 hk1
        have hl1 : L1.length + (2 + Fz.length) ≤ 400 := by simpa [Nat.add_comm, Nat.add_left_comm, Nat.add_assoc] using hl1
        rw [lit 48, nI_add]
        refine c_TP_add B ax D 0 hT1 (by omega) _ _ (fun μ2 t2 q2 => ?_)
        obtain ⟨e1', e2', e3', e4'⟩ := kp μ2 (chain _ _ hq1 q2)
        refine ⟨_, _, e1', rfl, t2.obj, 0, Nat.zero_le _, ?_⟩
        rw [nI_add]
        refine c_TP_add B ax D 0 t2 (by rw [List.length_append, List.length_singleton]; omega) _ _ (fun μ3 t3 q3 => ?_)
        refine st104 μ3 _ _ t3 (chain _ _ (chain _ _ hq1 q2) q3) ?_ (fun μ' t4 q4 => hk1 μ' ?_ q4)
        · rw [List.length_append, List.length_append, List.length_singleton, List.length_singleton]; omega
        · simpa using t4
    -- the head
    have eR : klet (d + 1) t = [ckS t] ++ ((if ckS t = 35 then [48 + ckL t / 10, 48 + ckL t % 10, 48 + ckH t / 10, 48 + ckH t % 10] else []) ++ ((if ckS t = 64 then [48 + ckL t, 48 + ckH t] else []) ++ Fz)) := by
      rw [← hFz, ← hDz, ← hE]
      show [ckS t] ++ _ ++ _ ++ _ ++ _ ++ _ = _
      simp only [List.append_assoc]
    rw [eR] at hlen hk
    generalize hR2 : (if ckS t = 64 then [48 + ckL t, 48 + ckH t] else []) ++ Fz = R2 at hlen hk st73
    rw [List.length_append, List.length_singleton] at hlen
    refine s_CK_tell_0 B ax D u a tp σ μ _ ⟨_, _, h1, rfl, hT.obj, 0, Nat.zero_le _, c_TP_add B ax D 0 hT (by omega) _ _ (fun μ1 t1 q1 => ?_)⟩
    obtain ⟨e1, -⟩ := kp μ1 q1
    refine ⟨_, _, e1, rfl, fun hn => ?_, fun hp => ⟨_, _, e1, rfl, by decide, t1.obj, 0, Nat.zero_le _, ?_⟩⟩
    · rw [eq_nI (by omega) 35 (by omega)] at hn
      rw [if_neg hn] at hlen hk
      refine st73 μ1 _ _ t1 q1 ?_ (fun μ' t4 q4 => hk μ' ?_ q4)
      · rw [List.length_append, List.length_singleton]; simp at hlen; omega
      · rw [List.append_assoc] at t4
        exact t4
    · rw [eq_nI (by omega) 35 (by omega)] at hp
      rw [if_pos hp] at hlen hk
      have hlen : L.length + (1 + (4 + R2.length)) ≤ 400 := by simpa [Nat.add_comm, Nat.add_left_comm, Nat.add_assoc] using hlen
      rw [n48 (by omega)]
      refine c_TP_add B ax D 0 t1 (by rw [List.length_append, List.length_singleton]; omega) _ _ (fun μ2 t2 q2 => ?_)
      have z2 := chain _ _ q1 q2
      obtain ⟨e2, -⟩ := kp μ2 z2
      refine ⟨_, _, e2, rfl, by decide, t2.obj, 0, Nat.zero_le _, ?_⟩
      rw [n48r (by omega)]
      refine c_TP_add B ax D 0 t2 (by simp; omega) _ _ (fun μ3 t3 q3 => ?_)
      have z3 := chain _ _ z2 q3
      obtain ⟨e3, -⟩ := kp μ3 z3
      refine ⟨_, _, e3, rfl, by decide, t3.obj, 0, Nat.zero_le _, ?_⟩
      rw [n48 (by omega)]
      refine c_TP_add B ax D 0 t3 (by simp; omega) _ _ (fun μ4 t4 q4 => ?_)
      have z4 := chain _ _ z3 q4
      obtain ⟨e4, -⟩ := kp μ4 z4
      refine ⟨_, _, e4, rfl, by decide, t4.obj, 0, Nat.zero_le _, ?_⟩
      rw [n48r (by omega)]
      refine c_TP_add B ax D 0 t4 (by simp; omega) _ _ (fun μ5 t5 q5 => ?_)
      refine st73 μ5 _ _ t5 (chain _ _ z4 q5) (by simp; omega) (fun μ' t6 q6 => hk μ' ?_ q6)
      simpa using t6
