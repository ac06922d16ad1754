/-! a value that has room -/
theorem kidL_len {α : Type} (k : Nat) (g : α → List Nat) : ∀ (i : Nat) (l : List (Nat × α)), (kidL k g i l).length ≤ sumf (fun q => 1 + (g q.2).length) l
  | i, [] => by simp [kidL, sumf]
  | i, q :: r => by
    have := kidL_len k g (i + 1) r
    simp only [kidL, sumf, List.length_append]
    by_cases h3 : k = 3
    · rw [if_neg (show ¬ k = 2 by omega)]
      split <;> simp <;> omega
    · rw [if_neg (show ¬ (k = 3 ∧ 0 < i) from fun z => h3 z.1)]
      split <;> simp <;> omega
theorem sumf_le2 {α : Type} (f g : α → Nat) : ∀ (l : List α), (∀ q ∈ l, f q ≤ g q) → sumf f l ≤ sumf g l
  | [], _ => by simp [sumf]
  | q :: r, h => by
    have h1 := h q List.mem_cons_self
    have h2 := sumf_le2 f g r (fun x hx => h x (List.mem_cons_of_mem _ hx))
    simp only [sumf]
    omega
theorem sumf_mul {α : Type} (f : α → Nat) (c : Nat) : ∀ (l : List α), sumf (fun q => c * f q) l = c * sumf f l
  | [] => by simp [sumf]
  | q :: r => by simp only [sumf, sumf_mul f c r, Nat.mul_add]
theorem tlet_len : ∀ {d : Nat} {t : Tr d}, twf d t → (tlet d t).length + 1 ≤ 3 * tsz d t
  | 0, _, h => h.elim
  | d + 1, t, h => by
    have h1 := kidL_len (trK t) (fun x => tlet d x) 0 (trC t)
    have h2 := sumf_le2 (fun q => 1 + (tlet d q.2).length) (fun q => 3 * tsz d q.2) (trC t) (fun q hq => by
      have := tlet_len (h.2.2.2.2.2.2.2 q hq).2.2.2
      show 1 + _ ≤ _
      omega)
    rw [sumf_mul] at h2
    have e : (tlet (d + 1) t).length = (hdL (trK t) (trN t)).length + (kidL (trK t) (fun x => tlet d x) 0 (trC t)).length + (tlL (trK t)).length := by
      show (hdL _ _ ++ kidL _ _ _ _ ++ tlL _).length = _
      rw [List.length_append, List.length_append]
    have e2 : (hdL (trK t) (trN t)).length + (tlL (trK t)).length ≤ 2 := by
      unfold hdL tlL
      have hk := h.1
      rcases (show trK t = 0 ∨ trK t = 1 ∨ trK t = 2 ∨ trK t = 3 by omega) with z | z | z | z <;> rw [z] <;> simp
      split <;> simp
    show _ ≤ 3 * (1 + sumf _ _)
    omega
theorem tsz20 {d : Nat} {t : Tr d} (h : twf d t) (hd : d ≤ 5) : tsz d t < 2 ^ 31 := by
  have h1 := tsz_Sb h
  have h2 : Sb d ≤ Sb 5 := by
    rcases (show d = 0 ∨ d = 1 ∨ d = 2 ∨ d = 3 ∨ d = 4 ∨ d = 5 by omega) with rfl | rfl | rfl | rfl | rfl | rfl <;> decide
  have h3 : Sb 5 < 2 ^ 31 := by decide
  omega
theorem Uv3 : ∀ d, d ≤ 3 → Uv d ≤ 10290 := by
  intro d hd
  rcases (show d = 0 ∨ d = 1 ∨ d = 2 ∨ d = 3 by omega) with rfl | rfl | rfl | rfl <;> decide
theorem twf_num {d n : Nat} (hn : n ≤ 99) : twf (d + 1) (trmk 0 n ([] : List (Nat × Tr d))) := ⟨by rw [trK_mk]; omega, fun _ => hn, fun z => absurd rfl z, fun _ => rfl, by rw [trC_mk]; simp, fun z => absurd z (by rw [trK_mk]; decide), fun z => absurd z (by rw [trK_mk]; decide), fun q hq => by rw [trC_mk] at hq; cases hq⟩
set_option maxRecDepth 100000 in
theorem c_LW_fits (B : dB) (ax : Nat → Nat) (hB : B.2.1 < 2 ^ 31) (D u : Nat) (hD : 6 ≤ D) (hu : 33000 ≤ u) {σ : sS} {μ : dW} (k : Nat → sS → dW → Prop) (hk : ∀ (d a : Nat) (μ' : dW) (T : Tr (d + 1)), d ≤ 3 → twf (d + 1) T → tsz (d + 1) T ≤ 20 → VL μ' (fun q => μ q = none) (d + 1) a T → Ext μ μ' → k a σ μ') : DCJ B ax D u y_LW_fits [.ref B.1, .int 0] σ μ (qR k) := by
  obtain ⟨E, rfl⟩ : ∃ E, D = E + 1 := ⟨D - 1, by omega⟩
  refine s_LW_fits_0 B ax E u _ _ σ μ _ ?_
  have loop : ∀ dp, dp ≤ 3 → ∀ μ1 u1, Ext μ μ1 → dp * 10900 + 10 ≤ u1 → DJ B ax (E + 1) u1 y_LW_fits 2 [(0, .ref B.1), (1, .int 0), (2, .int (nI dp))] [] σ μ1 (qR k) := by
    intro dp
    induction dp with
    | zero =>
      intro _ μ1 u1 x1 hu1
      refine s_LW_fits_2 B ax E u1 _ _ _ σ μ1 _ ⟨fun _ => ⟨by show 5 ≤ u1; omega, fun q1 hq1 => ⟨2, by omega, ?_⟩⟩, fun hp => absurd hp (by decide)⟩
      obtain ⟨E', rfl⟩ : ∃ E', E = E' + 1 := ⟨E - 1, by omega⟩
      refine c_VA_init B ax 0 E' 2 0 7 (Nat.le_refl _) (dset_same _ _ _) _ (fun μ2 r2 k2 => ?_)
      have xn := ext_new hq1 (eO 7 (dfl 7))
      refine hk 0 q1 μ2 _ (by omega) (twf_num (by omega)) (by decide) (r2.vl (fun _ z => z.elim) |>.kept (fun q hq => ?_) (fun _ _ _ => rfl)) (fun q hq => ?_)
      · rcases hq with rfl | hq
        · exact x1.fresh hq1
        · exact x1.fresh (xn.fresh hq)
      · have e := x1 q hq
        have qn : q ≠ q1 := fun z => by rw [z, hq1] at e; exact hq (by rw [z]; exact e.symm)
        have e2 := xn q (by rw [e]; exact hq)
        rw [k2 q qn (by rw [e2, e]; exact hq), e2, e]
    | succ dp ih =>
      intro hdp μ1 u1 x1 hu1
      have hU := Uv3 (dp + 1) (by omega)
      have hstep : ∀ μ2 u2, Ext μ μ2 → dp * 10900 + 10 ≤ u2 → DJ B ax (E + 1) u2 y_LW_fits 58 [(0, .ref B.1), (1, .int 0), (2, .int (nI (dp + 1)))] [] σ μ2 (qR k) := by
        intro μ2 u2 x2 hu2
        refine s_LW_fits_58 B ax E u2 _ _ _ σ μ2 _ ?_
        rw [pk_m1]
        exact ih (by omega) μ2 u2 x2 hu2
      have h37 : ∀ (μ2 : dW) (u2 a tp ca : Nat) (L : List Nat) (T : Tr (dp + 1 + 1)), Ext μ μ2 → twf _ T → VL μ2 (fun q => μ q = none) _ a T → TPE μ2 tp ca L → L.length ≤ 400 → dp * 10900 + 10 ≤ u2 → DJ B ax (E + 1) u2 y_LW_fits 37 [(0, .ref B.1), (1, .int 0), (2, .int (nI (dp + 1))), (3, .ref a), (4, .ref tp)] [] σ μ2 (qR k) := by
        intro μ2 u2 a tp ca L T x2 wT vT hT hL hu2
        refine s_LW_fits_37 B ax E u2 _ _ _ a tp σ μ2 _ ⟨vT.obj, 0, Nat.zero_le _, c_VA_size B ax _ E 0 vT wT (by omega) _ ?_⟩
        have hs := tsz20 wT (by omega)
        obtain ⟨f, t1, -⟩ := hT
        refine ⟨fun _ => hstep μ2 _ x2 (by omega), fun h20 => ⟨_, _, t1, rfl, fun _ => hstep μ2 _ x2 (by omega), fun _ => ?_⟩⟩
        rw [lt_nI hs 20 (by omega)] at h20
        exact hk (dp + 1) a μ2 T (by omega) wT (by omega) vT x2
      refine s_LW_fits_2 B ax E u1 _ _ _ σ μ1 _ ⟨fun hn => absurd (nI_lt (by omega) (by omega) : nI 0 < nI (dp + 1)) hn, fun _ => ⟨10290, by omega, ?_⟩⟩
      refine c_LW_value B ax hB (dp + 1) σ μ1 0 E 10290 (by omega) (by omega) (by omega) hU _ (fun a μ2 T wT vT xT => ?_)
      refine ⟨by show 3 ≤ u1 - 10290; omega, fun q1 hq1 => ⟨401, by omega, ?_⟩⟩
      obtain ⟨E', rfl⟩ : ∃ E', E = E' + 1 := ⟨E - 1, by omega⟩
      have xn := ext_new hq1 (eO 6 (dfl 6))
      have x12 := x1.trans xT
      refine c_TP_init B ax E' 401 (Nat.le_refl _) (dset_same _ _ _) _ (fun ca μ3 hca hT3 k3 => ?_)
      have hcaq : ca ≠ q1 := fun z => by rw [z, dset_same] at hca; cases hca
      have hca2 : μ2 ca = none := xn.fresh hca
      have x23 : Ext μ2 μ3 := fun q hq => by
        have n1 : q ≠ q1 := fun z => hq (z ▸ hq1)
        have n2 : q ≠ ca := fun z => hq (z ▸ hca2)
        rw [k3 q n1 n2, dset_ne _ _ n1]
      have vT3 : VL μ3 (fun q => μ q = none ∧ μ2 q ≠ none) (dp + 1 + 1) a T := by
        have v0 : VL μ2 (fun q => μ1 q = none ∧ μ2 q ≠ none) _ a T := VL.nn vT
        exact v0.kept (fun q hq => ⟨x1.fresh hq.1, hq.2⟩) (fun q _ hq => x23 q hq)
      refine ⟨vT3.obj, 0, Nat.zero_le _, c_VA_size B ax _ (E' + 1) 0 vT3 wT (by omega) _ ?_⟩
      have hs := tsz20 wT (by omega)
      refine ⟨fun _ => ?_, fun h20 => ⟨vT3.obj, 0, Nat.zero_le _, ?_⟩⟩
      · exact h37 μ3 _ a q1 ca [] T (x12.trans x23) wT (vT3.kept (fun _ z => z.1) (fun _ _ _ => rfl)) hT3 (by simp) (by omega)
      · rw [lt_nI hs 20 (by omega)] at h20
        have hl := tlet_len wT
        refine c_VA_tell B ax _ (E' + 1) 0 vT3 wT hT3 (fun z => z.2 hq1) (fun z => z.2 hca2) (by omega) (by simp; omega) _ (fun μ4 hT4 k4 => ?_)
        have x34 : ∀ q, μ2 q ≠ none → μ4 q = μ3 q := fun q hq => k4 q (fun z => hq (z ▸ hq1)) (fun z => hq (z ▸ hca2))
        refine h37 μ4 _ a q1 ca _ T (fun q hq => ?_) wT (vT3.kept (fun _ z => z.1) (fun q hq _ => x34 q hq.2)) hT4 (by simp; omega) (by omega)
        have e2 := x12 q hq
        have e3 := x23 q (by rw [e2]; exact hq)
        rw [x34 q (by rw [e2]; exact hq), e3, e2]
  exact loop 3 (by omega) μ u (Ext.refl μ) (by omega)
