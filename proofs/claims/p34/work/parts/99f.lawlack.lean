/-! the law: the names that lack -/
theorem P3.new {μ : dW} {a5 a7 a8 q : Nat} (h5 : μ a5 ≠ none) (h7 : μ a7 ≠ none) (h8 : μ a8 ≠ none) (hq : μ q = none) : P3 a5 a7 a8 q := ⟨fun z => h5 (z ▸ hq), fun z => h7 (z ▸ hq), fun z => h8 (z ▸ hq)⟩
theorem sumf_snoc {α : Type} (f : α → Nat) (l : List α) (x : α) : sumf f (l ++ [x]) = sumf f l + f x := by rw [sumf_app]; simp [sumf]
theorem t431 (B : dB) (ax : Nat → Nat) (hB : B.2.1 < 2 ^ 31) {E : Nat} (hE : 300 ≤ E) {Q : dQ} (hQ : ∀ σ μ, Q (some (.int 1)) σ μ) {dx : Nat} {T : Tr (dx + 1)} (hwf : twf (dx + 1) T) (hT2 : trK T = 2) {V V1 : VT} (v : VF dx V T) {c0 c1 : CT} {a2 a5 a7 a8 : Nat} {gw gt : Nat → Int32} {σ : sS} (hX : XL σ V1 c1 (some (V, c0)) []) : ∀ (m n u : Nat) (fs : List XD) (μ : dW), n + m = 6 → 1 ≤ n → FOK (trC T) fs → FSB fs → fs.length + m ≤ 9 → (∀ x ∈ fs, xdQ x ≤ 1 ∨ xdN x < n) → 1100 + 40 * m ≤ u → VL μ (P3 a5 a7 a8) (dx + 1) a2 T → AL μ (P3 a5 a7 a8) a5 fs → μ a7 = some (eA 1 6 gw) → BS gw snd_ fs → μ a8 = some (eA 1 6 gt) → BS gt (fun x => xdQ x ≤ 1) fs → DJ B ax (E + 1 + 1) u y_LW_law 431 [(0, .ref B.1), (1, .ref (ax 0)), (2, .ref a2), (4, .int (nI V.1)), (5, .ref a5), (6, .int (nI (sumf xal fs))), (7, .ref a7), (8, .ref a8), (9, .int (nI (sumf xlc fs))), (10, .int (nI n))] [] σ μ Q := by
  have hP : ¬ P3 a5 a7 a8 a5 := fun z => z.1 rfl
  intro m
  induction m with
  | zero =>
    intro n u fs μ hn hn1 hF hb hl hnew hu hv hA h7 hgw h8 hgt
    have en : n = 6 := by omega
    subst en
    have hv' := hv
    obtain ⟨b, c, g, h, h1, f1, f2, f3, h2, h3, hk⟩ := hv'
    refine s_LW_law_431 B ax (E + 1) u _ _ _ _ _ _ _ _ _ _ σ μ Q ⟨fun _ => ⟨_, b, h1, rfl, 0, _, g, h2, Nat.zero_le _, ?_⟩, fun z => absurd z (by decide)⟩
    exact t566 B ax hB hE hQ hwf hT2 v hF hb (by omega) (by omega) hA h7 hgw h8 hgt h2 (fun j q hj => (hk j q hj).1) hX (trC T).length 0 (by omega)
  | succ m ih =>
    intro n u fs μ hn hn1 hF hb hl hnew hu hv hA h7 hgw h8 hgt
    -- on to the next name
    have go543 : ∀ (u' : Nat) (fs' : List XD) (μ' : dW) (s : Int32), FOK (trC T) fs' → FSB fs' → fs'.length + m ≤ 9 → (∀ x ∈ fs', xdQ x ≤ 1 ∨ xdN x < n + 1) → 1100 + 40 * m ≤ u' → VL μ' (P3 a5 a7 a8) (dx + 1) a2 T → AL μ' (P3 a5 a7 a8) a5 fs' → μ' a7 = some (eA 1 6 gw) → BS gw snd_ fs' → μ' a8 = some (eA 1 6 gt) → BS gt (fun x => xdQ x ≤ 1) fs' → sumf xal fs' = sumf xal fs → s = nI (sumf xlc fs') → DJ B ax (E + 1 + 1) u' y_LW_law 543 [(0, .ref B.1), (1, .ref (ax 0)), (2, .ref a2), (4, .int (nI V.1)), (5, .ref a5), (6, .int (nI (sumf xal fs))), (7, .ref a7), (8, .ref a8), (9, .int s), (10, .int (nI n))] [] σ μ' Q := by
      intro u' fs' μ' s b1 b2 b3 b4 b5 b6 b7 b8 b9 b10 b11 ea es
      refine s_LW_law_543 B ax (E + 1) u' _ _ _ _ _ _ _ _ _ _ σ μ' Q ?_
      rw [nI_s1, es, ← ea]
      exact ih (n + 1) u' fs' μ' (by omega) (by omega) b1 b2 b3 b4 b5 b6 b7 b8 b9 b10 b11
    have stay : ∀ u', 1100 + 40 * m ≤ u' → DJ B ax (E + 1 + 1) u' y_LW_law 543 [(0, .ref B.1), (1, .ref (ax 0)), (2, .ref a2), (4, .int (nI V.1)), (5, .ref a5), (6, .int (nI (sumf xal fs))), (7, .ref a7), (8, .ref a8), (9, .int (nI (sumf xlc fs))), (10, .int (nI n))] [] σ μ Q := fun u' h =>
      go543 u' fs μ _ hF hb (by omega) (fun x hx => (hnew x hx).imp id (fun z => by omega)) h hv hA h7 hgw h8 hgt rfl rfl
    obtain ⟨gt1, gt0⟩ := hgt n (by omega)
    refine s_LW_law_431 B ax (E + 1) u _ _ _ _ _ _ _ _ _ _ σ μ Q ⟨fun z => absurd (nI_lt (by omega) (by omega) : nI n < nI 6) z, fun _ => ⟨6, gt, h8, vp_in_nI (by omega) (by omega), ?_⟩⟩
    rw [nI_clamp (by omega)]
    refine ⟨fun _ => stay u (by omega), fun z0 => ⟨hv.obj, 0, Nat.zero_le _, c_VA_field B ax dx (E + 1) 0 hv hwf n (by omega) _ (fun hno => ⟨fun _ => ⟨0, Nat.zero_le _, ?_⟩, fun b8 e => (by cases e), Or.inl rfl⟩) (fun b8 _ => ⟨fun e => by (cases e), fun _ _ => stay _ (by omega), Or.inr ⟨b8, rfl⟩⟩)⟩⟩
    -- it is in no field yet
    have hnot : ∀ y ∈ fs, xdN y ≠ n := fun y hy e => by
      rcases hnew y hy with z | z
      · have := gt1 ⟨y, hy, z, e⟩
        rw [this] at z0
        exact absurd z0 (by decide)
      · omega
    have e514 : ∀ R, R ≤ 1 → ∀ u', 1100 + 40 * m + 40 ≤ u' → DJ B ax (E + 1 + 1) u' y_LW_law 514 [(0, .ref B.1), (1, .ref (ax 0)), (2, .ref a2), (4, .int (nI V.1)), (5, .ref a5), (6, .int (nI (sumf xal fs))), (7, .ref a7), (8, .ref a8), (9, .int (nI (sumf xlc fs))), (10, .int (nI n)), (11, .int (nI R))] [.int (nI (10 * R)), .int (nI n), .ref a5] σ μ Q := by
      intro R hR u' hu'
      obtain ⟨x, ex⟩ : ∃ x : XD, x = (n, R, 2, 0, 0, 0, 0) := ⟨_, rfl⟩
      have xN : xdN x = n := by rw [ex]
      have xR : xdR x = R := by rw [ex]
      have xQ : xdQ x = 2 := by rw [ex]
      refine s_LW_law_514 B ax (E + 1) u' _ _ _ _ _ _ _ _ _ _ _ _ _ a5 σ μ Q ⟨by show 7 ≤ u'; omega, fun q1 hq1 => ⟨3, by omega, c_CK_init B ax E 3 (Nat.le_refl _) 42 (dset_same _ _ _) _ (fun μ2 b c e g w h fb fc fe hO k2 => ?_)⟩⟩
      have x2 : ∀ q, μ q ≠ none → μ2 q = μ q := fun q hq => by
        have nq : q ≠ q1 := fun z => hq (z ▸ hq1)
        rw [k2 q nq (by rw [dset_ne _ _ nq]; exact hq), dset_ne _ _ nq]
      have fr : ∀ q, dset μ q1 (eO 8 (dfl 8)) q = none → μ q = none := fun q hq => by
        have nq : q ≠ q1 := fun z => by rw [z, dset_same] at hq; cases hq
        rw [dset_ne _ _ nq] at hq
        exact hq
      obtain ⟨f5, hf5⟩ := hA.obj
      have pn : ∀ q, μ q = none → P3 a5 a7 a8 q := fun q hq => P3.new (ne_none hf5) (ne_none h7) (ne_none h8) hq
      have hO : OC8 μ2 q1 (nI 42) (nI 0) (nI 0) b c e 0 0 g w h := hO
      have hC : CL μ2 (P3 a5 a7 a8) 2 q1 (xck x) := by
        unfold xck
        rw [if_neg (by omega), if_neg (by omega)]
        exact CL_leaf (d := 1) hO (pn _ hq1) (pn _ (fr _ fb)) (pn _ (fr _ fc)) (pn _ (fr _ fe))
      have hA2 : AL μ2 (P3 a5 a7 a8) a5 fs := hA.kept (fun q hq _ => x2 q hq) (fun q _ hq => x2 q hq)
      have hA2o := hA2.obj
      refine ⟨hA2o, 30, by omega, hA2.with hP x hC (by omega) (by omega) _ (by rw [nI_add, xN, xR]) _ (fun μ3 hA3 k3 => ?_)⟩
      have n7 : a7 ≠ a5 := fun z => by rw [z, hf5] at h7; cases h7
      have n8 : a8 ≠ a5 := fun z => by rw [z, hf5] at h8; cases h8
      have h72 : μ2 a7 = some (eA 1 6 gw) := (x2 a7 (ne_none h7)).trans h7
      have h82 : μ2 a8 = some (eA 1 6 gt) := (x2 a8 (ne_none h8)).trans h8
      have fin : ∀ s : Nat, s = xlc x → DJ B ax (E + 1 + 1) (u' - 7 - 3 - 30) y_LW_law 540 [(0, .ref B.1), (1, .ref (ax 0)), (2, .ref a2), (4, .int (nI V.1)), (5, .ref a5), (6, .int (nI (sumf xal fs))), (7, .ref a7), (8, .ref a8), (10, .int (nI n))] [.int (nI s), .int (nI (sumf xlc fs))] σ μ3 Q := by
        intro s hs
        refine s_LW_law_540 B ax (E + 1) _ _ _ _ _ _ _ _ _ _ _ _ σ μ3 Q ?_
        rw [nI_add]
        refine go543 _ (fs ++ [x]) μ3 _ (fun y hy => ?_) (hb.snoc ⟨by omega, by omega, by omega, by rw [ex]; exact Nat.le_refl _, by rw [ex]; exact Nat.zero_le _⟩ (fun y hy => by rw [xN]; exact hnot y hy)) (by rw [List.length_append, List.length_singleton]; omega) (fun y hy => ?_) (by omega) ?_ hA3 ?_ (hgw.same (fun z => by have := z.1; omega)) ?_ (hgt.same (show ¬ xdQ x ≤ 1 by omega)) ?_ (by rw [sumf_snoc, hs])
        · rcases List.mem_append.mp hy with hy | hy
          · exact hF y hy
          · rw [List.mem_singleton] at hy
            subst hy
            refine ⟨fun z => absurd z (by omega), fun _ => ⟨xQ, fun q hq => ?_⟩⟩
            rw [xN]
            exact hno q hq
        · rcases List.mem_append.mp hy with hy | hy
          · exact (hnew y hy).imp id (fun z => by omega)
          · rw [List.mem_singleton] at hy
            subst hy
            exact Or.inr (by omega)
        · exact hv.kept (fun _ z => z) (fun q hq hn => by
            have e2 := x2 q hn
            rw [k3 q hq.1 (by rw [e2]; exact hn), e2])
        · rw [k3 a7 n7 (ne_none h72)]; exact h72
        · rw [k3 a8 n8 (ne_none h82)]; exact h82
        · have e0 : xal x = 0 := by unfold xal; rw [if_neg (by omega)]
          rw [sumf_snoc, e0]
          rfl
      refine ⟨fun z => fin 1 ?_, fun z => fin 0 ?_⟩
      · have e0 : R = 0 := by
          rcases Nat.eq_zero_or_pos R with y | y
          · exact y
          · rw [show R = 1 by omega] at z; exact absurd z (by decide)
        unfold xlc
        rw [if_neg (by omega), if_pos (by omega)]
      · have e0 : ¬ R = 0 := fun y => by rw [y] at z; exact z rfl
        unfold xlc
        rw [if_neg (by omega), if_neg (by omega)]
    rw [lit 47, nI_add]
    refine c_LW_cell B ax hB (E + 1) 0 (47 + n) (by omega) _ (fun r10 => ⟨0, Nat.zero_le _, c_LW_pick B ax (E + 1) 0 r10 3 (by omega) (by omega) _ ⟨fun _ => ⟨0, Nat.zero_le _, ?_⟩, fun _ => stay _ (by omega)⟩⟩)
    refine c_LW_cell B ax hB (E + 1) 0 (47 + n) (by omega) _ (fun r18 => ⟨0, Nat.zero_le _, c_LW_pick B ax (E + 1) 0 _ 2 (by omega) (by omega) _ ⟨fun _ => ?_, fun _ => ?_⟩⟩)
    · refine s_LW_law_497 B ax (E + 1) _ _ _ _ _ _ _ _ _ _ _ 0 σ μ Q ⟨fun _ => ?_, fun z => absurd rfl z⟩
      exact e514 0 (by omega) _ (by omega)
    · refine s_LW_law_497 B ax (E + 1) _ _ _ _ _ _ _ _ _ _ _ 1 σ μ Q ⟨fun z => absurd z (by decide), fun _ => ?_⟩
      exact e514 1 (by omega) _ (by omega)
