/-! the law's top -/
theorem BS.none (R : XD → Prop) : BS (fun _ => 0) R [] := fun n _ => ⟨fun ⟨y, y1, _⟩ => absurd y1 List.not_mem_nil, fun _ => rfl⟩
set_option maxRecDepth 20000 in
theorem t61 (B : dB) (ax : Nat → Nat) (hB : B.2.1 < 2 ^ 31) {E : Nat} (hE : 300 ≤ E) {Q : dQ} (hQ : ∀ σ μ, Q (some (.int 1)) σ μ) {dx : Nat} {T : Tr (dx + 1)} (hwf : twf (dx + 1) T) (hT2 : trK T = 2) (h20 : tsz (dx + 1) T ≤ 20) (hd5 : dx + 1 ≤ 5) {F : Nat → Prop} {a2 u : Nat} {μ : dW} (hv : VL μ F (dx + 1) a2 T) (hu : 8000 ≤ u) {σ : sS} {V1 : VT} {c1 : CT} {im : Option (VT × CT)} (hX : XL σ V1 c1 im []) : DJ B ax (E + 1 + 1) u y_LW_law 61 [(0, .ref B.1), (1, .ref (ax 0)), (2, .ref a2)] [] σ μ Q := by
  have tl := tlet_len hwf
  refine s_LW_law_61 B ax (E + 1) u _ _ _ σ μ Q ⟨by show 3 ≤ u; omega, fun q1 hq1 => ⟨401, by omega, c_TP_init B ax E 401 (Nat.le_refl _) (dset_same _ _ _) _ (fun ca μ6 hca hT6 k6 => ?_)⟩⟩
  have hcaq : ca ≠ q1 := fun z => by rw [z, dset_same] at hca; cases hca
  have hca0 : μ ca = none := by rw [dset_ne _ _ hcaq] at hca; exact hca
  have x6 : Ext μ μ6 := fun z hz => by
    have m1 : z ≠ q1 := fun y => hz (y ▸ hq1)
    have m2 : z ≠ ca := fun y => hz (y ▸ hca0)
    rw [k6 z m1 m2, dset_ne _ _ m1]
  have hvF : VL μ6 (fun x => F x ∧ μ x ≠ none) (dx + 1) a2 T := x6.vl hv.nn
  refine ⟨hvF.obj, 0, Nat.zero_le _, c_VA_tell B ax (dx + 1) (E + 1) 0 hvF hwf hT6 (fun z => z.2 hq1) (fun z => z.2 hca0) (by omega) (by show 0 + _ ≤ 400; omega) _ (fun μ10 hT10 k10 => ?_)⟩
  rw [List.nil_append] at hT10
  have x10 : Ext μ μ10 := fun z hz => (k10 z (fun y => hz (y ▸ hq1)) (fun y => hz (y ▸ hca0))).trans (x6 z hz)
  obtain ⟨f, p1, -⟩ := id hT10
  refine ⟨_, _, p1, rfl, fun _ => ⟨hT10.obj, 0, Nat.zero_le _, c_TP_putv B ax hT10 (by omega) hwf h20 hd5 hX E 0 hE _ (fun σ14 V v hX14 => ?_)⟩, fun _ => ⟨Or.inr rfl, hQ _ _⟩⟩
  have hv10 : VL μ10 (fun x => F x ∧ μ x ≠ none) (dx + 1) a2 T := x10.vl hv.nn
  refine ⟨hv10.obj, 0, Nat.zero_le _, c_VA_size B ax (dx + 1) (E + 1) 0 hv10 hwf (by omega) _ ⟨fun _ => ⟨rfl, x_image (by omega) hX14 _ (fun σ21 hX21 => ⟨by show 7 ≤ _; omega, fun q22 h22 => ⟨3, by omega, ?_⟩⟩)⟩, fun z => absurd rfl z⟩⟩
  refine c_CK_init B ax E 3 (Nat.le_refl _) 123 (dset_same _ _ _) _ (fun μ27 b c e g w h fb fc fe hO k27 => ?_)
  have t6 : (Int32.toNatClampNeg 6) = 6 := rfl
  have x27 : Ext μ10 μ27 := fun z hz => by
    have nq : z ≠ q22 := fun y => hz (y ▸ h22)
    rw [k27 z nq (by rw [dset_ne _ _ nq]; exact hz), dset_ne _ _ nq]
  refine ⟨by decide, by rw [t6]; omega, by rw [t6]; omega, fun q28 h28 => ⟨by decide, by rw [t6]; omega, by rw [t6]; omega, fun q30 h30 => ?_⟩⟩
  rw [t6] at h30 ⊢
  have n3028 : q30 ≠ q28 := fun z => by rw [z, dset_same] at h30; cases h30
  have h300 : μ27 q30 = none := by rw [dset_ne _ _ n3028] at h30; exact h30
  generalize hμ31 : dset (dset μ27 q28 (eA 1 6 (fun _ => 0))) q30 (eA 1 6 (fun _ => 0)) = μ31
  have x31 : Ext μ27 μ31 := fun z hz => by
    have m1 : z ≠ q28 := fun y => hz (y ▸ h28)
    have m2 : z ≠ q30 := fun y => hz (y ▸ h300)
    rw [← hμ31, dset_ne _ _ m2, dset_ne _ _ m1]
  have h731 : μ31 q28 = some (eA 1 6 (fun _ => 0)) := by rw [← hμ31, dset_ne _ _ (Ne.symm n3028)]; exact dset_same _ _ _
  have h831 : μ31 q30 = some (eA 1 6 (fun _ => 0)) := by rw [← hμ31]; exact dset_same _ _ _
  have hO31 : OC8 μ31 q22 (nI 123) (nI 0) (nI 0) b c e 0 0 g w h := hO.kept x31
  have hA31 : AL μ31 (P3 q22 q28 q30) q22 [] := ⟨b, c, e, g, w, h, hO31, fun i x hi => by simp at hi⟩
  have nz28 : ∀ z, μ10 z ≠ none → z ≠ q28 := fun z hz y => by
    have := x27 z hz
    rw [y, h28] at this
    rw [y] at hz
    exact hz this.symm
  have nz30 : ∀ z, μ10 z ≠ none → z ≠ q30 := fun z hz y => by
    have := x27 z hz
    rw [y, h300] at this
    rw [y] at hz
    exact hz this.symm
  have x1031 : Ext μ10 μ31 := x27.trans x31
  have hv31 : VL μ31 (P3 q22 q28 q30) (dx + 1) a2 T :=
    (x10.vl hv.nn).nn.kept (fun z hz => ⟨fun y => hz.2 (y ▸ h22), nz28 z hz.2, nz30 z hz.2⟩) (fun z hz _ => x1031 z hz.2)
  have := t135 B ax hB hE hQ hwf hT2 h20 hd5 v (c0 := c1) (a2 := a2) (Ne.symm n3028) (trC T).length 0 (u - 3 - 401 - 0 - 0 - 0 - 7 - 3 - (6 + 1) - (6 + 1)) [] σ21 μ31 V c1 (fun _ => 0) (fun _ => 0) (by omega) (fun x hx => absurd hx List.not_mem_nil) ⟨fun x hx => absurd hx List.not_mem_nil, fun i j p q hi => by simp at hi⟩ (Nat.le_refl _) (fun x hx => absurd hx List.not_mem_nil) (by have := hwf.2.2.2.2.1; omega) hv31 hA31 h731 (BS.none _) h831 (BS.none _) hX21
  exact this
set_option maxRecDepth 20000 in
theorem law_body (B : dB) (ax : Nat → Nat) (hB : B.2.1 < 2 ^ 31) {E : Nat} (hE : 300 ≤ E) {Q : dQ} (hQ : ∀ σ μ, Q (some (.int 1)) σ μ) {u : Nat} (hu : 50000 ≤ u) {μ : dW} {σ : sS} {V1 : VT} {c1 : CT} {im : Option (VT × CT)} (hX : XL σ V1 c1 im []) : DJ B ax (E + 1 + 1) u y_LW_law 8 [(0, .ref B.1), (1, .ref (ax 0))] [] σ μ Q := by
  refine s_LW_law_8 B ax (E + 1) u _ _ σ μ Q ⟨33000, by omega, c_LW_fits B ax hB (E + 1) 33000 (by omega) (Nat.le_refl _) _ (fun d a μ4 T hd hwf h20 hv x4 => ?_)⟩
  have hv' := hv
  obtain ⟨b, c, g, h, w1, f1, f2, f3, w2, w3, w4⟩ := hv'
  have hK3 : trK T ≤ 3 := hwf.1
  refine ⟨_, nI (trK T), w1, rfl, fun hk => ?_, fun hk => ⟨by show 5 ≤ _; omega, fun q6 h6 => ⟨2, by omega, ?_⟩⟩⟩
  · have hT2 : trK T = 2 := (eq_nI (by omega) 2 (by omega)).mp hk
    exact t61 B ax hB hE hQ hwf hT2 h20 (by omega) hv (by omega) hX
  · -- it is put into a record
    have nv : ∀ z, (μ z = none ∧ μ4 z ≠ none) → z ≠ q6 := fun z hz y => hz.2 (y ▸ h6)
    have hvn : VL μ4 (fun z => μ z = none ∧ μ4 z ≠ none) (d + 1) a T := hv.nn
    refine c_VA_init B ax (d + 1) E 2 2 0 (Nat.le_refl _) (dset_same _ _ _) _ (fun μ11 r11 k11 => ?_)
    have x11 : Ext μ4 μ11 := fun z hz => by
      have nq : z ≠ q6 := fun y => hz (y ▸ h6)
      rw [k11 z nq (by rw [dset_ne _ _ nq]; exact hz), dset_ne _ _ nq]
    have hv11 : VL μ11 (fun z => z ≠ q6) (d + 1) a T := (x11.vl hvn).kept (fun z hz => nv z hz) (fun _ _ _ => rfl)
    have R11 : RL μ11 (fun _ => True) (fun z => z ≠ q6) (d + 1) q6 (trmk 2 0 []) := r11.mono (fun _ _ => trivial) (fun _ z => z.elim)
    have t58 : ∀ (u' : Nat) (σ' : sS) (μ' : dW) (y : Nat) (T' : Tr (d + 1)), 8100 ≤ u' → twf (d + 1) T' → tsz (d + 1) T' ≤ 19 → VL μ' (fun z => z ≠ q6) (d + 1) y T' → RL μ' (fun _ => True) (fun z => z ≠ q6) (d + 1) q6 (trmk 2 0 []) → XL σ' V1 c1 im [] → DJ B ax (E + 1 + 1) u' y_LW_law 58 [(0, .ref B.1), (1, .ref (ax 0)), (2, .ref q6)] [.ref y, .int 3, .ref q6] σ' μ' Q := by
      intro u' σ' μ' y T' hu' hw' hs' hy hr hX'
      refine s_LW_law_58 B ax (E + 1) u' _ _ _ _ _ _ σ' μ' Q ⟨hr.obj, 4, by omega, ?_⟩
      refine c_VA_add B ax (d + 1) (E + 1) 4 hr hy (fun z => z rfl) (fun _ _ => trivial) 3 (Nat.zero_le _) (Nat.le_refl _) _ (fun μ2 r2 k2 => ?_)
      have r2 : RL μ2 (fun _ => True) (fun z => z ≠ q6) (d + 1) q6 (trmk 2 0 [(3, T')]) := r2
      have hv2 : VL μ2 (fun _ => True) (d + 1 + 1) q6 (trmk 2 0 [(3, T')]) := r2.vl (fun _ _ => trivial)
      refine t61 B ax hB hE hQ ?_ rfl ?_ (by omega) hv2 (by omega) hX'
      · refine ⟨by show 2 ≤ 3; omega, fun z => absurd z (by show ¬ 2 = 0; decide), fun _ => rfl, fun z => absurd z (by show ¬ 2 ≤ 1; decide), by show 1 ≤ 4; omega, fun _ i j p q hi hj _ => ?_, fun z => absurd z (by show ¬ 2 = 3; decide), fun q hq => ?_⟩
        · have hi : ([(3, T')] : List (Nat × Tr (d + 1)))[i]? = some p := hi
          have hj : ([(3, T')] : List (Nat × Tr (d + 1)))[j]? = some q := hj
          have l1 := (List.getElem?_eq_some_iff.mp hi).1
          have l2 := (List.getElem?_eq_some_iff.mp hj).1
          rw [List.length_singleton] at l1 l2
          omega
        · have hq : q ∈ ([(3, T')] : List (Nat × Tr (d + 1))) := hq
          rw [List.mem_singleton] at hq
          subst hq
          exact ⟨by show 1 ≤ 3; omega, by show 3 ≤ 9; omega, fun _ => by show 3 ≤ 5; omega, hw'⟩
      · show 1 + (tsz (d + 1) T' + 0) ≤ 20
        omega
    refine ⟨hv11.obj, 0, Nat.zero_le _, c_VA_size B ax (d + 1) (E + 1) 0 hv11 hwf (by omega) _ ⟨fun _ => ⟨by show 5 ≤ _; omega, fun q16 h16 => ⟨2, by omega, ?_⟩⟩, fun hs => ?_⟩⟩
    · refine c_VA_init B ax d E 2 0 5 (Nat.le_refl _) (dset_same _ _ _) _ (fun μ21 r21 k21 => ?_)
      have x21 : Ext μ11 μ21 := fun z hz => by
        have nq : z ≠ q16 := fun y => hz (y ▸ h16)
        rw [k21 z nq (by rw [dset_ne _ _ nq]; exact hz), dset_ne _ _ nq]
      have n6 : μ11 q6 ≠ none := by
        obtain ⟨fs, hf⟩ := R11.obj
        exact ne_none hf
      have n166 : q6 ≠ q16 := fun z => n6 (z ▸ h16)
      refine t58 _ σ μ21 q16 (trmk 0 5 []) (by omega) (twf_num (by omega)) (by show 1 + 0 ≤ 19; omega) ?_ (R11.kept (fun z hz => x21 z hz)) hX
      refine (r21.vl (fun _ z => z.elim)).kept (fun z hz => ?_) (fun _ _ _ => rfl)
      rcases hz with rfl | hz
      · exact Ne.symm n166
      · intro y
        rw [y, dset_ne _ _ n166] at hz
        exact n6 hz
    · refine t58 _ σ μ11 a T (by omega) hwf ?_ hv11 R11 hX
      have := (lt_nI (a := tsz (d + 1) T) (by omega) 19 (by omega))
      rcases Nat.lt_or_ge (tsz (d + 1) T) 19 with y | y
      · omega
      · exact absurd hs (nI_nlt (b := 19) y (by omega))
