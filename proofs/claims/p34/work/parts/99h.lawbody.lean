/-! the law's body -/
theorem t215 (B : dB) (ax : Nat → Nat) {E u : Nat} {Q : dQ} {μ : dW} {P : Nat → Prop} {a0 a1 a2 a5 a7 a8 a11 b0 k : Nat} {v4 v6 v9 v10 : Int32} (hO : ONE μ P a11 b0 k 0 0) {σ : sS} (h : DJ B ax (E + 1) u y_LW_law 239 [(0, .ref a0), (1, .ref a1), (2, .ref a2), (4, .int v4), (5, .ref a5), (6, .int v6), (7, .ref a7), (8, .ref a8), (9, .int v9), (10, .int v10), (11, .ref a11)] [.ref b0] σ μ Q) : DJ B ax (E + 1) u y_LW_law 215 [(0, .ref a0), (1, .ref a1), (2, .ref a2), (4, .int v4), (5, .ref a5), (6, .int v6), (7, .ref a7), (8, .ref a8), (9, .int v9), (10, .int v10)] [.ref a11] σ μ Q := by
  obtain ⟨⟨b, c, e, g, w, hh, ⟨o1, -⟩, -⟩, hc⟩ := hO
  rcases hc with ⟨-, rfl⟩ | ⟨-, -, b', c', e', g', w', h', ⟨r1, r2, r3, r4⟩, g0, h0, -⟩
  · exact s_LW_law_215 B ax E u _ _ _ _ _ _ _ _ _ _ a11 σ μ Q ⟨_, _, o1, rfl, fun z => absurd rfl z, fun _ => h⟩
  · have vp0 : vp_in 0 1 := (show vp_in (nI 0) 1 from vp_in_nI (by omega) (by omega))
    exact s_LW_law_215 B ax E u _ _ _ _ _ _ _ _ _ _ a11 σ μ Q ⟨_, _, r1, rfl, fun _ => ⟨_, c', r1, rfl, 1, 1, h', b0, r3, Nat.le_refl _, vp0, h0, h⟩, fun z => absurd z (by decide)⟩
set_option maxRecDepth 20000 in
theorem t135 (B : dB) (ax : Nat → Nat) (hB : B.2.1 < 2 ^ 31) {E : Nat} (hE : 300 ≤ E) {Q : dQ} (hQ : ∀ σ μ, Q (some (.int 1)) σ μ) {dx : Nat} {T : Tr (dx + 1)} (hwf : twf (dx + 1) T) (hT2 : trK T = 2) (h20 : tsz (dx + 1) T ≤ 20) (hd5 : dx + 1 ≤ 5) {V : VT} (v : VF dx V T) {c0 : CT} {a2 a5 a7 a8 : Nat} (n78 : a7 ≠ a8) : ∀ (m j u : Nat) (fs : List XD) (σ : sS) (μ : dW) (V1 : VT) (c1 : CT) (gw gt : Nat → Int32), j + m = (trC T).length → FOK (trC T) fs → FSB fs → fs.length ≤ j → (∀ x ∈ fs, xdQ x ≤ 1 ∧ ∃ i, i < j ∧ ∃ q, (trC T)[i]? = some q ∧ q.1 = xdN x) → 1300 + 900 * m ≤ u → VL μ (P3 a5 a7 a8) (dx + 1) a2 T → AL μ (P3 a5 a7 a8) a5 fs → μ a7 = some (eA 1 6 gw) → BS gw snd_ fs → μ a8 = some (eA 1 6 gt) → BS gt (fun x => xdQ x ≤ 1) fs → XL σ V1 c1 (some (V, c0)) [] → DJ B ax (E + 1 + 1) u y_LW_law 135 [(0, .ref B.1), (1, .ref (ax 0)), (2, .ref a2), (4, .int (nI V.1)), (5, .ref a5), (6, .int (nI (sumf xal fs))), (7, .ref a7), (8, .ref a8), (9, .int (nI j))] [] σ μ Q := by
  have h4 := hwf.2.2.2.2.1
  intro m
  induction m with
  | zero =>
    intro j u fs σ μ V1 c1 gw gt hj hF hb hl hn hu hv hA h7 hgw h8 hgt hX
    have ej : j = (trC T).length := by omega
    subst ej
    have hv' := hv
    obtain ⟨b, c, g, h, w1, f1, f2, f3, w2, w3, w4⟩ := hv'
    refine s_LW_law_135 B ax (E + 1) u _ _ _ _ _ _ _ _ _ σ μ Q ⟨_, c, w1, rfl, 0, _, h, w3, Nat.zero_le _, fun _ => ?_, fun z => absurd z (nI_nlt (Nat.le_refl _) (by omega))⟩
    have e0 : sumf xlc fs = 0 := sumf_zero (fun x hx => by unfold xlc; rw [if_pos (hn x hx).1])
    have := t431 B ax hB hE hQ hwf hT2 v hX 5 1 u fs μ rfl (Nat.le_refl _) hF hb (by omega) (fun x hx => Or.inl (hn x hx).1) (by omega) hv hA h7 hgw h8 hgt
    rw [e0] at this
    exact this
  | succ m ih =>
    intro j u fs σ μ V1 c1 gw gt hj hF hb hl hn hu hv hA h7 hgw h8 hgt hX
    obtain ⟨U, eU⟩ : ∃ U, 1300 + 900 * m = U := ⟨_, rfl⟩
    rw [eU] at ih
    have hu : U + 900 ≤ u := by omega
    obtain ⟨q, hq⟩ := at_len hj
    have hqm := List.mem_of_getElem? hq
    have hjl := (List.getElem?_eq_some_iff.mp hq).1
    obtain ⟨q1, q9, q5, qw⟩ := hwf.2.2.2.2.2.2.2 q hqm
    have q5 := q5 hT2
    have hv' := hv
    obtain ⟨b, c, g, h, w1, f1, f2, f3, w2, w3, w4⟩ := hv'
    obtain ⟨eg, -⟩ := w4 j q hq
    have hnew : ∀ y ∈ fs, xdN y ≠ q.1 := fun y hy e => by
      obtain ⟨-, i, hi, q', hq', e'⟩ := hn y hy
      have := hwf.2.2.2.2.2.1 hT2 i j q' q hq' hq (e'.trans e)
      omega
    have stay : ∀ u', U ≤ u' → DJ B ax (E + 1 + 1) u' y_LW_law 419 [(0, .ref B.1), (1, .ref (ax 0)), (2, .ref a2), (4, .int (nI V.1)), (5, .ref a5), (6, .int (nI (sumf xal fs))), (7, .ref a7), (8, .ref a8), (9, .int (nI j))] [] σ μ Q := fun u' hu' => by
      refine s_LW_law_419 B ax (E + 1) u' _ _ _ _ _ _ _ _ _ σ μ Q ?_
      rw [nI_s1]
      exact ih (j + 1) u' fs σ μ V1 c1 gw gt (by omega) hF hb (by omega) (fun x hx => ⟨(hn x hx).1, by obtain ⟨-, i, hi, r⟩ := hn x hx; exact ⟨i, by omega, r⟩⟩) hu' hv hA h7 hgw h8 hgt hX
    obtain ⟨f5, hf5⟩ := hA.obj
    have pn : ∀ z, μ z = none → P3 a5 a7 a8 z := fun z hz => P3.new (ne_none hf5) (ne_none h7) (ne_none h8) hz
    -- the field's check is made
    have made : ∀ (k a11 b0 u' : Nat) (μ' : dW), k ≤ 1 → U + 850 ≤ u' → Ext μ μ' → μ b0 = none → ONE μ' (P3 a5 a7 a8) a11 b0 k 0 0 → DJ B ax (E + 1 + 1) u' y_LW_law 215 [(0, .ref B.1), (1, .ref (ax 0)), (2, .ref a2), (4, .int (nI V.1)), (5, .ref a5), (6, .int (nI (sumf xal fs))), (7, .ref a7), (8, .ref a8), (9, .int (nI j)), (10, .int (nI q.1))] [.ref a11] σ μ' Q := by
      intro k a11 b0 u' μ' hk hu' x0 hb0 hO
      refine t215 B ax hO ?_
      refine t239 B ax hB hE hwf h20 hd5 n78 hq q5 (by omega) hnew hk (U := U) hu' x0 hv hA h7 hgw h8 hgt hb0 hO hX ?_
      intro u2 σ2 μ2 V2 c2 x gw2 gt2 xN xR xQ xK xV xl xh hu2 hX2 hv2 hA2 h72 hgw2 h82 hgt2
      refine s_LW_law_419 B ax (E + 1) u2 _ _ _ _ _ _ _ _ _ σ2 μ2 Q ?_
      rw [nI_s1]
      refine ih (j + 1) u2 (fs ++ [x]) σ2 μ2 V2 c2 gw2 gt2 (by omega) (fun y hy => ?_) (hb.snoc ⟨by omega, by omega, by omega, xl, xh⟩ (fun y hy => by rw [xN]; exact hnew y hy)) (by rw [List.length_append, List.length_singleton]; omega) (fun y hy => ?_) hu2 hv2 hA2 h72 hgw2 h82 hgt2 hX2
      · rcases List.mem_append.mp hy with hy | hy
        · exact hF y hy
        · rw [List.mem_singleton] at hy
          subst hy
          exact ⟨fun _ => ⟨q, hqm, xN.symm, xK.symm, xV.symm⟩, fun z => absurd (show xdQ y ≤ 1 by omega) z⟩
      · rcases List.mem_append.mp hy with hy | hy
        · refine ⟨(hn y hy).1, ?_⟩
          obtain ⟨-, i, hi, r⟩ := hn y hy
          exact ⟨i, by omega, r⟩
        · rw [List.mem_singleton] at hy
          subst hy
          exact ⟨by omega, j, by omega, q, hq, xN.symm⟩
    refine s_LW_law_135 B ax (E + 1) u _ _ _ _ _ _ _ _ _ σ μ Q ⟨_, c, w1, rfl, 0, _, h, w3, Nat.zero_le _, fun z => absurd (nI_lt hjl (by omega)) z, fun _ => ⟨_, b, w1, rfl, _, g, w2, vp_in_nI hjl (by omega), ?_⟩⟩
    rw [nI_clamp (by omega), eg, lit 42, nI_add]
    refine ⟨0, Nat.zero_le _, c_LW_cell B ax hB (E + 1) 0 (42 + j) (by omega) _ (fun r6 => ⟨0, Nat.zero_le _, c_LW_pick B ax (E + 1) 0 _ 6 (by omega) (by omega) _ ⟨fun _ => ⟨by decide, fun _ => ?_, fun _ => ?_⟩, fun _ => stay _ (by omega)⟩⟩)⟩
    · -- none or a number
      refine ⟨by show 7 ≤ _; omega, fun q13 h13 => ⟨3, by omega, c_CK_init B ax E 3 (Nat.le_refl _) 33 (dset_same _ _ _) _ (fun μb b1 c1' e1 g1 w1' hh1 fb fc fe hO k2 => ?_)⟩⟩
      have fr1 : ∀ z, dset μ q13 (eO 8 (dfl 8)) z = none → μ z = none := fun z hz => by
        have nq : z ≠ q13 := fun y => by rw [y, dset_same] at hz; cases hz
        rw [dset_ne _ _ nq] at hz
        exact hz
      have xb : Ext μ μb := fun z hz => by
        have nq : z ≠ q13 := fun y => hz (y ▸ h13)
        rw [k2 z nq (by rw [dset_ne _ _ nq]; exact hz), dset_ne _ _ nq]
      refine ⟨by show 7 ≤ _; omega, fun q19 h19 => ⟨3, by omega, c_CK_init B ax E 3 (Nat.le_refl _) 35 (dset_same _ _ _) _ (fun μd b2 c2 e2 g2 w2' hh2 fb2 fc2 fe2 hO2 k3 => ?_)⟩⟩
      have fr2 : ∀ z, dset μb q19 (eO 8 (dfl 8)) z = none → μb z = none := fun z hz => by
        have nq : z ≠ q19 := fun y => by rw [y, dset_same] at hz; cases hz
        rw [dset_ne _ _ nq] at hz
        exact hz
      have xd : Ext μb μd := fun z hz => by
        have nq : z ≠ q19 := fun y => hz (y ▸ h19)
        rw [k3 z nq (by rw [dset_ne _ _ nq]; exact hz), dset_ne _ _ nq]
      have hOd := hO.kept xd
      have n13 : q13 ≠ q19 := ne_fresh hO.1 h19
      refine ⟨⟨_, hOd.1⟩, 4, by omega, c_CK_with B ax (E + 1) 4 hOd (fun i hi => absurd hi (Nat.not_lt_zero _)) ⟨_, hO2.1⟩ 0 (by omega) (by omega) _ (fun μe b3 c3 g3 h3 fb3 fc3 hO3 _ g30 h30 k4 => ?_)⟩
      have ke : ∀ z, z ≠ q13 → ∀ {x : dE}, μd z = some x → μe z = some x := fun z hz x hx => (k4 z hz (ne_none hx)).trans hx
      have nb2 : b2 ≠ q13 := fun y => by rw [y] at fb2; have := fr2 _ fb2; rw [hO.1] at this; cases this
      have nc2 : c2 ≠ q13 := fun y => by rw [y] at fc2; have := fr2 _ fc2; rw [hO.1] at this; cases this
      have ne2 : e2 ≠ q13 := fun y => by rw [y] at fe2; have := fr2 _ fe2; rw [hO.1] at this; cases this
      have hO2e : OC8 μe q19 (nI 35) (nI 0) (nI 0) b2 c2 e2 0 0 g2 w2' hh2 := ⟨ke _ (Ne.symm n13) hO2.1, ke _ nb2 hO2.2.1, ke _ nc2 hO2.2.2.1, ke _ ne2 hO2.2.2.2⟩
      have hO3' : OC8 μe q13 (nI 33) (nI 0) (nI 0) b3 c3 e1 1 0 g3 w1' h3 := hO3
      refine made 1 q13 q19 _ μe (Nat.le_refl _) (by omega) (fun z hz => ?_) (xb.fresh h19) ⟨⟨b2, c2, e2, g2, w2', hh2, hO2e, pn _ (xb.fresh h19), pn _ (xb.fresh (fr2 _ fb2)), pn _ (xb.fresh (fr2 _ fc2)), pn _ (xb.fresh (fr2 _ fe2))⟩, Or.inr ⟨rfl, n13, b3, c3, e1, g3, w1', h3, hO3', g30, h30, pn _ h13, pn _ (xb.fresh (xd.fresh fb3)), pn _ (xb.fresh (xd.fresh fc3)), pn _ (fr1 _ fe)⟩⟩
      have nz : z ≠ q13 := fun y => hz (y ▸ h13)
      have e1' := xb z hz
      have e2' := xd z (by rw [e1']; exact hz)
      rw [k4 z nz (by rw [e2', e1']; exact hz), e2', e1']
    · -- a number
      refine ⟨by show 7 ≤ _; omega, fun q29 h29 => ⟨3, by omega, c_CK_init B ax E 3 (Nat.le_refl _) 35 (dset_same _ _ _) _ (fun μb b1 c1' e1 g1 w1' hh1 fb fc fe hO k2 => ?_)⟩⟩
      have fr1 : ∀ z, dset μ q29 (eO 8 (dfl 8)) z = none → μ z = none := fun z hz => by
        have nq : z ≠ q29 := fun y => by rw [y, dset_same] at hz; cases hz
        rw [dset_ne _ _ nq] at hz
        exact hz
      have xb : Ext μ μb := fun z hz => by
        have nq : z ≠ q29 := fun y => hz (y ▸ h29)
        rw [k2 z nq (by rw [dset_ne _ _ nq]; exact hz), dset_ne _ _ nq]
      have hO' : OC8 μb q29 (nI 35) (nI 0) (nI 0) b1 c1' e1 0 0 g1 w1' hh1 := hO
      exact made 0 q29 q29 _ μb (Nat.zero_le _) (by omega) xb h29 ⟨⟨b1, c1', e1, g1, w1', hh1, hO', pn _ h29, pn _ (fr1 _ fb), pn _ (fr1 _ fc), pn _ (fr1 _ fe)⟩, Or.inl ⟨rfl, rfl⟩⟩
