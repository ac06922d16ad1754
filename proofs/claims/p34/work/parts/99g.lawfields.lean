/-! the law: each field alone -/
theorem Ext.vl {μ μ' : dW} (x : Ext μ μ') {F : Nat → Prop} {d a : Nat} {t : Tr d} (h : VL μ F d a t) : VL μ' F d a t := h.kept (fun _ z => z) (fun q _ hq => x q hq)
theorem Ext.cl {μ μ' : dW} (x : Ext μ μ') {F : Nat → Prop} {d a : Nat} {t : Ck d} (h : CL μ F d a t) : CL μ' F d a t := h.kept (fun _ z => z) (fun q _ hq => x q hq)
theorem Ext.al {μ μ' : dW} (x : Ext μ μ') {P : Nat → Prop} {a5 : Nat} {fs : List XD} (h : AL μ P a5 fs) : AL μ' P a5 fs := h.kept (fun q hq _ => x q hq) (fun q _ hq => x q hq)
theorem Ext.at_ {μ μ' : dW} (x : Ext μ μ') {q : Nat} {e : dE} (h : μ q = some e) : μ' q = some e := (x q (ne_none h)).trans h
theorem t239 (B : dB) (ax : Nat → Nat) (hB : B.2.1 < 2 ^ 31) {E : Nat} (hE : 300 ≤ E) {Q : dQ} {dx : Nat} {T : Tr (dx + 1)} (hwf : twf (dx + 1) T) (h20 : tsz (dx + 1) T ≤ 20) (hd5 : dx + 1 ≤ 5) {V V1 : VT} {c0 c1 : CT} {a2 a5 a7 a8 a11 b0 : Nat} (n78 : a7 ≠ a8) {fs : List XD} {j : Nat} {q : Nat × Tr dx} (hq : (trC T)[j]? = some q) (hq5 : q.1 ≤ 5) (hl : fs.length ≤ 9) (hnew : ∀ y ∈ fs, xdN y ≠ q.1) {k U u : Nat} (hk1 : k ≤ 1) (hu : U + 850 ≤ u) {μ0 μ : dW} (x0 : Ext μ0 μ) (hv0 : VL μ0 (P3 a5 a7 a8) (dx + 1) a2 T) (hA0 : AL μ0 (P3 a5 a7 a8) a5 fs) {gw gt : Nat → Int32} (h70 : μ0 a7 = some (eA 1 6 gw)) (hgw : BS gw snd_ fs) (h80 : μ0 a8 = some (eA 1 6 gt)) (hgt : BS gt (fun x => xdQ x ≤ 1) fs) (hb0 : μ0 b0 = none) (hO : ONE μ (P3 a5 a7 a8) a11 b0 k 0 0) {σ : sS} (hX : XL σ V1 c1 (some (V, c0)) [])
    (next : ∀ (u' : Nat) (σ' : sS) (μ' : dW) (V1' : VT) (c1' : CT) (x : XD) (gw' gt' : Nat → Int32), xdN x = q.1 → xdR x = 0 → xdQ x = k → xdK x = trK0 dx q.2 → xdV x = trN0 dx q.2 → xdL x ≤ xdH x → xdH x ≤ 99 → U ≤ u' → XL σ' V1' c1' (some (V, c0)) [] → VL μ' (P3 a5 a7 a8) (dx + 1) a2 T → AL μ' (P3 a5 a7 a8) a5 (fs ++ [x]) → μ' a7 = some (eA 1 6 gw') → BS gw' snd_ (fs ++ [x]) → μ' a8 = some (eA 1 6 gt') → BS gt' (fun x => xdQ x ≤ 1) (fs ++ [x]) → DJ B ax (E + 1 + 1) u' y_LW_law 419 [(0, .ref B.1), (1, .ref (ax 0)), (2, .ref a2), (4, .int (nI V.1)), (5, .ref a5), (6, .int (nI (sumf xal (fs ++ [x])))), (7, .ref a7), (8, .ref a8), (9, .int (nI j))] [] σ' μ' Q) :
    DJ B ax (E + 1 + 1) u y_LW_law 239 [(0, .ref B.1), (1, .ref (ax 0)), (2, .ref a2), (4, .int (nI V.1)), (5, .ref a5), (6, .int (nI (sumf xal fs))), (7, .ref a7), (8, .ref a8), (9, .int (nI j)), (10, .int (nI q.1)), (11, .ref a11)] [.ref b0] σ μ Q := by
  have hP : ¬ P3 a5 a7 a8 a5 := fun z => z.1 rfl
  have hP7 : ¬ P3 a5 a7 a8 a7 := fun z => z.2.1 rfl
  have hP8 : ¬ P3 a5 a7 a8 a8 := fun z => z.2.2 rfl
  have hqm := List.mem_of_getElem? hq
  have hjl := (List.getElem?_eq_some_iff.mp hq).1
  have h4 := hwf.2.2.2.2.1
  obtain ⟨q1, q9, -, qw⟩ := hwf.2.2.2.2.2.2.2 q hqm
  have qs : tsz dx q.2 ≤ 20 := by
    have h1 : tsz (dx + 1) T = 1 + sumf (fun q => tsz dx q.2) (trC T) := rfl
    have h2 := sumf_mem (fun q => tsz dx q.2) hqm
    have h2 : tsz dx q.2 ≤ sumf (fun q => tsz dx q.2) (trC T) := h2
    omega
  refine s_LW_law_239 B ax (E + 1) u _ _ _ _ _ _ _ _ _ _ _ b0 σ μ Q ?_
  rw [lit 42, nI_add]
  refine ⟨0, Nat.zero_le _, c_LW_cell B ax hB (E + 1) 0 (42 + j) (by omega) _ (fun r2 => ⟨0, Nat.zero_le _, c_LW_pick B ax (E + 1) 0 _ 30 (by omega) (by omega) _ ?_⟩)⟩
  have k30 := pkF_lt (r2 >>> (3 &&& 31)) (n := 30) (by omega)
  generalize pkF (r2 >>> (3 &&& 31)) 30 = lo at k30
  obtain ⟨f1, o1, o2, o3, o4, o5⟩ := hO.set
  have hO1 := o4 lo
  refine ⟨f1, o1, by omega, ?_⟩
  generalize hμ9 : dset μ b0 (eO 8 (f1.set 1 (.int (nI lo)))) = μ9 at hO1
  have x9 : Ext μ0 μ9 := fun z hz => by rw [← hμ9, dset_ne _ _ (show z ≠ b0 from fun y => hz (y ▸ hb0))]; exact x0 z hz
  obtain ⟨f2, p1, p2, p3, p4, p5⟩ := hO1.set
  refine ⟨f2, nI lo, p1, p3, ?_⟩
  refine ⟨0, Nat.zero_le _, c_LW_cell B ax hB (E + 1) 0 (42 + j) (by omega) _ (fun r12 => ⟨0, Nat.zero_le _, c_LW_pick B ax (E + 1) 0 _ 60 (by omega) (by omega) _ ?_⟩)⟩
  have k60 := pkF_lt (r12 >>> (8 &&& 31)) (n := 60) (by omega)
  generalize pkF (r12 >>> (8 &&& 31)) 60 = hp at k60
  rw [nI_add]
  have hO2 := p5 (lo + hp)
  refine ⟨f2, p1, by omega, ?_⟩
  generalize hμ19 : dset μ9 b0 (eO 8 (f2.set 2 (.int (nI (lo + hp))))) = μ19 at hO2
  have x19 : Ext μ0 μ19 := fun z hz => by rw [← hμ19, dset_ne _ _ (show z ≠ b0 from fun y => hz (y ▸ hb0))]; exact x9 z hz
  obtain ⟨x, ex⟩ : ∃ x : XD, x = (q.1, 0, k, lo, lo + hp, trK0 dx q.2, trN0 dx q.2) := ⟨_, rfl⟩
  have xN : xdN x = q.1 := by rw [ex]
  have xR : xdR x = 0 := by rw [ex]
  have xQ : xdQ x = k := by rw [ex]
  have xL : xdL x = lo := by rw [ex]
  have xH : xdH x = lo + hp := by rw [ex]
  have xK : xdK x = trK0 dx q.2 := by rw [ex]
  have xV : xdV x = trN0 dx q.2 := by rw [ex]
  have xo : xok x := ⟨by omega, by omega, by omega, by omega, by omega⟩
  have hC19 : CL μ19 (P3 a5 a7 a8) 2 a11 (xck x) := by
    have hO2 : ONE μ19 (P3 a5 a7 a8) a11 b0 (xdQ x) (xdL x) (xdH x) := by rw [xQ, xL, xH]; exact hO2
    exact hO2.cl
  have hA19 := x19.al hA0
  have hv19 := x19.vl hv0
  have h719 := x19.at_ h70
  have h819 := x19.at_ h80
  obtain ⟨f5, hf5⟩ := hA19.obj
  have n75 : a7 ≠ a5 := fun z => by rw [z, hf5] at h719; cases h719
  have n85 : a8 ≠ a5 := fun z => by rw [z, hf5] at h819; cases h819
  refine ⟨⟨f5, hf5⟩, 30, by omega, hA19.with hP x hC19 hl (by omega) _ (by rw [xN, xR, Nat.mul_zero, Nat.add_zero]) _ (fun μ23 hA23 k23 => ⟨Or.inr rfl, ?_⟩)⟩
  have hC23 : CL μ23 (P3 a5 a7 a8) 2 a11 (xck x) := hC19.kept (fun _ z => z) (fun z hz hn => k23 z hz.1 hn)
  have hv23 : VL μ23 (P3 a5 a7 a8) (dx + 1) a2 T := hv19.kept (fun _ z => z) (fun z hz hn => k23 z hz.1 hn)
  have h723 : μ23 a7 = some (eA 1 6 gw) := (k23 a7 n75 (ne_none h719)).trans h719
  have h823 : μ23 a8 = some (eA 1 6 gt) := (k23 a8 n85 (ne_none h819)).trans h819
  refine ⟨6, gt, h823, vp_in_nI (by omega) (by omega), ?_⟩
  rw [nI_clamp (by omega)]
  generalize hμA : dset μ23 a8 (eA 1 6 (upd gt q.1 1)) = μA
  have kA : ∀ z, z ≠ a8 → μA z = μ23 z := fun z hz => by rw [← hμA]; exact dset_ne _ _ hz
  have h8A : μA a8 = some (eA 1 6 (upd gt q.1 1)) := by rw [← hμA]; exact dset_same _ _ _
  have hAA : AL μA (P3 a5 a7 a8) a5 (fs ++ [x]) := hA23.kept (fun z hz hn => kA z (fun y => hn 6 gt (by rw [y]; exact h823))) (fun z hz _ => kA z hz.2.2)
  have hCA : CL μA (P3 a5 a7 a8) 2 a11 (xck x) := hC23.kept (fun _ z => z) (fun z hz _ => kA z hz.2.2)
  have hvA : VL μA (P3 a5 a7 a8) (dx + 1) a2 T := hv23.kept (fun _ z => z) (fun z hz _ => kA z hz.2.2)
  have h7A : μA a7 = some (eA 1 6 gw) := (kA a7 n78).trans h723
  refine ⟨by show 3 ≤ _; omega, fun q25 hq25 => ⟨401, by omega, c_TP_init B ax E 401 (Nat.le_refl _) (dset_same _ _ _) _ (fun ca μ30 hca hT30 kt30 => ?_)⟩⟩
  have hcaq : ca ≠ q25 := fun z => by rw [z, dset_same] at hca; cases hca
  have hca0 : μA ca = none := by rw [dset_ne _ _ hcaq] at hca; exact hca
  have xA30 : Ext μA μ30 := fun z hz => by
    have m1 : z ≠ q25 := fun y => hz (y ▸ hq25)
    have m2 : z ≠ ca := fun y => hz (y ▸ hca0)
    rw [kt30 z m1 m2, dset_ne _ _ m1]
  have hvF : VL μ30 (fun x => P3 a5 a7 a8 x ∧ μA x ≠ none) (dx + 1) a2 T := xA30.vl hvA.nn
  obtain ⟨bN, cN, gN, hN, w1, -, -, -, w2, w3, w4⟩ := hvF
  obtain ⟨-, a', e2, vk⟩ := w4 j q hq
  have tl := tlet_len' qw
  refine ⟨_, cN, w1, rfl, 0, _, hN, a', w3, Nat.zero_le _, vp_in_nI hjl (by omega), by rw [nI_clamp (by omega)]; exact e2, vk.obj, 0, Nat.zero_le _, ?_⟩
  refine c_VA_tell B ax dx (E + 1) 0 vk qw hT30 (fun z => z.2 hq25) (fun z => z.2 hca0) (by omega) (by show 0 + _ ≤ 400; omega) _ (fun μ36 hT36 kt36 => ?_)
  rw [List.nil_append] at hT36
  have x36 : ∀ z, μA z ≠ none → μ36 z = μ30 z := fun z hz => kt36 z (fun y => hz (y ▸ hq25)) (fun y => hz (y ▸ hca0))
  have xA36 : Ext μA μ36 := fun z hz => (x36 z hz).trans (xA30 z hz)
  refine ⟨hT36.obj, 0, Nat.zero_le _, c_TP_putk B ax hT36 qw qs (by omega) hX E 0 hE _ (fun σ39 V39 vK vN hX39 => ?_)⟩
  have n2 : μA a2 ≠ none := by
    intro z
    obtain ⟨f, hf⟩ := hvA.obj
    rw [z] at hf
    cases hf
  have hv36 := xA36.vl hvA
  obtain ⟨bM, cM', gM, hM, y1, -, -, -, y2, y3, y4⟩ := hv36
  obtain ⟨-, a'', e3, vk3⟩ := y4 j q hq
  refine ⟨_, cM', y1, rfl, 0, _, hM, a'', y3, Nat.zero_le _, vp_in_nI hjl (by omega), by rw [nI_clamp (by omega)]; exact e3, vk3.obj, 0, Nat.zero_le _, c_VA_size B ax dx (E + 1) 0 vk3 qw (by omega) _ ⟨fun _ => ?_, fun z => absurd rfl z⟩⟩
  refine ⟨by show 3 ≤ _; omega, fun q47 hq47 => ⟨401, by omega, c_TP_init B ax E 401 (Nat.le_refl _) (dset_same _ _ _) _ (fun ca2 μ52 hca2 hT52 kt52 => ?_)⟩⟩
  have hcaq2 : ca2 ≠ q47 := fun z => by rw [z, dset_same] at hca2; cases hca2
  have hca20 : μ36 ca2 = none := by rw [dset_ne _ _ hcaq2] at hca2; exact hca2
  have x3652 : Ext μ36 μ52 := fun z hz => by
    have m1 : z ≠ q47 := fun y => hz (y ▸ hq47)
    have m2 : z ≠ ca2 := fun y => hz (y ▸ hca20)
    rw [kt52 z m1 m2, dset_ne _ _ m1]
  have hC52 : CL μ52 (fun x => P3 a5 a7 a8 x ∧ μ36 x ≠ none) 2 a11 (xck x) := x3652.cl (xA36.cl hCA).nn
  have hkl : (xkl (xdQ x) (xdL x) (xdH x)).length ≤ 6 := by
    unfold xkl
    split
    · exact Nat.le_of_ble_eq_true rfl
    · split
      · exact Nat.le_of_ble_eq_true rfl
      · exact Nat.le_of_ble_eq_true rfl
  refine ⟨hC52.obj, 0, Nat.zero_le _, c_CK_tell B ax 2 (E + 1) 0 hC52 (kwf_xck xo) hT52 (fun z => z.2 hq47) (fun z => z.2 hca20) (by omega) (by rw [klet_xck]; show 0 + _ ≤ 400; omega) _ (fun μ56 hT56 kt56 => ?_)⟩
  rw [klet_xck, List.nil_append] at hT56
  have x3656 : Ext μ36 μ56 := fun z hz => (kt56 z (fun y => hz (y ▸ hq47)) (fun y => hz (y ▸ hca20))).trans (x3652 z hz)
  have xA56 : Ext μA μ56 := xA36.trans x3656
  obtain ⟨c', t1, t2⟩ := ctold_one (k := xdQ x) (lo := xdL x) (hi := xdH x) xo.2.2.2.1 xo.2.2.2.2
  have hC56 : CL μ56 (P3 a5 a7 a8) 2 a11 (xck x) := xA56.cl hCA
  refine ⟨hT56.obj, 0, Nat.zero_le _, c_TP_putc B ax hT56 (by omega) (xkl_small (by omega) (by omega)) t1 hX39 E 0 hE _ (fun σ59 hX59 => ⟨hC56.obj, 0, Nat.zero_le _, c_CK_many B ax 2 (E + 1) 0 hC56 (kwf_xck xo) (by omega) _ ?_⟩)⟩
  rw [ksz_xck]
  have ef : fl c' V39 = (xcl 0 (acd (xdQ x) (xdK x) (xdV x) (xdL x) (xdH x)), 0) := fl_one' (by omega) t2 hX59.wv (vK.trans xK.symm) (vN.trans xV.symm)
  have el : (fl c' V39).1.length = xal x := by
    rw [ef]
    show (xcl 0 _).length = xal x
    unfold xcl xal
    rw [if_pos (show xdQ x ≤ 1 by omega)]
    by_cases y : acd (xdQ x) (xdK x) (xdV x) (xdL x) (xdH x) = 0
    · rw [if_pos y, if_pos y]; rfl
    · rw [if_neg y, if_neg y]; rfl
  have el1 : xal x ≤ 1 := by have := xal_le x; omega
  have es : xal x = 0 ↔ snd_ x := by
    unfold xal snd_
    rw [if_pos (show xdQ x ≤ 1 by omega)]
    constructor
    · intro z
      refine ⟨by omega, ?_⟩
      split at z
      · assumption
      · cases z
    · intro z
      rw [if_pos z.2]
  refine ⟨fun _ => ⟨rfl, x_faults (by omega) hX59 _ (fun σ66 hX66 => ⟨rfl, x_faults (by omega) hX66 _ (fun σ68 hX68 => ?_)⟩)⟩, fun z => absurd rfl z⟩
  rw [el, nI_add, ← sumf_snoc]
  have e401 : ∀ s : Int32, (snd_ x → s = 1) → (¬ snd_ x → s = 0) → ∀ u', U ≤ u' → DJ B ax (E + 1 + 1) u' y_LW_law 401 [(0, .ref B.1), (1, .ref (ax 0)), (2, .ref a2), (4, .int (nI V.1)), (5, .ref a5), (6, .int (nI (sumf xal (fs ++ [x])))), (7, .ref a7), (8, .ref a8), (9, .int (nI j))] [.int s, .int (nI q.1), .ref a7] σ68 μ56 Q := by
    intro s s1 s0 u' hu'
    have h756 := xA56.at_ h7A
    have h856 := xA56.at_ h8A
    refine s_LW_law_401 B ax (E + 1) u' _ _ _ _ _ _ _ _ _ s _ a7 σ68 μ56 Q ⟨?_, 6, gw, h756, vp_in_nI (by omega) (by omega), rfl, x_waits (by omega) hX68 _ (fun σ3 hX3 => ?_)⟩
    · by_cases z : snd_ x
      · exact Or.inr (s1 z)
      · exact Or.inl (s0 z)
    rw [ef, nI_clamp (by omega)]
    refine ⟨fun z => absurd rfl z, fun _ => ⟨rfl, x_faults (by omega) hX3 _ (fun σ5 hX5 => ?_)⟩⟩
    rw [el]
    refine ⟨fun _ => ?_, fun z => absurd z (nI_nlt (a := 1) el1 (by omega))⟩
    have k1 : ∀ z, z ≠ a7 → dset μ56 a7 (eA 1 6 (upd gw q.1 s)) z = μ56 z := fun z hz => dset_ne _ _ hz
    refine next u' σ5 _ V39 c' x (upd gw q.1 s) (upd gt q.1 1) xN xR xQ xK xV xo.2.2.2.1 xo.2.2.2.2 hu' hX5 ((xA56.vl hvA).kept (fun _ z => z) (fun z hz _ => k1 z hz.2.1)) ((xA56.al hAA).kept (fun z hz hn => k1 z (fun y => hn 6 gw (by rw [y]; exact h756))) (fun z hz _ => k1 z hz.2.1)) (dset_same _ _ _) ?_ ((k1 a8 (Ne.symm n78)).trans h856) ?_
    · rw [← xN]
      exact hgw.put (fun y hy => by rw [xN]; exact hnew y hy) s1 s0
    · rw [← xN]
      exact hgt.put (fun y hy => by rw [xN]; exact hnew y hy) (fun _ => rfl) (fun z => absurd (show xdQ x ≤ 1 by omega) z)
  refine ⟨fun z => e401 0 (fun y => ?_) (fun _ => rfl) _ (by omega), fun z => e401 1 (fun _ => rfl) (fun y => ?_) _ (by omega)⟩
  · rw [es.mpr y] at z; exact absurd rfl z
  · have e0 : ¬ xal x = 0 := fun w => y (es.mp w)
    rw [show xal x = 1 by omega] at z
    exact absurd z (by decide)
