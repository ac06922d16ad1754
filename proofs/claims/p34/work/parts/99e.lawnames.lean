/-! the law: names that lack, names that are not told -/
theorem dset_dset (μ : dW) (q : Nat) (e1 e2 : dE) : dset (dset μ q e1) q e2 = dset μ q e2 := by
  funext x
  by_cases z : x = q
  · subst z; rw [dset_same, dset_same]
  · rw [dset_ne _ _ z, dset_ne _ _ z, dset_ne _ _ z]
def FSB (fs : List XD) : Prop := (∀ x ∈ fs, xok x) ∧ (∀ (i j : Nat) (p q : XD), fs[i]? = some p → fs[j]? = some q → xdN p = xdN q → i = j)
theorem FSB.fsk {fs : List XD} (h : FSB fs) (hl : fs.length ≤ 9) {w : List Nat} (hw : dIn fs w) : FSK fs w := by
  refine ⟨h.1, h.2, hw, ?_, hl⟩
  have key : ∀ l : List XD, sumf xfz l ≤ 2 * l.length := by
    intro l
    induction l with
    | nil => exact Nat.le_refl _
    | cons x r ih =>
      have : xfz x ≤ 2 := by show xkz (xdQ x) ≤ 2; unfold xkz; split <;> omega
      simp only [sumf, List.length_cons]
      omega
  have := key fs
  omega
theorem FSB.snoc {fs : List XD} (h : FSB fs) {x : XD} (hx : xok x) (hn : ∀ y ∈ fs, xdN y ≠ xdN x) : FSB (fs ++ [x]) := by
  refine ⟨fun y hy => ?_, fun i j p q hi hj e => ?_⟩
  · rcases List.mem_append.mp hy with hy | hy
    · exact h.1 y hy
    · rw [List.mem_singleton] at hy; subst hy; exact hx
  · have li := (List.getElem?_eq_some_iff.mp hi).1
    have lj := (List.getElem?_eq_some_iff.mp hj).1
    rw [List.length_append, List.length_singleton] at li lj
    have at_ : ∀ {i : Nat} {p : XD}, (fs ++ [x])[i]? = some p → (i < fs.length ∧ fs[i]? = some p) ∨ (¬ i < fs.length ∧ p = x) := fun {i p} hi => by
      by_cases z : i < fs.length
      · rw [List.getElem?_append_left z] at hi; exact Or.inl ⟨z, hi⟩
      · have l := (List.getElem?_eq_some_iff.mp hi).1
        rw [List.length_append, List.length_singleton] at l
        have ei : i = fs.length := by omega
        rw [ei] at hi
        exact Or.inr ⟨z, by simpa using hi.symm⟩
    rcases at_ hi with ⟨a1, a2⟩ | ⟨a1, a2⟩
    · rcases at_ hj with ⟨b1, b2⟩ | ⟨b1, b2⟩
      · exact h.2 i j p q a2 b2 e
      · rw [b2] at e; exact absurd e (hn p (List.mem_of_getElem? a2))
    · rcases at_ hj with ⟨b1, b2⟩ | ⟨b1, b2⟩
      · rw [a2] at e; exact absurd e.symm (hn q (List.mem_of_getElem? b2))
      · omega
theorem pick_at {μ : dW} {P : Nat → Prop} {a5 : Nat} {fs : List XD} (h : AL μ P a5 fs) : ∃ (f : List Value) (b c : Nat) (g : Nat → Int32) (hh : Nat → Option Nat), μ a5 = some (eO 8 f) ∧ f[3]? = some (.ref b) ∧ f[4]? = some (.ref c) ∧ μ b = some (eA 0 fs.length g) ∧ μ c = some (eR 1 fs.length hh) ∧ ∀ (i : Nat) (x : XD), fs[i]? = some x → g i = nI (xdN x + 10 * xdR x) := by
  obtain ⟨b, c, e, g, w, hh, ⟨h1, h2, h3, h4⟩, h5⟩ := h
  exact ⟨_, b, c, g, hh, h1, rfl, rfl, h2, h3, fun i x hi => (h5 i x hi).1⟩
theorem mod10 {N R : Nat} (hN : N ≤ 5) (hR : R ≤ 1) : nI (N + 10 * R) - nI (N + 10 * R) / 10 * 10 = nI N := by
  rw [lit 10, pk_rem (by omega) (by omega) (by omega)]
  congr 1
  omega
theorem t566 (B : dB) (ax : Nat → Nat) (hB : B.2.1 < 2 ^ 31) {E : Nat} (hE : 300 ≤ E) {Q : dQ} (hQ : ∀ σ μ, Q (some (.int 1)) σ μ) {dx : Nat} {T : Tr (dx + 1)} (hwf : twf (dx + 1) T) (hT2 : trK T = 2) {V V1 : VT} (v : VF dx V T) {c0 c1 : CT} {fs : List XD} (hF : FOK (trC T) fs) (hb : FSB fs) (hl : fs.length ≤ 9) {a5 a7 a8 a11 : Nat} {u : Nat} (hu : 1100 ≤ u) {μ : dW} (hA : AL μ (P3 a5 a7 a8) a5 fs) {gw gt gN : Nat → Int32} (h7 : μ a7 = some (eA 1 6 gw)) (hgw : BS gw snd_ fs) (h8 : μ a8 = some (eA 1 6 gt)) (hgt : BS gt (fun x => xdQ x ≤ 1) fs) (h11 : μ a11 = some (eA 0 (trC T).length gN)) (hgN : ∀ (j : Nat) (q : Nat × Tr dx), (trC T)[j]? = some q → gN j = nI q.1) {σ : sS} (hX : XL σ V1 c1 (some (V, c0)) []) : ∀ (m j : Nat), j + m = (trC T).length → DJ B ax (E + 1 + 1) u y_LW_law 566 [(0, .ref B.1), (1, .ref (ax 0)), (4, .int (nI V.1)), (5, .ref a5), (6, .int (nI (sumf xal fs))), (7, .ref a7), (8, .ref a8), (9, .int (nI (sumf xlc fs))), (10, .int (nI (sumf (xmo fs) ((trC T).take j)))), (11, .ref a11), (12, .int (nI (trC T).length)), (13, .int (nI j))] [] σ μ Q := by
  have h4 := hwf.2.2.2.2.1
  have hP : ¬ P3 a5 a7 a8 a5 := fun z => z.1 rfl
  have gws : ∀ x ∈ fs, (snd_ x → gw (xdN x) = 1) ∧ (¬ snd_ x → gw (xdN x) = 0) := fun x hx => by
    have x5 := (hb.1 x hx).2.1
    obtain ⟨g1, g0⟩ := hgw (xdN x) x5
    refine ⟨fun z => g1 ⟨x, hx, z, rfl⟩, fun z => g0 (fun ⟨y, y1, y2, y3⟩ => z ?_)⟩
    obtain ⟨i, hi⟩ := List.getElem?_of_mem hx
    obtain ⟨j, hj⟩ := List.getElem?_of_mem y1
    have := hb.2 i j x y hi hj y3.symm
    subst this
    have : x = y := Option.some.inj (hi.symm.trans hj)
    subst this
    exact y2
  intro m
  induction m with
  | zero =>
    intro j hj
    have ej : j = (trC T).length := by omega
    subst ej
    rw [List.take_length]
    obtain ⟨f, b, c, g, hh, p1, p2, p3, p4, p5, p6⟩ := pick_at hA
    refine s_LW_law_566 B ax (E + 1) u _ _ _ _ _ _ _ _ _ _ _ _ σ μ Q ⟨fun _ => ⟨f, c, p1, p3, 1, fs.length, hh, p5, Nat.le_refl _, fun h0 => ?_, fun h0 => ⟨f, b, p1, p2, 0, Nat.zero_le _, ?_⟩⟩, fun z => absurd z (nI_nlt (Nat.le_refl _) (by omega))⟩
    · have e0 : fs.length = 0 := by
        rcases Nat.eq_zero_or_pos fs.length with y | y
        · exact y
        · exact absurd (nI_lt y (by omega) : nI 0 < nI fs.length) h0
      exact t680 B ax hE hQ hwf hT2 v hF (hb.fsk hl (Or.inl rfl)) (fun z => by omega) (fun _ => rfl) (by omega) hA.cl0 h7 gws hX
    · have e0 : 0 < fs.length := by
        rcases Nat.eq_zero_or_pos fs.length with y | y
        · rw [y] at h0; exact absurd h0 (by decide)
        · exact y
      refine c_LW_cell B ax hB (E + 1) 0 38 (by omega) _ (fun r5 => ⟨0, Nat.zero_le _, c_LW_pick B ax (E + 1) 0 r5 fs.length e0 (by omega) _ ?_⟩)
      have k1 := pkF_lt r5 (n := fs.length) e0
      obtain ⟨x, hx⟩ : ∃ x, fs[pkF r5 fs.length]? = some x := ⟨_, List.getElem?_eq_getElem k1⟩
      have hxm := List.mem_of_getElem? hx
      refine ⟨fs.length, g, p4, vp_in_nI k1 (by omega), by decide, f, b, p1, p2, 0, Nat.zero_le _, ?_⟩
      refine c_LW_cell B ax hB (E + 1) 0 39 (by omega) _ (fun r15 => ⟨0, Nat.zero_le _, c_LW_pick B ax (E + 1) 0 r15 fs.length e0 (by omega) _ ?_⟩)
      have k2 := pkF_lt r15 (n := fs.length) e0
      obtain ⟨y, hy⟩ : ∃ y, fs[pkF r15 fs.length]? = some y := ⟨_, List.getElem?_eq_getElem k2⟩
      have hym := List.mem_of_getElem? hy
      have t1 : (Int32.toNatClampNeg 1) = 1 := rfl
      refine ⟨fs.length, g, p4, vp_in_nI k2 (by omega), by decide, by decide, by rw [t1]; omega, by rw [t1]; omega, fun q hq => ?_⟩
      rw [nI_clamp (by omega), nI_clamp (by omega), p6 _ x hx, p6 _ y hy, mod10 (hb.1 x hxm).2.1 (hb.1 x hxm).2.2.1, mod10 (hb.1 y hym).2.1 (hb.1 y hym).2.2.1, lit 10, pk_mul, nI_add, t1]
      obtain ⟨f', p1', p5', C⟩ := hA.cl1 hP hq (10 * xdN x + xdN y)
      have nq : a5 ≠ q := ne_fresh p1 hq
      have vp0 : vp_in 0 1 := (show vp_in (nI 0) 1 from vp_in_nI (by omega) (by omega))
      refine ⟨1, fun _ => 0, dset_same _ _ _, vp0, f', ?_, p5', ?_⟩
      · rw [dset_dset, dset_ne _ _ nq]; exact p1'
      · rw [dset_dset, show (Int32.toNatClampNeg 0) = 0 from rfl]
        have m7 : a7 ≠ q := ne_fresh h7 hq
        have m75 : a7 ≠ a5 := fun z => by rw [z, p1] at h7; cases h7
        refine t680 B ax hE hQ hwf hT2 v hF (hb.fsk hl (Or.inr ⟨x, hxm, y, hym, rfl⟩)) (fun _ => ⟨x, hxm, y, hym, rfl⟩) (fun z => by omega) (by omega) C ?_ gws hX
        rw [dset_ne _ _ m75, dset_ne _ _ m7]; exact h7
  | succ m ih =>
    intro j hj
    obtain ⟨q, hq⟩ := at_len hj
    have hqm := List.mem_of_getElem? hq
    obtain ⟨q1, q9, q5, q6⟩ := hwf.2.2.2.2.2.2.2 q hqm
    have q5 := q5 hT2
    have hlt := (List.getElem?_eq_some_iff.mp hq).1
    have nx := ih (j + 1) (by omega)
    have es : sumf (xmo fs) ((trC T).take (j + 1)) = sumf (xmo fs) ((trC T).take j) + xmo fs q := by
      rw [List.take_succ, hq, sumf_app]; simp [sumf]
    rw [es] at nx
    obtain ⟨g1, g0⟩ := hgt q.1 q5
    have tq : tin fs q.1 = true ↔ ∃ x ∈ fs, xdQ x ≤ 1 ∧ xdN x = q.1 := by
      rw [tin_iff]
      constructor
      · rintro ⟨x, x1, x2⟩
        refine ⟨x, x1, ?_, x2⟩
        rcases Nat.lt_or_ge 1 (xdQ x) with z | z
        · exact absurd x2.symm (((hF x x1).2 (by omega)).2 q hqm)
        · exact z
      · rintro ⟨x, x1, x2, x3⟩
        exact ⟨x, x1, x3⟩
    have e595 : ∀ s : Nat, s = xmo fs q → DJ B ax (E + 1 + 1) u y_LW_law 595 [(0, .ref B.1), (1, .ref (ax 0)), (4, .int (nI V.1)), (5, .ref a5), (6, .int (nI (sumf xal fs))), (7, .ref a7), (8, .ref a8), (9, .int (nI (sumf xlc fs))), (11, .ref a11), (12, .int (nI (trC T).length)), (13, .int (nI j))] [.int (nI s), .int (nI (sumf (xmo fs) ((trC T).take j)))] σ μ Q := by
      intro s hs
      refine s_LW_law_595 B ax (E + 1) u _ _ _ _ _ _ _ _ _ _ _ _ _ σ μ Q ?_
      rw [nI_add, hs, nI_s1]
      exact nx
    refine s_LW_law_566 B ax (E + 1) u _ _ _ _ _ _ _ _ _ _ _ _ σ μ Q ⟨fun z => absurd (nI_lt (by omega) (by omega)) z, fun _ => ⟨_, gN, h11, vp_in_nI hlt (by omega), ?_⟩⟩
    rw [nI_clamp (by omega), hgN j q hq]
    refine ⟨6, gt, h8, vp_in_nI (by omega) (by omega), ?_⟩
    rw [nI_clamp (by omega)]
    refine ⟨fun z => e595 1 ?_, fun z => e595 0 ?_⟩
    · have : ¬ tin fs q.1 = true := fun y => by rw [g1 (tq.mp y)] at z; exact absurd z (by decide)
      unfold xmo
      rw [if_neg this]
    · have : tin fs q.1 = true := Classical.byContradiction (fun y => z (g0 (fun w => y (tq.mpr w))))
      unfold xmo
      rw [if_pos this]
