/-! the law's tail: limits, and this check or any number -/
theorem CL.nn {μ : dW} {F : Nat → Prop} : ∀ {d : Nat} {a : Nat} {t : Ck d}, CL μ F d a t → CL μ (fun x => F x ∧ μ x ≠ none) d a t
  | 0, a, t, h => h.elim
  | d + 1, a, t, h => by
    obtain ⟨b, c, e, g, w, hh, h1, f1, f2, f3, f4, h2, h3, h4, h5, h6⟩ := h
    refine ⟨b, c, e, g, w, hh, h1, ⟨f1, ne_none h1⟩, ⟨f2, ne_none h2⟩, ⟨f3, ne_none h3⟩, ⟨f4, ne_none h4⟩, h2, h3, h4, h5, fun j q hj => ?_⟩
    obtain ⟨e1, a', e2, e3⟩ := h6 j q hj
    exact ⟨e1, a', e2, CL.nn e3⟩
/-- the record's check, all that is told of it -/
def FSK (fs : List XD) (w : List Nat) : Prop := (∀ x ∈ fs, xok x) ∧ (∀ (i j : Nat) (p q : XD), fs[i]? = some p → fs[j]? = some q → xdN p = xdN q → i = j) ∧ dIn fs w ∧ sumf xfz fs ≤ 20 ∧ fs.length ≤ 9
theorem t1024 (B : dB) (ax : Nat → Nat) {E : Nat} (hE : 300 ≤ E) {Q : dQ} (hQ : ∀ σ μ, Q (some (.int 1)) σ μ) {V V0 : VT} {c0 : CT} {fs : List XD} {w : List Nat} (hk : FSK fs w) (h2 : V.2 0 0 = 2) {F : List Nat} {nw : Nat} (hF : F.length < 2 ^ 31) (e : ∀ c2, RQ c2 1 fs → CE c2 1 w → lk c2 V 119 1 0 = (F, nw)) (h96 : (xrl fs w).length ≤ 96) {a3 ca a5 : Nat} {G : Nat → Prop} (g3 : ¬ G a3) (gca : ¬ G ca) : ∀ (m j u : Nat) (σ : sS) (μ : dW) (c : CT), j + m = 4 → XL σ V c (some (V0, c0)) [] → CL μ G 3 a5 (xall fs w) → TPE μ a3 ca (47 :: (xrl fs w ++ [35]) ++ ([48, 48, 57, 57] : List Nat).take j) → DJ B ax (E + 1 + 1) u y_LW_law 1024 [(1, .ref (ax 0)), (3, .ref a3), (4, .int (nI V0.1)), (5, .ref a5), (15, .int (nI F.length)), (16, .int (nI j))] [] σ μ Q := by
  obtain ⟨hx, hd, hw, hM, hl⟩ := hk
  intro m
  induction m with
  | zero =>
    intro j u σ μ c hj hX hC hT
    have ej : j = 4 := by omega
    subst ej
    have eL : 47 :: (xrl fs w ++ [35]) ++ ([48, 48, 57, 57] : List Nat).take 4 = xol fs w := by simp [xol]
    rw [eL] at hT
    obtain ⟨c2, t1, t2, t3, t4, t5⟩ := ctold_or hx hd hw hM (by omega : fs.length ≤ 20)
    have hT' := hT
    obtain ⟨f, p1, p2, p3, p4⟩ := hT'
    have hlen : (xol fs w).length = 1 + (xrl fs w).length + 5 := by simp [xol]; omega
    refine s_LW_law_1024 B ax (E + 1) u _ _ _ _ _ _ σ μ Q ⟨fun _ => ⟨_, _, p1, rfl, fun h => ⟨hT.obj, 0, Nat.zero_le _, ?_⟩, fun _ => ⟨Or.inr rfl, hQ _ _⟩⟩, fun z => absurd z (by decide)⟩
    have h : (xol fs w).length ≤ 96 := by
      rw [lit 96, i32_lt (by omega) (by omega)] at h
      omega
    have hb : ∀ x ∈ xol fs w, x < 256 := fun x hxx => by
      have hxx : x ∈ 47 :: (xrl fs w ++ [35, 48, 48, 57, 57]) := hxx
      rw [List.mem_cons, List.mem_append] at hxx
      rcases hxx with hxx | hxx | hxx
      · omega
      · exact xrl_small hx (hw.ok hx) x hxx
      · simp at hxx; omega
    refine c_TP_putc B ax hT h hb t1 hX E 0 hE _ (fun σ1 hX1 => ⟨hC.obj, 0, Nat.zero_le _, c_CK_many B ax 3 (E + 1) 0 hC (kwf_xall hx hl (hw.ok hx)) (by omega) _ ?_⟩)
    rw [ksz_xall]
    have er : nI (3 + sumf xfz fs) = nI (1 + sumf xfz fs) + 2 := by rw [lit 2, nI_add]; congr 1; omega
    refine ⟨fun z => absurd er z, fun _ => ⟨rfl, x_faults (by omega) hX1 _ (fun σ2 hX2 => ?_)⟩⟩
    obtain ⟨q1, q2⟩ := fl_or t2 t4 t5 hX1.wv h2 (e c2 t2 t3)
    have em : nI (fl c2 V).1.length = (if (1 : Int32) < nI F.length then 1 else nI F.length) := by
      rw [q1]
      by_cases z : 1 < F.length
      · rw [if_pos z, if_pos ((lt_nI hF 1 (by omega)).mpr z)]; rfl
      · rw [if_neg z, if_neg (fun y => z ((lt_nI hF 1 (by omega)).mp y))]
    refine ⟨fun z => absurd em z, fun _ => ⟨fun z => ?_, fun z => ⟨rfl, ?_⟩⟩⟩
    · have e0 : F.length = 0 := by
        rcases Nat.eq_zero_or_pos F.length with y | y
        · exact y
        · exact absurd (nI_lt y hF : nI 0 < nI F.length) z
      exact t1123 B ax hE hQ hX2 hF (by rw [q1, e0]; simp)
    · have e0 : 0 < F.length := by
        rcases Nat.eq_zero_or_pos F.length with y | y
        · rw [y] at z; exact absurd z (by decide)
        · exact y
      have hn0 : F.length = 0 ↔ (fl c2 V).1.length = 0 := by
        rw [q1]; split <;> omega
      by_cases z1 : 1 < F.length
      · have q3 := q2 z1
        refine x_first (by omega) hX2 q3 _ (fun σ3 hX3 => ⟨fun _ => ?_, fun y => ?_⟩)
        · exact s_LW_law_1118 B ax (E + 1) _ _ _ _ _ _ σ3 _ Q ⟨fun _ => t1123 B ax hE hQ hX3 hF hn0, fun y => absurd rfl y⟩
        · exact absurd (nI_inj' y hF (by omega) : F.length = 1) (by omega)
      · have hlt : 0 < (fl c2 V).1.length := by rw [q1]; split <;> omega
        obtain ⟨x, hx0⟩ : ∃ x, (fl c2 V).1[0]? = some x := ⟨_, List.getElem?_eq_getElem hlt⟩
        refine x_first (by omega) hX2 hx0 _ (fun σ3 hX3 => ⟨fun y => ?_, fun _ => ⟨rfl, x_first (by omega) hX3 hx0 _ (fun σ4 hX4 => ?_)⟩⟩)
        · exact absurd (show nI F.length = nI 1 by rw [show F.length = 1 by omega]) y
        · exact s_LW_law_1118 B ax (E + 1) _ _ _ _ _ _ σ4 _ Q ⟨fun _ => t1123 B ax hE hQ hX4 hF hn0, fun y => absurd rfl y⟩
  | succ m ih =>
    intro j u σ μ c hj hX hC hT
    have h4 : j < 4 := by omega
    have hlen : (47 :: (xrl fs w ++ [35]) ++ ([48, 48, 57, 57] : List Nat).take j).length < 400 := by simp; omega
    have step : ∀ (x : Nat) (s0 : Int32), ([48, 48, 57, 57] : List Nat)[j]? = some x → (48 : Int32) + s0 = nI x → DJ B ax (E + 1 + 1) u y_LW_law 1045 [(1, .ref (ax 0)), (3, .ref a3), (4, .int (nI V0.1)), (5, .ref a5), (15, .int (nI F.length)), (16, .int (nI j))] [.int s0, .int 48, .ref a3] σ μ Q := by
      intro x s0 hj0 hs0
      refine s_LW_law_1045 B ax (E + 1) u _ _ _ _ _ _ _ _ _ σ μ Q ⟨hT.obj, 0, Nat.zero_le _, ?_⟩
      rw [hs0]
      refine c_TP_add B ax (E + 1) 0 hT hlen x _ (fun μ1 hT1 k1 => ?_)
      show DJ B ax (E + 1 + 1) u y_LW_law 1024 [(1, .ref (ax 0)), (3, .ref a3), (4, .int (nI V0.1)), (5, .ref a5), (15, .int (nI F.length)), (16, .int (nI j + 1))] [] σ μ1 Q
      rw [nI_s1]
      refine ih (j + 1) u σ μ1 c (by omega) hX (hC.kept (fun _ z => z) (fun q hq _ => k1 q (fun z => g3 (z ▸ hq)) (fun z => gca (z ▸ hq)))) ?_
      rw [List.take_succ, hj0, ← List.append_assoc]
      exact hT1
    refine s_LW_law_1024 B ax (E + 1) u _ _ _ _ _ _ σ μ Q ⟨fun z => absurd (nI_lt h4 (by omega)) z, fun _ => ⟨fun z => ?_, fun z => ?_⟩⟩
    · have hj1 : j ≤ 1 := by
        rcases Nat.lt_or_ge 1 j with y | y
        · exact absurd (nI_lt y (by omega)) z
        · exact y
      refine step 48 0 ?_ (by decide)
      rcases (show j = 0 ∨ j = 1 by omega) with rfl | rfl <;> rfl
    · have hj1 : 1 < j := (lt_nI (by omega) 1 (by omega)).mp z
      refine step 57 9 ?_ (by decide)
      rcases (show j = 2 ∨ j = 3 by omega) with rfl | rfl <;> rfl
theorem t944 (B : dB) (ax : Nat → Nat) {E : Nat} (hE : 300 ≤ E) {Q : dQ} (hQ : ∀ σ μ, Q (some (.int 1)) σ μ) {V V0 : VT} {c c0 : CT} {fs : List XD} {w : List Nat} (hk : FSK fs w) (h2 : V.2 0 0 = 2) {nw : Nat} (hF : (fl c V).1.length < 99) (e : ∀ c2, RQ c2 1 fs → CE c2 1 w → lk c2 V 119 1 0 = ((fl c V).1, nw)) (h96 : (xrl fs w).length ≤ 96) {a5 : Nat} {G : Nat → Prop} {u : Nat} (hu : 500 ≤ u) {μ : dW} (hC : CL μ G 3 a5 (xall fs w)) : ∀ (m j : Nat) (σ : sS), j + m = (fl c V).1.length → XL σ V c (some (V0, c0)) [] → DJ B ax (E + 1 + 1) u y_LW_law 944 [(1, .ref (ax 0)), (4, .int (nI V0.1)), (5, .ref a5), (14, .int (nI (fl c V).1.length)), (15, .int (nI j))] [] σ μ Q := by
  intro m
  induction m with
  | zero =>
    intro j σ hj hX
    have ej : j = (fl c V).1.length := by omega
    subst ej
    refine s_LW_law_944 B ax (E + 1) u _ _ _ _ _ σ μ Q ⟨fun _ => ⟨rfl, x_faults (by omega) hX _ (fun σ1 hX1 => ⟨by show 3 ≤ u; omega, fun q1 hq1 => ⟨401, by omega, ?_⟩⟩)⟩, fun z => absurd z (nI_nlt (Nat.le_refl _) (by omega))⟩
    have hC1 : CL (dset μ q1 (eO 6 (dfl 6))) (fun x => G x ∧ μ x ≠ none) 3 a5 (xall fs w) := hC.nn.kept (fun _ z => z) (fun q hq _ => dset_ne _ _ (fun z => hq.2 (z ▸ hq1)))
    refine c_TP_init B ax E 401 (Nat.le_refl _) (dset_same _ _ _) _ (fun ca μ2 hca hT k2 => ?_)
    have hcaq : ca ≠ q1 := fun z => by rw [z, dset_same] at hca; cases hca
    have hca0 : μ ca = none := by rw [dset_ne _ _ hcaq] at hca; exact hca
    have n1 : ¬ (G q1 ∧ μ q1 ≠ none) := fun z => z.2 hq1
    have n2 : ¬ (G ca ∧ μ ca ≠ none) := fun z => z.2 hca0
    have st : ∀ μ' μ'' : dW, CL μ' (fun x => G x ∧ μ x ≠ none) 3 a5 (xall fs w) → (∀ q, q ≠ q1 → q ≠ ca → μ'' q = μ' q) → CL μ'' (fun x => G x ∧ μ x ≠ none) 3 a5 (xall fs w) := fun μ' μ'' h g => h.kept (fun _ z => z) (fun q hq _ => g q (fun z => n1 (z ▸ hq)) (fun z => n2 (z ▸ hq)))
    have hC2 := st _ _ hC1 k2
    refine ⟨hT.obj, 0, Nat.zero_le _, c_TP_add B ax (E + 1) 0 hT (by simp) 47 _ (fun μ3 hT3 k3 => ?_)⟩
    have hC3 := st _ _ hC2 k3
    obtain ⟨hx, hd, hw, hM, hl⟩ := id hk
    refine ⟨hC3.obj, 0, Nat.zero_le _, c_CK_tell B ax 3 (E + 1) 0 hC3 (kwf_xall hx hl (hw.ok hx)) hT3 n1 n2 (by omega) (by rw [klet_xall w hx]; simp; omega) _ (fun μ4 hT4 k4 => ?_)⟩
    rw [klet_xall w hx] at hT4
    have hC4 := st _ _ hC3 k4
    refine ⟨hT4.obj, 0, Nat.zero_le _, c_TP_add B ax (E + 1) 0 hT4 (by simp; omega) 35 _ (fun μ5 hT5 k5 => ?_)⟩
    have hC5 := st _ _ hC4 k5
    refine t1024 B ax hE hQ hk h2 (by omega) e h96 n1 n2 4 0 _ σ1 μ5 c rfl hX1 hC5 ?_
    simpa using hT5
  | succ m ih =>
    intro j σ hj hX
    obtain ⟨y, hy, -⟩ := at_some (show j < (fl c V).1.length by omega)
    have hyb := (fl_ok hX.wc hX.wv) y (List.mem_of_getElem? hy)
    refine s_LW_law_944 B ax (E + 1) u _ _ _ _ _ σ μ Q ⟨fun z => absurd (nI_lt (by omega) (by omega)) z, fun _ => ⟨rfl, ?_⟩⟩
    rw [nI_s1]
    refine x_limited (by omega) hX hy (by omega) _ (fun σ1 hX1 => ⟨rfl, x_fault (by omega) hX1 hy 0 (Or.inl rfl) _ (fun σ2 hX2 => ⟨rfl, x_fault (by omega) hX2 hy 1 (Or.inr rfl) _ (fun σ3 hX3 => ?_)⟩)⟩)
    rw [if_pos rfl, if_neg (show ¬ (1 : Int32) = 0 by decide)]
    have ey : nI y = 100 * nI (y / 100) + nI (y % 100) := by
      rw [lit 100, pk_mul, nI_add]
      congr 1
      omega
    exact ⟨fun _ => ih (j + 1) σ3 (by omega) hX3, fun z => absurd ey z⟩
theorem t865 (B : dB) (ax : Nat → Nat) {E : Nat} (hE : 300 ≤ E) {Q : dQ} (hQ : ∀ σ μ, Q (some (.int 1)) σ μ) {V V0 : VT} {c c0 : CT} {fs : List XD} {w : List Nat} (hk : FSK fs w) (h2 : V.2 0 0 = 2) {al lc mo ul wt : Nat} (hF : (fl c V).1.length < 99) (f0 : (fl c V).1.length = al + lc + mo + ul) (fw : (fl c V).2 = wt) (f6 : (fl c V).1.countP (fun y => decide (y % 100 = 6)) = lc) (f7 : (fl c V).1.countP (fun y => decide (y % 100 = 7)) = mo) (f9 : (fl c V).1.countP (fun y => decide (y % 100 = 9)) = ul) (e : ∀ c2, RQ c2 1 fs → CE c2 1 w → lk c2 V 119 1 0 = ((fl c V).1, (fl c V).2)) (h96 : (xrl fs w).length ≤ 96) {a5 : Nat} {G : Nat → Prop} {u : Nat} (hu : 500 ≤ u) {μ : dW} (hC : CL μ G 3 a5 (xall fs w)) {σ : sS} (hX : XL σ V c (some (V0, c0)) []) : DJ B ax (E + 1 + 1) u y_LW_law 865 [(1, .ref (ax 0)), (4, .int (nI V0.1)), (5, .ref a5), (6, .int (nI al)), (9, .int (nI lc)), (10, .int (nI mo)), (12, .int (nI ul)), (13, .int (nI wt))] [] σ μ Q := by
  have es : ((nI al + nI lc) + nI mo) + nI ul = nI (fl c V).1.length := by rw [nI_add, nI_add, nI_add, f0]
  refine s_LW_law_865 B ax (E + 1) u _ _ _ _ _ _ _ _ σ μ Q ?_
  rw [es]
  refine ⟨rfl, x_faults (by omega) hX _ (fun σ1 h1 => ⟨fun z => absurd rfl z, fun _ => ⟨rfl, x_waits (by omega) h1 _ (fun σ2 h2' => ⟨fun z => absurd (congrArg nI fw) z, fun _ => ⟨rfl, x_coded (by omega) h2' 6 (by omega) (by omega) _ (fun σ3 h3 => ⟨fun z => absurd (congrArg nI f6) z, fun _ => ⟨rfl, x_coded (by omega) h3 7 (by omega) (by omega) _ (fun σ4 h4 => ⟨fun z => absurd (congrArg nI f7) z, fun _ => ⟨rfl, x_coded (by omega) h4 9 (by omega) (by omega) _ (fun σ5 h5 => ⟨fun z => absurd (congrArg nI f9) z, fun _ => ⟨rfl, x_below (by omega) h5 _ (fun σ6 h6 => ⟨fun _ => ?_, fun z => absurd rfl z⟩)⟩⟩)⟩⟩)⟩⟩)⟩⟩)⟩⟩)⟩
  exact t944 B ax hE hQ hk h2 hF e h96 hu hC (fl c V).1.length 0 σ6 (by omega) h6
