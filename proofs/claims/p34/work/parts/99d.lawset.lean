/-! what is kept while the law sets up its check -/
def BS (g : Nat → Int32) (R : XD → Prop) (fs : List XD) : Prop := ∀ n, n ≤ 5 → ((∃ x ∈ fs, R x ∧ xdN x = n) → g n = 1) ∧ ((¬ ∃ x ∈ fs, R x ∧ xdN x = n) → g n = 0)
theorem BS.put {g : Nat → Int32} {R : XD → Prop} {fs : List XD} (h : BS g R fs) {x : XD} (hn : ∀ y ∈ fs, xdN y ≠ xdN x) {s : Int32} (h1 : R x → s = 1) (h0 : ¬ R x → s = 0) : BS (upd g (xdN x) s) R (fs ++ [x]) := by
  intro n hn5
  by_cases z : n = xdN x
  · subst z
    have e : upd g (xdN x) s (xdN x) = s := pk_us
    rw [e]
    refine ⟨fun ⟨y, y1, y2, y3⟩ => ?_, fun hno => h0 (fun hr => hno ⟨x, List.mem_append_right _ (List.mem_singleton.mpr rfl), hr, rfl⟩)⟩
    rcases List.mem_append.mp y1 with y1 | y1
    · exact absurd y3 (hn y y1)
    · rw [List.mem_singleton] at y1; subst y1; exact h1 y2
  · have e : upd g (xdN x) s n = g n := pk_un z
    rw [e]
    obtain ⟨a1, a0⟩ := h n hn5
    refine ⟨fun ⟨y, y1, y2, y3⟩ => ?_, fun hno => a0 (fun ⟨y, y1, y2, y3⟩ => hno ⟨y, List.mem_append_left _ y1, y2, y3⟩)⟩
    rcases List.mem_append.mp y1 with y1 | y1
    · exact a1 ⟨y, y1, y2, y3⟩
    · rw [List.mem_singleton] at y1; subst y1; exact absurd y3.symm z
theorem BS.same {g : Nat → Int32} {R : XD → Prop} {fs : List XD} (h : BS g R fs) {x : XD} (hr : ¬ R x) : BS g R (fs ++ [x]) := by
  intro n hn5
  obtain ⟨a1, a0⟩ := h n hn5
  refine ⟨fun ⟨y, y1, y2, y3⟩ => ?_, fun hno => a0 (fun ⟨y, y1, y2, y3⟩ => hno ⟨y, List.mem_append_left _ y1, y2, y3⟩)⟩
  rcases List.mem_append.mp y1 with y1 | y1
  · exact a1 ⟨y, y1, y2, y3⟩
  · rw [List.mem_singleton] at y1; subst y1; exact absurd y2 hr
/-- cells that are none of these three -/
def P3 (a5 a7 a8 q : Nat) : Prop := q ≠ a5 ∧ q ≠ a7 ∧ q ≠ a8
/-- the check of all fields, open -/
def AL (μ : dW) (P : Nat → Prop) (a5 : Nat) (fs : List XD) : Prop := ∃ (b c e : Nat) (g w : Nat → Int32) (h : Nat → Option Nat), OC8 μ a5 (nI 123) (nI 0) (nI 0) b c e fs.length 0 g w h ∧ ∀ (i : Nat) (x : XD), fs[i]? = some x → g i = nI (xdN x + 10 * xdR x) ∧ ∃ a', h i = some a' ∧ CL μ P 2 a' (xck x)
theorem AL.obj {μ : dW} {P : Nat → Prop} {a5 : Nat} {fs : List XD} (h : AL μ P a5 fs) : ∃ f, μ a5 = some (eO 8 f) := by
  obtain ⟨b, c, e, g, w, hh, h1, -⟩ := h
  exact ⟨_, h1.1⟩
theorem AL.kept {μ μ' : dW} {P : Nat → Prop} {a5 : Nat} {fs : List XD} (h : AL μ P a5 fs) (hk : ∀ q, μ q ≠ none → (∀ n f, μ q ≠ some (eA 1 n f)) → μ' q = μ q) (hP : ∀ q, P q → μ q ≠ none → μ' q = μ q) : AL μ' P a5 fs := by
  obtain ⟨b, c, e, g, w, hh, ⟨h1, h2, h3, h4⟩, h5⟩ := h
  have k : ∀ q x, μ q = some x → (∀ n f, x ≠ eA 1 n f) → μ' q = some x := fun q x hx hn => (hk q (ne_none hx) (fun n f z => hn n f (Option.some.inj (hx.symm.trans z)))).trans hx
  refine ⟨b, c, e, g, w, hh, ⟨k _ _ h1 (fun n f z => by cases z), k _ _ h2 (fun n f z => by cases z), k _ _ h3 (fun n f z => by cases z), k _ _ h4 (fun n f z => by cases z)⟩, fun i x hi => ?_⟩
  obtain ⟨e1, a', e2, e3⟩ := h5 i x hi
  exact ⟨e1, a', e2, e3.kept (fun _ z => z) hP⟩
theorem AL.cl0 {μ : dW} {P : Nat → Prop} {a5 : Nat} {fs : List XD} (h : AL μ P a5 fs) : CL μ (fun _ => True) 3 a5 (xall fs []) := by
  obtain ⟨b, c, e, g, w, hh, ⟨h1, h2, h3, h4⟩, h5⟩ := h
  have el : (ckC (xall fs [])).length = fs.length := List.length_map ..
  refine ⟨b, c, e, g, w, hh, h1, trivial, trivial, trivial, trivial, by rw [el]; exact h2, by rw [el]; exact h3, h4, fun j x hj => ?_, fun j q hj => ?_⟩
  · have hj : ([] : List Nat)[j]? = some x := hj
    simp at hj
  · have hj : (fs.map xckp)[j]? = some q := hj
    rw [List.getElem?_map] at hj
    cases hx : fs[j]? with
    | none => rw [hx] at hj; cases hj
    | some x =>
      rw [hx] at hj
      cases hj
      obtain ⟨e1, a', e2, e3⟩ := h5 j x hx
      exact ⟨e1, a', e2, e3.kept (fun _ _ => trivial) (fun _ _ _ => rfl)⟩
/-- one that hangs on two is set -/
theorem AL.cl1 {μ : dW} {P : Nat → Prop} {a5 : Nat} {fs : List XD} (hP : ¬ P a5) (h : AL μ P a5 fs) {q : Nat} (hq : μ q = none) (x : Nat) : ∃ f, μ a5 = some (eO 8 f) ∧ 5 < f.length ∧ CL (dset (dset μ q (eA 0 1 (upd (fun _ => 0) 0 (nI x)))) a5 (eO 8 (f.set 5 (.ref q)))) (fun _ => True) 3 a5 (xall fs [x]) := by
  obtain ⟨b, c, e, g, w, hh, ⟨h1, h2, h3, h4⟩, h5⟩ := h
  refine ⟨_, h1, Nat.le_of_ble_eq_true rfl, ?_⟩
  have el : (ckC (xall fs [x])).length = fs.length := List.length_map ..
  have nq : a5 ≠ q := ne_fresh h1 hq
  have nb : b ≠ a5 := fun z => by rw [z, h1] at h2; cases h2
  have nc : c ≠ a5 := fun z => by rw [z, h1] at h3; cases h3
  have nbq : b ≠ q := ne_fresh h2 hq
  have ncq : c ≠ q := ne_fresh h3 hq
  refine ⟨b, c, q, g, upd (fun _ => 0) 0 (nI x), hh, dset_same _ _ _, trivial, trivial, trivial, trivial, ?_, ?_, ?_, fun j y hj => ?_, fun j qq hj => ?_⟩
  · rw [el, dset_ne _ _ nb, dset_ne _ _ nbq]; exact h2
  · rw [el, dset_ne _ _ nc, dset_ne _ _ ncq]; exact h3
  · rw [dset_ne _ _ (Ne.symm nq)]; exact dset_same _ _ _
  · have hj : ([x] : List Nat)[j]? = some y := hj
    have hlt := (List.getElem?_eq_some_iff.mp hj).1
    have e0 : j = 0 := by simpa using hlt
    subst e0
    have : x = y := by simpa using hj
    subst this
    exact pk_us
  · have hj : (fs.map xckp)[j]? = some qq := hj
    rw [List.getElem?_map] at hj
    cases hx : fs[j]? with
    | none => rw [hx] at hj; cases hj
    | some x =>
      rw [hx] at hj
      cases hj
      obtain ⟨e1, a', e2, e3⟩ := h5 j x hx
      exact ⟨e1, a', e2, e3.nn.kept (fun _ _ => trivial) (fun q' hq' _ => (dset_ne _ _ (show q' ≠ a5 from fun z => hP (z ▸ hq'.1))).trans (dset_ne _ _ (show q' ≠ q from fun z => hq'.2 (z ▸ hq))))⟩
/-- a field more -/
theorem AL.with {B : dB} {ax : Nat → Nat} {D u : Nat} {σ : sS} {μ : dW} {P : Nat → Prop} {a5 y : Nat} {fs : List XD} (hP : ¬ P a5) (h : AL μ P a5 fs) (x : XD) (hy : CL μ P 2 y (xck x)) (hl : fs.length ≤ 9) (hu : 22 ≤ u) (nm : Int32) (hnm : nm = nI (xdN x + 10 * xdR x)) (k : Nat → sS → dW → Prop) (hk : ∀ μ', AL μ' P a5 (fs ++ [x]) → (∀ q, q ≠ a5 → μ q ≠ none → μ' q = μ q) → k a5 σ μ') : DCJ B ax D u y_CK_with [.ref a5, .int nm, .ref y] σ μ (qR k) := by
  obtain ⟨b, c, e, g, w, hh, hO, h5⟩ := h
  refine c_CK_with B ax D u hO (fun i hi => ?_) hy.obj nm (by omega) (by omega) k (fun μ' b' c' g' h' f1 f2 hO' g1 g2 g3 g4 => hk μ' ⟨b', c', e, g', w, h', ?_, fun i z hi => ?_⟩ g4)
  · obtain ⟨z, hz⟩ : ∃ z, fs[i]? = some z := ⟨_, List.getElem?_eq_getElem hi⟩
    obtain ⟨e1, a', e2, e3⟩ := h5 i z hz
    obtain ⟨f, hf⟩ := e3.obj
    exact ⟨a', f, e2, hf⟩
  · rw [List.length_append, List.length_singleton]; exact hO'
  · have kp : ∀ {a : Nat} {t : Ck 2}, CL μ P 2 a t → CL μ' P 2 a t := fun h => h.kept (fun _ z => z) (fun q hq hn => g4 q (fun z => hP (z ▸ hq)) hn)
    by_cases zl : i < fs.length
    · rw [List.getElem?_append_left zl] at hi
      obtain ⟨e1, a', e2, e3⟩ := h5 i z hi
      obtain ⟨k1, k2⟩ := g1 i zl
      exact ⟨k1.trans e1, a', k2.trans e2, kp e3⟩
    · have hlt := (List.getElem?_eq_some_iff.mp hi).1
      rw [List.length_append, List.length_singleton] at hlt
      have ei : i = fs.length := by omega
      subst ei
      have : x = z := by simpa using hi
      subst this
      exact ⟨g2.trans hnm, y, g3, kp hy⟩
/-- a field's check while its numbers are set -/
def ONE (μ : dW) (P : Nat → Prop) (a b0 k lo hi : Nat) : Prop := (∃ (b c e : Nat) (g w : Nat → Int32) (h : Nat → Option Nat), OC8 μ b0 (nI 35) (nI lo) (nI hi) b c e 0 0 g w h ∧ P b0 ∧ P b ∧ P c ∧ P e) ∧ ((k = 0 ∧ a = b0) ∨ (k = 1 ∧ a ≠ b0 ∧ ∃ (b c e : Nat) (g w : Nat → Int32) (h : Nat → Option Nat), OC8 μ a (nI 33) (nI 0) (nI 0) b c e 1 0 g w h ∧ g 0 = nI 0 ∧ h 0 = some b0 ∧ P a ∧ P b ∧ P c ∧ P e))
theorem CL_leaf {μ : dW} {P : Nat → Prop} {d a s lo hi b c e : Nat} {g w : Nat → Int32} {h : Nat → Option Nat} (hO : OC8 μ a (nI s) (nI lo) (nI hi) b c e 0 0 g w h) (p1 : P a) (p2 : P b) (p3 : P c) (p4 : P e) : CL μ P (d + 1) a (ckmk s lo hi [] []) :=
  ⟨b, c, e, g, w, h, hO.1, p1, p2, p3, p4, hO.2.1, hO.2.2.1, hO.2.2.2, fun j x hj => absurd (show ([] : List Nat)[j]? = some x from hj) (by simp), fun j q hj => absurd (show ([] : List (Nat × Ck d))[j]? = some q from hj) (by simp)⟩
theorem ONE.cl {μ : dW} {P : Nat → Prop} {a b0 : Nat} {x : XD} (h : ONE μ P a b0 (xdQ x) (xdL x) (xdH x)) : CL μ P 2 a (xck x) := by
  obtain ⟨⟨b, c, e, g, w, hh, hO, p1, p2, p3, p4⟩, hc⟩ := h
  unfold xck
  rcases hc with ⟨hk, rfl⟩ | ⟨hk, hne, b', c', e', g', w', h', hO', g0, h0, q1, q2, q3, q4⟩
  · rw [if_pos hk]
    exact CL_leaf hO p1 p2 p3 p4
  · rw [if_neg (by omega), if_pos hk]
    refine ⟨b', c', e', g', w', h', hO'.1, q1, q2, q3, q4, hO'.2.1, hO'.2.2.1, hO'.2.2.2, fun j x hj => ?_, fun j q hj => ?_⟩
    · have hj : ([] : List Nat)[j]? = some x := hj
      simp at hj
    · have hj : ([((0 : Nat), (ckmk (d := 0) 35 (xdL x) (xdH x) [] [] : Ck 1))] : List (Nat × Ck 1))[j]? = some q := hj
      have hlt := (List.getElem?_eq_some_iff.mp hj).1
      have e0 : j = 0 := by simpa using hlt
      subst e0
      have hj : ((0 : Nat), (ckmk (d := 0) 35 (xdL x) (xdH x) [] [] : Ck 1)) = q := Option.some.inj hj
      subst hj
      exact ⟨g0, b0, h0, CL_leaf (d := 0) hO p1 p2 p3 p4⟩
theorem ONE.set {μ : dW} {P : Nat → Prop} {a b0 k lo hi : Nat} (h : ONE μ P a b0 k lo hi) : ∃ f, μ b0 = some (eO 8 f) ∧ 2 < f.length ∧ f[1]? = some (.int (nI lo)) ∧ (∀ lo', ONE (dset μ b0 (eO 8 (f.set 1 (.int (nI lo'))))) P a b0 k lo' hi) ∧ ∀ hi', ONE (dset μ b0 (eO 8 (f.set 2 (.int (nI hi'))))) P a b0 k lo hi' := by
  obtain ⟨⟨b, c, e, g, w, hh, hO, p1, p2, p3, p4⟩, hc⟩ := h
  obtain ⟨o1, o2, o3, o4⟩ := hO
  have nb : b ≠ b0 := fun z => by rw [z, o1] at o2; cases o2
  have nc : c ≠ b0 := fun z => by rw [z, o1] at o3; cases o3
  have ne : e ≠ b0 := fun z => by rw [z, o1] at o4; cases o4
  have rest : ∀ f, (k = 0 ∧ a = b0) ∨ (k = 1 ∧ a ≠ b0 ∧ ∃ (b c e : Nat) (g w : Nat → Int32) (h : Nat → Option Nat), OC8 (dset μ b0 (eO 8 f)) a (nI 33) (nI 0) (nI 0) b c e 1 0 g w h ∧ g 0 = nI 0 ∧ h 0 = some b0 ∧ P a ∧ P b ∧ P c ∧ P e) := by
    intro f
    rcases hc with ⟨hk, ha⟩ | ⟨hk, hne, b', c', e', g', w', h', ⟨r1, r2, r3, r4⟩, g0, h0, q1, q2, q3, q4⟩
    · exact Or.inl ⟨hk, ha⟩
    · have mb : b' ≠ b0 := fun z => by rw [z, o1] at r2; cases r2
      have mc : c' ≠ b0 := fun z => by rw [z, o1] at r3; cases r3
      have me : e' ≠ b0 := fun z => by rw [z, o1] at r4; cases r4
      exact Or.inr ⟨hk, hne, b', c', e', g', w', h', ⟨(dset_ne _ _ hne).trans r1, (dset_ne _ _ mb).trans r2, (dset_ne _ _ mc).trans r3, (dset_ne _ _ me).trans r4⟩, g0, h0, q1, q2, q3, q4⟩
  refine ⟨_, o1, Nat.le_of_ble_eq_true rfl, rfl, fun lo' => ⟨⟨b, c, e, g, w, hh, ⟨dset_same _ _ _, (dset_ne _ _ nb).trans o2, (dset_ne _ _ nc).trans o3, (dset_ne _ _ ne).trans o4⟩, p1, p2, p3, p4⟩, rest _⟩, fun hi' => ⟨⟨b, c, e, g, w, hh, ⟨dset_same _ _ _, (dset_ne _ _ nb).trans o2, (dset_ne _ _ nc).trans o3, (dset_ne _ _ ne).trans o4⟩, p1, p2, p3, p4⟩, rest _⟩⟩
theorem ONE.kept {μ μ' : dW} {P : Nat → Prop} {a b0 k lo hi : Nat} (h : ONE μ P a b0 k lo hi) (hk : ∀ q, μ q ≠ none → (∀ n f, μ q ≠ some (eA 1 n f)) → μ' q = μ q) : ONE μ' P a b0 k lo hi := by
  have kk : ∀ q x, μ q = some x → (∀ n f, x ≠ eA 1 n f) → μ' q = some x := fun q x hx hn => (hk q (ne_none hx) (fun n f z => hn n f (Option.some.inj (hx.symm.trans z)))).trans hx
  have ko : ∀ {a : Nat} {s lo hi : Int32} {b c e n m : Nat} {g w : Nat → Int32} {h : Nat → Option Nat}, OC8 μ a s lo hi b c e n m g w h → OC8 μ' a s lo hi b c e n m g w h := fun ⟨h1, h2, h3, h4⟩ => ⟨kk _ _ h1 (fun n f z => by cases z), kk _ _ h2 (fun n f z => by cases z), kk _ _ h3 (fun n f z => by cases z), kk _ _ h4 (fun n f z => by cases z)⟩
  obtain ⟨⟨b, c, e, g, w, hh, hO, p1, p2, p3, p4⟩, hc⟩ := h
  refine ⟨⟨b, c, e, g, w, hh, ko hO, p1, p2, p3, p4⟩, ?_⟩
  rcases hc with hc | ⟨hk, hne, b', c', e', g', w', h', hO', r⟩
  · exact Or.inl hc
  · exact Or.inr ⟨hk, hne, b', c', e', g', w', h', ko hO', r⟩
/-! a part told alone -/
theorem fl_one' {c : CT} {V : VT} {k lo hi K N : Nat} (hk : k ≤ 1) (h : XKN c 0 0 0 k lo hi) (w : WFV V) (hK : V.2 0 0 = K) (hN : V.2 1 0 = N) : fl c V = (xcl 0 (acd k K N lo hi), 0) := by
  have e : fl c V = lk c V (118 + 2) 0 0 := rfl
  rw [e, lk_leaf hk h, w.2.2.2.2.1, hK, hN]
theorem c_TP_putk (B : dB) (ax : Nat → Nat) {σ : sS} {μ : dW} {tp ca : Nat} : ∀ {d : Nat} {t : Tr d}, TPE μ tp ca (tlet d t) → twf d t → tsz d t ≤ 20 → d ≤ 5 → ∀ {v : VT} {c : CT} {im : Option (VT × CT)}, XL σ v c im [] → ∀ (D u : Nat), 300 ≤ D → ∀ (k : Int32 → sS → dW → Prop), (∀ σ' v', v'.2 0 0 = trK0 d t → v'.2 1 0 = trN0 d t → XL σ' v' c im [] → k (nI (tsz d t)) σ' μ) → DCJ B ax (D + 1) u y_TP_put [.ref tp, .ref (ax 0), .int 0] σ μ (qI k)
  | 0, t, _, hw, _, _ => hw.elim
  | d + 1, t, hT, hw, h20, h5 => fun hX D u hD k hk => by
    have hl := tlet_len hw
    exact c_TP_putv B ax hT (by omega) hw h20 h5 hX D u hD k (fun σ' v' v hx => hk σ' v' v.2.1 v.2.2.1 hx)
theorem tlet_len' : ∀ {d : Nat} {t : Tr d}, twf d t → (tlet d t).length + 1 ≤ 3 * tsz d t := fun h => tlet_len h
