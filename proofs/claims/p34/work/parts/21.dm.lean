/-! THE MOVING MACHINE (dm): the law's own objects, at addresses that come, beside the class's world at fixed places. -/
abbrev dE : Type := (Nat × List Value) ⊕ ((Nat × Nat × (Nat → Int32)) ⊕ (Nat × Nat × (Nat → Option Nat)))
abbrev dW : Type := Nat → Option dE
abbrev dL : Type := List (Nat × Value)
abbrev dQ : Type := Option Value → sS → dW → Prop
/-- the script: where it lies, how long, what it holds -/
abbrev dB : Type := Nat × Nat × (Nat → Int32)
/-- the classes of int[], boolean[], Val[], Chk[] -/
abbrev dK : Type := ClassId × ClassId × ClassId × ClassId
abbrev eO (ci : Nat) (fs : List Value) : dE := .inl (ci, fs)
abbrev eA (k n : Nat) (f : Nat → Int32) : dE := .inr (.inl (k, n, f))
abbrev eR (k n : Nat) (g : Nat → Option Nat) : dE := .inr (.inr (k, n, g))
def dset (μ : dW) (a : Nat) (e : dE) : dW := fun q => if q = a then some e else μ q
theorem dset_same (μ : dW) (a : Nat) (e : dE) : dset μ a e a = some e := by simp [dset]
theorem dset_ne (μ : dW) {a q : Nat} (e : dE) (h : q ≠ a) : dset μ a e q = μ q := by simp [dset, h]
def dTy (K : dK) : List (ClassId × FieldType) := [(K.1, .int), (K.2.1, .boolean), (K.2.2.1, .object "GathersAllFaultsLaw$Val"), (K.2.2.2, .object "GathersAllFaultsLaw$Chk")]
def dcv (K : dK) (e : dE) : va_E := match e with
  | .inl o => .inr o
  | .inr (.inl q) => .inl (cond (Nat.beq q.1 0) K.1 K.2.1, q.2.1, .inl q.2.2)
  | .inr (.inr q) => .inl (cond (Nat.beq q.1 0) K.2.2.1 K.2.2.2, q.2.1, .inr (.inr (.inr (.inr q.2.2))))
abbrev wG (K : dK) (ax : Nat → Nat) (σ : sS) : va_W := wl K.1 ax σ LX
def dCov (K : dK) (ws : va_W) (μ : dW) : Prop := ∀ (a : Nat) (e : dE), μ a = some e → ∃ k : Nat, ws[k]? = some (a, dcv K e)
def dP (D : va_G) (K : dK) (ax : Nat → Nat) (σ : sS) (ws : va_W) (μ : dW) (A : Nat → Prop) (H : Heap) : Prop := dCov K ws μ ∧ va_P D classes (wG K ax σ ++ ws) H ∧ va_D A (wG K ax σ ++ ws)
theorem dP_at {D : va_G} {K : dK} {ax : Nat → Nat} {σ : sS} {ws : va_W} {μ : dW} {A : Nat → Prop} {H : Heap} (h : dP D K ax σ ws μ A H) {a : Nat} {e : dE} (ha : μ a = some e) : ∃ k : Nat, (wG K ax σ ++ ws)[(wG K ax σ).length + k]? = some (a, dcv K e) := by
  obtain ⟨k, hk⟩ := h.1 a e ha
  exact ⟨k, by rw [List.getElem?_append_right (Nat.le_add_right _ _), Nat.add_sub_cancel_left]; exact hk⟩
theorem dP_set {D : va_G} {K : dK} {ax : Nat → Nat} {σ : sS} {ws : va_W} {μ : dW} {A : Nat → Prop} {H H1 : Heap} (h : dP D K ax σ ws μ A H) {a k : Nat} {e0 e : dE} (hk : (wG K ax σ ++ ws)[(wG K ax σ).length + k]? = some (a, dcv K e0))
    (hP : va_P D classes ((wG K ax σ ++ ws).set ((wG K ax σ).length + k) (a, dcv K e)) H1) (hD : va_D A ((wG K ax σ ++ ws).set ((wG K ax σ).length + k) (a, dcv K e))) : dP D K ax σ (ws.set k (a, dcv K e)) (dset μ a e) A H1 := by
  have e1 : (wG K ax σ ++ ws).set ((wG K ax σ).length + k) (a, dcv K e) = wG K ax σ ++ ws.set k (a, dcv K e) := by
    rw [List.set_append_right _ _ (Nat.le_add_right _ _), Nat.add_sub_cancel_left]
  rw [e1] at hP hD
  have hk2 : ws[k]? = some (a, dcv K e0) := by rw [List.getElem?_append_right (Nat.le_add_right _ _), Nat.add_sub_cancel_left] at hk; exact hk
  refine ⟨fun b e' hb => ?_, hP, hD⟩
  by_cases z : b = a
  · subst z
    rw [dset_same] at hb
    cases hb
    exact ⟨k, List.getElem?_set_self (List.getElem?_eq_some_iff.mp hk2).1⟩
  · rw [dset_ne μ e z] at hb
    obtain ⟨j, hj⟩ := h.1 b e' hb
    refine ⟨j, ?_⟩
    rw [List.getElem?_set_ne (fun q => ?_)]
    · exact hj
    · subst q
      rw [hk2] at hj
      exact z (Prod.mk.inj (Option.some.inj hj)).1.symm
theorem dP_push {D : va_G} {K : dK} {ax : Nat → Nat} {σ : sS} {ws : va_W} {μ : dW} {A : Nat → Prop} {H H1 : Heap} (h : dP D K ax σ ws μ A H) {q : Nat} {e : dE}
    (hP : va_P D classes ((wG K ax σ ++ ws) ++ [(q, dcv K e)]) H1) (hD : va_D A ((wG K ax σ ++ ws) ++ [(q, dcv K e)])) : μ q = none ∧ dP D K ax σ (ws ++ [(q, dcv K e)]) (dset μ q e) A H1 := by
  have hq : μ q = none := by
    cases hm : μ q with
    | none => rfl
    | some e0 =>
      obtain ⟨k, hk⟩ := dP_at h hm
      have hl := (List.getElem?_eq_some_iff.mp hk).1
      have := hD.1 _ (wG K ax σ ++ ws).length (q, dcv K e0) (q, dcv K e) (by rw [List.getElem?_append_left hl]; exact hk) (by simp) rfl
      omega
  refine ⟨hq, fun b e' hb => ?_, by rw [← List.append_assoc]; exact hP, by rw [← List.append_assoc]; exact hD⟩
  by_cases z : b = q
  · subst z
    rw [dset_same] at hb
    cases hb
    exact ⟨ws.length, by simp⟩
  · rw [dset_ne μ e z] at hb
    obtain ⟨j, hj⟩ := h.1 b e' hb
    exact ⟨j, by rw [List.getElem?_append_left (List.getElem?_eq_some_iff.mp hj).1]; exact hj⟩
def nmV : String := "GathersAllFaultsLaw$Val"
def nmC : String := "GathersAllFaultsLaw$Chk"
def dCx (B : dB) (d : Nat) (y : sY) (D : va_G) (K : dK) (A : Nat → Prop) (p : Program) (R : Room) (s : State) (m : MethodId) (args : Array Value) (meth : Method) (c : Code) : Prop :=
  p.tables.exec = Jvm.exec ∧ c.code = y.2.1 ∧ c.maxLocals = y.2.2.1 ∧ s.vm.findClass y.1.cls = some m.cls ∧ meth.sig.returnType = y.2.2.2 ∧ meth.locks = false ∧ (∀ w ∈ ALL, w.before args s = true) ∧ (∀ w ∈ NW, va_Nw w s) ∧ (∀ w ∈ NW2, va_Nw w s) ∧ va_Nw (.castable "[I" "java/lang/Cloneable") s ∧ va_AO nmV s ∧ va_AO nmC s ∧
  va_K D classes (dTy K) s ∧ d ≤ R.frames ∧ 40 * d + 40 ≤ R.locals ∧ (∀ q : Nat, s.heap.size ≤ q → A q) ∧ ¬ A B.1 ∧ va_X B.1 B.2.1 B.2.2 s s.heap ∧ meth.name = y.1.name
def dQc (D : va_G) (K : dK) (ax : Nat → Nat) (A : Nat → Prop) (Q : dQ) : Array Value → State → Outcome → State → Prop := fun _ st o t =>
  (∃ (r : Option Value) (σ : sS) (μ : dW) (ws : va_W), o = .returned r ∧ Q r σ μ ∧ dP D K ax σ ws μ A t.heap) ∧ va_F A st t
/-- from here the method comes to its end, with u cells and slots at most, and Q of its answer and of the worlds -/
def DJ (B : dB) (ax : Nat → Nat) (d u : Nat) (y : sY) (pc : Nat) (ls : dL) (st : List Value) (σ : sS) (μ : dW) (Q : dQ) : Prop :=
  ∀ (l : Launch) (D : va_G) (K : dK) (A : Nat → Prop) (p : Program) (e : Env) (R : Room) (s : State) (m : MethodId) (args : Array Value) (below : List Frame) (meth : Method) (c : Code),
    dCx B d y D K A p R s m args meth c →
    ∀ (H : Heap) (locs : List Loc) (lsA : Array Slot) (ws : va_W) (cells slots mc ms : Nat), dP D K ax σ ws μ A H → va_S A s.heap H locs → lv_has lsA y.2.2.1 ls → cells + u ≤ mc → slots + u ≤ ms → mc ≤ R.cells → ms ≤ R.slots →
      W p l e R s m args below meth c H locs cells slots (MQ below (dQc D K ax A Q) args s mc ms A) (F0 m pc lsA st)
def dArg : Nat → List Value → dL
  | _, [] => []
  | i, v :: r => (i, v) :: dArg (i + 1) r
def c1 (v : Value) : Bool := match v with
  | .long _ => false
  | .double _ => false
  | _ => true
def c1s : List Value → Bool
  | [] => true
  | v :: r => c1 v && c1s r
def lenV : List Value → Nat
  | [] => 0
  | _ :: r => lenV r + 1
/-- a call, by its arguments (the receiver first) -/
def DCJ (B : dB) (ax : Nat → Nat) (d u : Nat) (y : sY) (as : List Value) (σ : sS) (μ : dW) (Q : dQ) : Prop := DJ B ax d u y 0 (dArg 0 as) [] σ μ Q
theorem DJ.mono {B : dB} {ax : Nat → Nat} {d d' u u' : Nat} {y : sY} {pc : Nat} {ls : dL} {st : List Value} {σ : sS} {μ : dW} {Q : dQ} (h : DJ B ax d u y pc ls st σ μ Q) (hd : d ≤ d') (hu : u ≤ u') : DJ B ax d' u' y pc ls st σ μ Q := by
  intro l D K A p e R s m args below meth c hC H locs lsA ws cells slots mc ms hP hS hl h1 h2
  obtain ⟨g1, g2, g3, g4, g5, g6, g7, g8, g9, g10, g11, g12, g13, g14, g15, g16⟩ := hC
  exact h l D K A p e R s m args below meth c ⟨g1, g2, g3, g4, g5, g6, g7, g8, g9, g10, g11, g12, g13, Nat.le_trans hd g14, by omega, g16⟩ H locs lsA ws cells slots mc ms hP hS hl (by omega) (by omega)
theorem DJ.sub {B : dB} {ax : Nat → Nat} {d u : Nat} {y : sY} {pc : Nat} {ls ls' : dL} {st : List Value} {σ : sS} {μ : dW} {Q : dQ} (h : DJ B ax d u y pc ls' st σ μ Q) (hm : ∀ q ∈ ls', q ∈ ls) : DJ B ax d u y pc ls st σ μ Q := by
  intro l D K A p e R s m args below meth c hC H locs lsA ws cells slots mc ms hP hS hl
  exact h l D K A p e R s m args below meth c hC H locs lsA ws cells slots mc ms hP hS (lv_has_mono hl hm)
theorem DJ.imp {B : dB} {ax : Nat → Nat} {d u : Nat} {y : sY} {pc : Nat} {ls : dL} {st : List Value} {σ : sS} {μ : dW} {Q Q' : dQ} (h : DJ B ax d u y pc ls st σ μ Q) (hQ : ∀ r σ μ, Q r σ μ → Q' r σ μ) : DJ B ax d u y pc ls st σ μ Q' := by
  intro l D K A p e R s m args below meth c hC H locs lsA ws cells slots mc ms hP hS hl h1 h2 h3 h4
  refine W.imp (h l D K A p e R s m args below meth c hC H locs lsA ws cells slots mc ms hP hS hl h1 h2 h3 h4) ?_
  rintro t ⟨o, h1, h2, ⟨⟨r, σ', μ', ws', e1, e2, e3⟩, h4⟩, h5⟩
  exact ⟨o, h1, h2, ⟨⟨r, σ', μ', ws', e1, hQ _ _ _ e2, e3⟩, h4⟩, h5⟩
theorem DCJ.mono {B : dB} {ax : Nat → Nat} {d d' u u' : Nat} {y : sY} {as : List Value} {σ : sS} {μ : dW} {Q : dQ} (h : DCJ B ax d u y as σ μ Q) (hd : d ≤ d') (hu : u ≤ u') : DCJ B ax d' u' y as σ μ Q := DJ.mono h hd hu
theorem DCJ.imp {B : dB} {ax : Nat → Nat} {d u : Nat} {y : sY} {as : List Value} {σ : sS} {μ : dW} {Q Q' : dQ} (h : DCJ B ax d u y as σ μ Q) (hQ : ∀ r σ μ, Q r σ μ → Q' r σ μ) : DCJ B ax d u y as σ μ Q' := DJ.imp h hQ
theorem c1_cat {v : Value} (h : c1 v = true) : v.category = 1 := by cases v <;> first | rfl | cases h
theorem c1s_args : ∀ {as : List Value} (i : Nat), c1s as = true → lv_args i as = dArg i as ∧ (lg_sl as).length = as.length
  | [], i, _ => ⟨rfl, rfl⟩
  | v :: r, i, h => by
    simp only [c1s, Bool.and_eq_true] at h
    have hv := c1_cat h.1
    obtain ⟨e1, e2⟩ := c1s_args (i + 1) h.2
    refine ⟨?_, ?_⟩
    · simp only [lv_args, dArg, hv]
      rw [if_neg (by decide), e1]
    · simp only [lg_sl] at e2 ⊢
      rw [List.flatMap_cons, List.length_append, e2, hv, if_neg (by decide)]
      simp
      omega
theorem c1s_sum : ∀ {as : List Value}, c1s as = true → (as.map fun v => v.category).sum = as.length
  | [], _ => rfl
  | v :: r, h => by
    simp only [c1s, Bool.and_eq_true] at h
    simp only [List.map_cons, List.sum_cons, List.length_cons, c1_cat h.1, c1s_sum h.2]
    omega
theorem lenV_eq : ∀ as : List Value, lenV as = as.length
  | [] => rfl
  | _ :: r => by simp [lenV, lenV_eq r]
abbrev rmU (d u : Nat) : Room := { frames := d, cells := u, slots := u, locals := 40 * d + 40 }
def dPc (B : dB) (D : va_G) (K : dK) (ax : Nat → Nat) (σ : sS) (ws : va_W) (μ : dW) (as : List Value) (sz : Nat) : Array Value → State → Prop :=
  va_Pc as (fun U => U.heap.size = sz ∧ dP D K ax σ ws μ (fun _ => True) U.heap ∧ va_K D classes (dTy K) U ∧ (∀ w ∈ NW, va_Nw w U) ∧ (∀ w ∈ NW2, va_Nw w U) ∧ va_Nw (.castable "[I" "java/lang/Cloneable") U ∧ va_AO nmV U ∧ va_AO nmC U ∧ ¬ va_A (wG K ax σ ++ ws) sz B.1 ∧ va_X B.1 B.2.1 B.2.2 U U.heap)
theorem dPc_blind {B : dB} {D : va_G} {K : dK} {ax : Nat → Nat} {σ : sS} {ws : va_W} {μ : dW} {as : List Value} {sz : Nat} : FrameBlind (dPc B D K ax σ ws μ as sz) := by
  rintro a U g mk ⟨h1, h2, h3, h4, h5, h6, h7, h8, h9, h10, h11⟩
  exact ⟨h1, h2, h3, va_K.moved (u := U) (U := U.calling g mk a) (Vm.Alike.refl U.vm) h4, fun w hw => va_Nw.same (NW_tab w hw) (u := U) (U := U.calling g mk a) rfl (h5 w hw), fun w hw => va_Nw.same (NW2_tab w hw) (u := U) (U := U.calling g mk a) rfl (h6 w hw), va_Nw.same rfl (u := U) (U := U.calling g mk a) rfl h7, va_AO.moved (u := U) (U := U.calling g mk a) (Vm.Alike.refl U.vm) h8, va_AO.moved (u := U) (U := U.calling g mk a) (Vm.Alike.refl U.vm) h9, h10, va_X.moved (u := U) (U := U.calling g mk a) (Vm.Alike.refl U.vm) h11⟩
theorem met_ofD {B : dB} {ax : Nat → Nat} {d u : Nat} {y : sY} {as : List Value} {σ : sS} {μ : dW} {Q : dQ} (h : DCJ B ax d u y as σ μ Q) (hy : plainName y.1.cls = true) (hc : c1s as = true) (hn : as.length ≤ y.2.2.1) (l : Launch) (D : va_G) (K : dK) (ws : va_W) (sz : Nat) :
    Met l y.1 (wsY y) (rmU d u) (dPc B D K ax σ ws μ as sz) (dQc D K ax (va_A (wG K ax σ ++ ws) sz) Q) u u (va_A (wG K ax σ ++ ws) sz) := by
  refine Met.ofW (cc := y.2.1) (maxL := y.2.2.1) (ret := y.2.2.2) (ws' := ALL) hy rfl ?_
  intro p e s m args below meth c s₁ B0 hml hv
  obtain ⟨rfl, hsz, hP, hK, hN, hN2, hcs, ho1, ho2, hb1, hb2⟩ := hv
  have hts := atoms_spec (ws := wsY y) B0.pre
  have hown : s.vm.findClass y.1.cls = some m.cls := findClass_of_methodNamed B0.named
  subst hsz
  obtain ⟨ha, hlen⟩ := c1s_args 0 hc
  have hl := lv_entry as (n := y.2.2.1) (by rw [hlen]; exact hn)
  rw [lg_entry_eq]
  rw [ha] at hl
  exact h l D K (va_A (wG K ax σ ++ ws) s.heap.size) p e _ s m _ below meth c ⟨B0.exec, B0.bytes, hml, hown, B0.returns, B0.notSynchronized, fun w hw => hts w (List.mem_cons_of_mem _ hw), hN, hN2, hcs, ho1, ho2, hK, Nat.le_refl _, Nat.le_refl _, fun q hq => Or.inr hq, hb1, hb2, (name_of_methodNamed B0.named B0.method).1⟩ s.heap [] _ ws 0 0 u u ⟨hP.1, hP.2.1, hP.2.2.self⟩ va_S.rf hl (by omega) (by omega) (Nat.le_refl _) (Nat.le_refl _)
