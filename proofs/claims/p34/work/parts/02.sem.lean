/-! what a method does on worlds: Jd, and the weakest start of one instruction -/
abbrev rmD (d : Nat) : Room := { frames := d, cells := 0, slots := 0, locals := 40 * d + 40 }
def wsY (y : sY) : List Cond := .code y.1 y.2.1 y.2.2.1 y.2.2.2 :: ALL
def sCx (Y : List kd) (y : sY) (d : Nat) (D : va_G) (cA : ClassId) (p : Program) (R : Room) (s : State) (m : MethodId) (args : Array Value) (meth : Method) (c : Code) : Prop :=
  p.tables.exec = Jvm.exec ∧ c.code = y.2.1 ∧ c.maxLocals = y.2.2.1 ∧ s.vm.findClass y.1.cls = some m.cls ∧ meth.sig.returnType = y.2.2.2 ∧ meth.locks = false ∧ (∀ w ∈ ALL, w.before args s = true) ∧ (∀ w ∈ NW, va_Nw w s) ∧ va_K D classes [(cA, .int)] s ∧ d ≤ R.frames ∧ 40 * d + 40 ≤ R.locals ∧ lok Y
def sQc (Y : List kd) (D : va_G) (cA : ClassId) (ad : Nat → Nat) (A : Nat → Prop) (Q : Option sv → sS → Prop) : Array Value → State → Outcome → State → Prop := fun _ st o t =>
  (∃ (r : Option sv) (σ : sS), o = .returned (r.map (cv ad)) ∧ (∀ v ∈ r, wtv Y v) ∧ Q r σ ∧ va_P D classes (wl cA ad σ Y) t.heap) ∧ va_F A st t
/-- from here the method comes to its end, with Q of its answer and of the world -/
def Jd (Y : List kd) (d : Nat) (y : sY) (pc : Nat) (ls : sL) (st : List sv) (σ : sS) (Q : Option sv → sS → Prop) : Prop :=
  ∀ (l : Launch) (D : va_G) (cA : ClassId) (ad : Nat → Nat) (A : Nat → Prop) (p : Program) (e : Env) (R : Room) (s : State) (m : MethodId) (args : Array Value) (below : List Frame) (meth : Method) (c : Code),
    sCx Y y d D cA p R s m args meth c → (∀ q : Nat, s.heap.size ≤ q → A q) →
    ∀ (H : Heap) (locs : List Loc) (lsA : Array Slot), va_P D classes (wl cA ad σ Y) H → va_D A (wl cA ad σ Y) → va_S A s.heap H locs → lv_has lsA y.2.2.1 (cvL ad ls) → wtL Y ls → wtS Y st →
      W p l e R s m args below meth c H locs 0 0 (MQ below (sQc Y D cA ad A Q) args s 0 0 A) (F0 m pc lsA (st.map (cv ad)))
def argL : Nat → List sv → sL
  | _, [] => []
  | i, v :: r => (i, v) :: argL (cond (cat2 v) (i + 2) (i + 1)) r
/-- a call, by its arguments (the receiver first) -/
def CJ (Y : List kd) (d : Nat) (y : sY) (as : List sv) (σ : sS) (Q : Option sv → sS → Prop) : Prop := Jd Y d y 0 (argL 0 as) [] σ Q
theorem Jd.mono {Y : List kd} {d d' : Nat} {y : sY} {pc : Nat} {ls : sL} {st : List sv} {σ : sS} {Q : Option sv → sS → Prop} (h : Jd Y d y pc ls st σ Q) (hd : d ≤ d') : Jd Y d' y pc ls st σ Q := by
  intro l D cA ad A p e R s m args below meth c hC
  obtain ⟨h1, h2, h3, h4, h5, h6, h7, h8, h9, h10, h11, h12⟩ := hC
  exact h l D cA ad A p e R s m args below meth c ⟨h1, h2, h3, h4, h5, h6, h7, h8, h9, Nat.le_trans hd h10, by omega, h12⟩
theorem Jd.sub {Y : List kd} {d : Nat} {y : sY} {pc : Nat} {ls ls' : sL} {st : List sv} {σ : sS} {Q : Option sv → sS → Prop} (h : Jd Y d y pc ls' st σ Q) (hm : ∀ q ∈ ls', q ∈ ls) : Jd Y d y pc ls st σ Q := by
  intro l D cA ad A p e R s m args below meth c hC hA H locs lsA hP hD hS hl hw hws
  refine h l D cA ad A p e R s m args below meth c hC hA H locs lsA hP hD hS (lv_has_mono hl ?_) (fun q hq => hw q (hm q hq)) hws
  intro q hq
  obtain ⟨r, hr, rfl⟩ := List.mem_map.mp hq
  exact List.mem_map.mpr ⟨r, hm r hr, rfl⟩
theorem W.imp {p : Program} {l : Launch} {e : Env} {R : Room} {s : State} {m : MethodId} {args : Array Value} {below : List Frame} {meth : Method} {c : Code} {H : Heap} {locs : List Loc} {cells slots : Nat} {Q Q' : State → Prop} {g : JFrame} (h : W p l e R s m args below meth c H locs cells slots Q g) (hQ : ∀ t, Q t → Q' t) : W p l e R s m args below meth c H locs cells slots Q' g := by
  intro T hT X
  obtain ⟨t, a, b⟩ := h T hT X
  exact ⟨t, a, hQ t b⟩
theorem Jd.imp {Y : List kd} {d : Nat} {y : sY} {pc : Nat} {ls : sL} {st : List sv} {σ : sS} {Q Q' : Option sv → sS → Prop} (h : Jd Y d y pc ls st σ Q) (hQ : ∀ r σ, Q r σ → Q' r σ) : Jd Y d y pc ls st σ Q' := by
  intro l D cA ad A p e R s m args below meth c hC hA H locs lsA hP hD hS hl hw hws
  refine W.imp (h l D cA ad A p e R s m args below meth c hC hA H locs lsA hP hD hS hl hw hws) ?_
  rintro t ⟨o, h1, h2, ⟨⟨r, σ', e1, e2, e3, e4⟩, h4⟩, h5⟩
  exact ⟨o, h1, h2, ⟨⟨r, σ', e1, e2, hQ r σ' e3, e4⟩, h4⟩, h5⟩
theorem CJ.mono {Y : List kd} {d d' : Nat} {y : sY} {as : List sv} {σ : sS} {Q : Option sv → sS → Prop} (h : CJ Y d y as σ Q) (hd : d ≤ d') : CJ Y d' y as σ Q := Jd.mono h hd
theorem CJ.imp {Y : List kd} {d : Nat} {y : sY} {as : List sv} {σ : sS} {Q Q' : Option sv → sS → Prop} (h : CJ Y d y as σ Q) (hQ : ∀ r σ, Q r σ → Q' r σ) : CJ Y d y as σ Q' := Jd.imp h hQ
/-! the contract of the machine out of CJ -/
def sPc (Y : List kd) (D : va_G) (cA : ClassId) (ad : Nat → Nat) (σ : sS) (as : List sv) (sz : Nat) : Array Value → State → Prop :=
  va_Pc (as.map (cv ad)) (fun U => U.heap.size = sz ∧ va_P D classes (wl cA ad σ Y) U.heap ∧ va_K D classes [(cA, .int)] U ∧ va_D (fun _ => True) (wl cA ad σ Y) ∧ ∀ w ∈ NW, va_Nw w U)
theorem sPc_blind {Y : List kd} {D : va_G} {cA : ClassId} {ad : Nat → Nat} {σ : sS} {as : List sv} {sz : Nat} : FrameBlind (sPc Y D cA ad σ as sz) := by
  rintro a U g mk ⟨h1, h2, h3, h4, h5, h6⟩
  exact ⟨h1, h2, h3, va_K.moved (u := U) (U := U.calling g mk a) (Vm.Alike.refl U.vm) h4, h5, fun w hw => va_Nw.same (NW_tab w hw) (u := U) (U := U.calling g mk a) rfl (h6 w hw)⟩
theorem argL_cv (ad : Nat → Nat) : ∀ (as : List sv) (i : Nat), cvL ad (argL i as) = lv_args i (as.map (cv ad))
  | [], i => rfl
  | v :: r, i => by
    simp only [argL, cvL, List.map_cons, lv_args]
    have h := argL_cv ad r (cond (cat2 v) (i + 2) (i + 1))
    simp only [cvL] at h
    rw [h, cv_cat]
    cases cat2 v <;> rfl
theorem argL_mem : ∀ (as : List sv) (i : Nat) (q : Nat × sv), q ∈ argL i as → q.2 ∈ as
  | [], i, q, h => by cases h
  | v :: r, i, q, h => by
    rcases List.mem_cons.mp h with rfl | h
    · exact List.mem_cons_self
    · exact List.mem_cons_of_mem _ (argL_mem r _ q h)
theorem met_of {Y : List kd} {d : Nat} {y : sY} {as : List sv} {σ : sS} {Q : Option sv → sS → Prop} (h : CJ Y d y as σ Q) (hy : plainName y.1.cls = true) (hY : lok Y) (hwt : wtS Y as) (l : Launch) (D : va_G) (cA : ClassId) (ad : Nat → Nat) (sz : Nat) (hn : (lg_sl (as.map (cv ad))).length ≤ y.2.2.1) :
    Met l y.1 (wsY y) (rmD d) (sPc Y D cA ad σ as sz) (sQc Y D cA ad (va_A (wl cA ad σ Y) sz) Q) 0 0 (va_A (wl cA ad σ Y) sz) := by
  refine Met.ofW (cc := y.2.1) (maxL := y.2.2.1) (ret := y.2.2.2) (ws' := ALL) hy rfl ?_
  intro p e s m args below meth c s₁ B hml hv
  obtain ⟨rfl, hsz, hP, hK, hD0, hN⟩ := hv
  have hts := atoms_spec (ws := wsY y) B.pre
  have hown : s.vm.findClass y.1.cls = some m.cls := findClass_of_methodNamed B.named
  subst hsz
  have hl := lv_entry (as.map (cv ad)) (n := y.2.2.1) hn
  rw [lg_entry_eq]
  rw [← argL_cv] at hl
  exact h l D cA ad _ p e _ s m _ below meth c ⟨B.exec, B.bytes, hml, hown, B.returns, B.notSynchronized, fun w hw => hts w (List.mem_cons_of_mem _ hw), hN, hK, Nat.le_refl _, Nat.le_refl _, hY⟩ (fun q hq => Or.inr hq) s.heap [] _ hP hD0.self va_S.rf hl (fun q hq => hwt _ (argL_mem as 0 q hq)) (fun v hv => by cases hv)
