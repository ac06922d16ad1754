/-! the constructors: helpers -/
def NW2 : List Cond := [.methodLinkNest "GathersAllFaults" 21 ⟨"GathersAllFaults$Gatherer", "<init>", "()V"⟩ "GathersAllFaults", .methodLinkNest "GathersAllFaults" 28 ⟨"GathersAllFaults$ValueReader", "<init>", "()V"⟩ "GathersAllFaults", .methodLinkNest "GathersAllFaults$ValueReader" 3 ⟨"GathersAllFaults$Reader", "<init>", "()V"⟩ "GathersAllFaults", .methodLinkNest "GathersAllFaults" 35 ⟨"GathersAllFaults$CheckReader", "<init>", "()V"⟩ "GathersAllFaults", .methodLinkNest "GathersAllFaults$CheckReader" 3 ⟨"GathersAllFaults$Reader", "<init>", "()V"⟩ "GathersAllFaults", .methodLinkNest "GathersAllFaultsLaw" 40 ⟨"GathersAllFaultsLaw$Tape", "<init>", "()V"⟩ "GathersAllFaultsLaw"]
theorem NW2_tbl : ∀ w ∈ NW2, w ∈ tables_1 := (List.forall_mem_cons.mpr ⟨(List.mem_of_getElem? (i := 69) (by decide +kernel)), (List.forall_mem_cons.mpr ⟨(List.mem_of_getElem? (i := 170) (by decide +kernel)), (List.forall_mem_cons.mpr ⟨(List.mem_of_getElem? (i := 173) (by decide +kernel)), (List.forall_mem_cons.mpr ⟨(List.mem_of_getElem? (i := 213) (by decide +kernel)), (List.forall_mem_cons.mpr ⟨(List.mem_of_getElem? (i := 216) (by decide +kernel)), (List.forall_mem_cons.mpr ⟨(List.mem_of_getElem? (i := 531) (by decide +kernel)), (fun _ h => absurd h List.not_mem_nil)⟩)⟩)⟩)⟩)⟩)⟩)
theorem NW2_kind : ∀ w ∈ NW2, ∃ a i x h, w = .methodLinkNest a i x h := by
  intro w hw
  simp only [NW2, List.mem_cons, List.not_mem_nil, or_false] at hw
  rcases hw with rfl | rfl | rfl | rfl | rfl | rfl <;> exact ⟨_, _, _, _, rfl⟩
theorem NW2_warm {s U : State} (hW : s.WarmedH U.vm) : ∀ w ∈ NW2, va_Nw w s → va_Nw w U := by
  intro w hw h
  obtain ⟨a, i, x, hh, rfl⟩ := NW2_kind w hw
  exact va_Nw.warmM hW h
theorem NW2_tab : ∀ w ∈ NW2, w.onTables = true := by
  intro w hw
  obtain ⟨a, i, x, hh, rfl⟩ := NW2_kind w hw
  rfl
theorem aw_int : Cond.arrayClass .int ∈ ALL := ALL_in 66 (by decide +kernel) rfl
abbrev rmC (d mc ms : Nat) : Room := { frames := d, cells := mc, slots := ms, locals := 40 * d + 40 }
/-- a constructor's contract: on a fresh object of class ci with the fields fs0, the block of cells that it leaves, by its addresses -/
def Ctor (y : sY) (d mc ms ci : Nat) (fs0 : List Value) (post : ClassId → (Nat → Nat) → va_W) : Prop := ∀ (l : Launch) (D : va_G) (cA : ClassId) (h0 sz : Nat),
  Met l y.1 (wsY y) (rmC d mc ms) (va_Pc [.ref h0] (fun U => U.heap.size = sz ∧ va_P D classes [(h0, .inr (ci, fs0))] U.heap ∧ va_K D classes [(cA, .int)] U ∧ va_D (fun _ => True) [(h0, .inr (ci, fs0))] ∧ (∀ w ∈ NW, va_Nw w U) ∧ ∀ w ∈ NW2, va_Nw w U))
    (va_Qv (fun u : Nat → Nat => u 0 = h0) (fun u t => va_P D classes (post cA u) t.heap ∧ va_D (va_A [(h0, .inr (ci, fs0))] sz) (post cA u)) (va_A [(h0, .inr (ci, fs0))] sz)) mc ms (va_A [(h0, .inr (ci, fs0))] sz)
section CT
variable {p : Program} {l : Launch} {e : Env} {R : Room} {s : State} {m : MethodId} {args : Array Value} {below : List Frame} {meth : Method} {c : Code} {H : Heap} {locs : List Loc} {cells slots : Nat} {Qf : State → Prop}
variable {cc : ByteArray} {pc : Nat} {ls : Array Slot} {rest : List Value} {D : va_G} {cA : ClassId} {A : Nat → Prop} {ws : va_W} {H0 : Heap}
theorem x_newa (hx : p.tables.exec = Jvm.exec) (hb : c.code = cc) (hts : ∀ w ∈ ALL, w.before args s = true) (hK : va_K D classes [(cA, .int)] s) (hP : va_P D classes ws H) (hD : va_D A ws) (hS : va_S A H0 H locs) (hA : ∀ q, H0.size ≤ q → A q)
    {n : Int32} (N : Nat) (hn : ¬ n < 0) (hN : n.toNatClampNeg = N) (hbytes : N * 4 ≤ 536870912) (hcells : cells + 1 ≤ R.cells) (hslots : slots + N ≤ R.slots) (hdg : decode cc pc = .ok (.newarray .int, 2))
    (kk : ∀ (q : Nat) (H1 : Heap), va_P D classes (ws ++ [(q, .inl (cA, N, .inl (fun _ => 0)))]) H1 → va_D A (ws ++ [(q, .inl (cA, N, .inl (fun _ => 0)))]) → va_S A H0 H1 locs → W p l e R s m args below meth c H1 locs (cells + 1) (slots + N) Qf (F0 m (pc + 2) ls (.ref q :: rest))) : W p l e R s m args below meth c H locs cells slots Qf (F0 m pc ls (.int n :: rest)) := by
  refine va_newa (atype := .int) (ty := .int) hx hb (hts _ aw_int) rfl hK hP hD hS hA (N' := N) (a0 := (N, .inl (fun _ => 0))) (fun cA => rfl) hn hN hbytes hcells hslots hdg ?_
  intro q cA' H1 hK' hP' hD' hS'
  have e1 : s.vm.findClass ("[" ++ FieldType.int.toString) = some cA := (hK.2 0 _ rfl).2
  have e2 : s.vm.findClass ("[" ++ FieldType.int.toString) = some cA' := (hK'.2 1 _ rfl).2
  have e3 : cA' = cA := Option.some.inj (e2.symm.trans e1)
  subst e3
  exact kk q H1 hP' hD' hS'
/-- how a constructor is linked: by the class itself, or from a nest mate -/
def LinkC (own : String) (idx : Nat) (y : sY) : Prop := y.1.name = "<init>" ∧ plainName y.1.cls = true ∧ y.2.2.1 ≤ 21 ∧ y.2.2.2 = none ∧ notMH y.1.cls ∧ (parseMethodDescriptor y.1.desc).map (fun d => d.parameters.length) = some 0 ∧ Cond.code y.1 y.2.1 y.2.2.1 y.2.2.2 ∈ ALL ∧ Cond.initialized y.1.cls ∈ ALL ∧ Cond.instanceMethod y.1 ∈ ALL ∧ (Cond.methodLink own idx y.1 ∈ ALL ∨ ∃ host, Cond.methodLinkNest own idx y.1 host ∈ NW2)
theorem x_ctor {y : sY} {own : String} {idx d mc ms ci nL : Nat} {fs0 : List Value} {post : ClassId → (Nat → Nat) → va_W} {wr : va_W} {h0 : Nat} (hc : Ctor y d mc ms ci fs0 post) (hL : LinkC own idx y)
    (hx : p.tables.exec = Jvm.exec) (hb : c.code = cc) (hml : c.maxLocals = nL) (hown : s.vm.findClass own = some m.cls) (hts : ∀ w ∈ ALL, w.before args s = true) (hN : ∀ w ∈ NW, va_Nw w s) (hN2 : ∀ w ∈ NW2, va_Nw w s)
    (hK : va_K D classes [(cA, .int)] s) (hP : va_P D classes (wr ++ [(h0, .inr (ci, fs0))]) H) (hD : va_D A (wr ++ [(h0, .inr (ci, fs0))])) (hS : va_S A H0 H locs) (hA : ∀ q, H0.size ≤ q → A q) (hsz : ls.size = nL) (hcat : (rest.map fun v => v.category).sum ≤ 8)
    (hR : d + 1 ≤ R.frames ∧ 40 * d + 80 ≤ R.locals) (hcells : cells + mc ≤ R.cells ∧ slots + ms ≤ R.slots) (hdg : decode cc pc = .ok (.invokespecial idx, 3))
    (kk : ∀ (u : Nat → Nat) (H1 : Heap) (locs1 : List Loc), u 0 = h0 → va_P D classes (wr ++ post cA u) H1 → va_D A (wr ++ post cA u) → va_S A H0 H1 locs1 → W p l e R s m args below meth c H1 locs1 (cells + mc) (slots + ms) Qf (F0 m (pc + 3) ls rest)) : W p l e R s m args below meth c H locs cells slots Qf (F0 m pc ls (.ref h0 :: rest)) := by
  obtain ⟨y1, y2, y3, yr, y4, y5, y6, y7, y8, y9⟩ := hL
  have hl0 : (wr ++ [(h0, (.inr (ci, fs0) : va_E))])[wr.length]? = some (h0, .inr (ci, fs0)) := by simp
  have hP1 : va_P D classes [(h0, .inr (ci, fs0))] H := hP.sub [wr.length] (by simp)
  have hD1 : va_D (fun _ => True) [(h0, (.inr (ci, fs0) : va_E))] := ⟨fun i j p q hi hj _ => by
    have := (List.getElem?_eq_some_iff.mp hi).1
    have := (List.getElem?_eq_some_iff.mp hj).1
    simp at *
    omega, fun _ _ _ => trivial⟩
  have hsub : ∀ q, va_A [(h0, (.inr (ci, fs0) : va_E))] H.size q → A q := by
    intro q hq
    rcases hq with ⟨k, en, hk⟩ | hq
    · have hm := List.mem_of_getElem? hk
      simp only [List.mem_singleton, Prod.mk.injEq] at hm
      rw [hm.1]
      exact hD.2 _ _ hl0
    · exact hA q (Nat.le_trans hS.1 hq)
  have hpre : ∀ U : State, U.heap = H → s.WarmedH U.vm → (va_Pc [.ref h0] (fun U => U.heap.size = H.size ∧ va_P D classes [(h0, .inr (ci, fs0))] U.heap ∧ va_K D classes [(cA, .int)] U ∧ va_D (fun _ => True) [(h0, .inr (ci, fs0))] ∧ (∀ w ∈ NW, va_Nw w U) ∧ ∀ w ∈ NW2, va_Nw w U)) ([Value.ref h0]).toArray U := fun U hU hW => ⟨rfl, by rw [hU], by rw [hU]; exact hP1, va_K.moved hW.alike hK, hD1, fun w hw => NW_warm hW w hw (hN w hw), fun w hw => NW2_warm hW w hw (hN2 w hw)⟩
  have hbl : FrameBlind (va_Pc [.ref h0] (fun U => U.heap.size = H.size ∧ va_P D classes [(h0, .inr (ci, fs0))] U.heap ∧ va_K D classes [(cA, .int)] U ∧ va_D (fun _ => True) [(h0, .inr (ci, fs0))] ∧ (∀ w ∈ NW, va_Nw w U) ∧ ∀ w ∈ NW2, va_Nw w U)) := by
    rintro a U g mk ⟨h1, h2, h3, h4, h5, h6, h7⟩
    exact ⟨h1, h2, h3, va_K.moved (u := U) (U := U.calling g mk a) (Vm.Alike.refl U.vm) h4, h5, fun w hw => va_Nw.same (NW_tab w hw) (u := U) (U := U.calling g mk a) rfl (h6 w hw), fun w hw => va_Nw.same (NW2_tab w hw) (u := U) (U := U.calling g mk a) rfl (h7 w hw)⟩
  have hG : GoodIn ALL (wsY y) := goodALL fun w hw => (List.mem_cons.mp hw).elim (fun e => e ▸ y6) id
  have hRm : (rmC d mc ms).frames + 1 ≤ R.frames ∧ 8 + (y.2.2.1 + 11) + (rmC d mc ms).locals ≤ R.locals := ⟨hR.1, by show 8 + (_ + 11) + (40 * d + 40) ≤ R.locals; omega⟩
  have hws : wsY y = Cond.code y.1 y.2.1 y.2.2.1 none :: ALL := by unfold wsY; rw [yr]
  have hrun : va_Run p l e R s m args below meth c H locs cells slots mc ms (F0 m pc ls (.ref h0 :: rest)) rest (va_Qv (fun u : Nat → Nat => u 0 = h0) (fun u t => va_P D classes (post cA u) t.heap ∧ va_D (va_A [(h0, .inr (ci, fs0))] H.size) (post cA u)) (va_A [(h0, .inr (ci, fs0))] H.size) ([Value.ref h0]).toArray) (va_A [(h0, .inr (ci, fs0))] H.size) := by
    rcases y9 with hl | ⟨host, hl⟩
    · exact va_runI (As := []) (rest := rest) ⟨hx, hb, hml, hown, hts⟩ (hc l D cA h0 H.size) (cwI 0 hts hG hws rfl rfl (hts _ y7) (hts _ hl) (hts _ y8) y1 ⟨y4.1, y4.2, y5⟩ hRm) ⟨hbl, hpre⟩ rfl rfl hsz rfl (lv_room hcat) hdg hcells
    · exact va_runIN (As := []) (rest := rest) ⟨hx, hb, hml, hown, hts⟩ (hc l D cA h0 H.size) ⟨va_cnB 0 hts hG hws rfl rfl (hN2 _ hl) (hts _ y7) ⟨y4.1, y4.2, y5⟩ hRm, y1, hts _ y8⟩ ⟨hbl, hpre⟩ rfl rfl hsz rfl (lv_room hcat) hdg hcells
  refine va_callv hrun hS (fun q _ h => hsub q h) hsub (fun u t H1 locs1 ht hvm hu hB hz1 hk1 hS1 => ?_)
  obtain ⟨hPp, hDp⟩ := hB
  rw [ht] at hPp
  have hap : ∀ (i : Nat) (q : Nat × va_E), wr[i]? = some q → q.1 < H.size ∧ ¬ va_A [(h0, (.inr (ci, fs0) : va_E))] H.size q.1 := by
    intro i q hi
    have hil := (List.getElem?_eq_some_iff.mp hi).1
    have hi2 : (wr ++ [(h0, (.inr (ci, fs0) : va_E))])[i]? = some q := by rw [List.getElem?_append_left hil]; exact hi
    have hlt := (hP i q hi2).lt
    refine ⟨hlt, ?_⟩
    rintro (⟨k, en, hk⟩ | hq)
    · have hm := List.mem_of_getElem? hk
      simp only [List.mem_singleton, Prod.mk.injEq] at hm
      have := hD.1 i wr.length q _ hi2 hl0 hm.1
      omega
    · omega
  refine kk u H1 locs1 hu (va_P.app (fun k q hq => ?_) hPp) (va_D.app ⟨fun i j x y hi hj hxy => ?_, fun k q hq => ?_⟩ (hDp.weaken (fun k q _ h => hsub q.1 h)) (fun i j x y hi hj hxy => ?_)) hS1
  · have hil := (List.getElem?_eq_some_iff.mp hq).1
    have hi2 : (wr ++ [(h0, (.inr (ci, fs0) : va_E))])[k]? = some q := by rw [List.getElem?_append_left hil]; exact hq
    exact (hP k q hi2).kept (hk1 q.1 (hap k q hq).1 (hap k q hq).2)
  · have hil := (List.getElem?_eq_some_iff.mp hi).1
    have hjl := (List.getElem?_eq_some_iff.mp hj).1
    exact hD.1 i j x y (by rw [List.getElem?_append_left hil]; exact hi) (by rw [List.getElem?_append_left hjl]; exact hj) hxy
  · have hil := (List.getElem?_eq_some_iff.mp hq).1
    exact hD.2 k q (by rw [List.getElem?_append_left hil]; exact hq)
  · exact (hap i x hi).2 (by rw [hxy]; exact hDp.2 j y hj)
/-- the start of a constructor's walk -/
theorem ctor_of {y : sY} {d mc ms ci : Nat} {fs0 : List Value} {post : ClassId → (Nat → Nat) → va_W} (hy : plainName y.1.cls = true) (hL : y.2.2.1 = 1) (hret : y.2.2.2 = none)
    (body : ∀ (l : Launch) (D : va_G) (cA : ClassId) (h0 : Nat) (A : Nat → Prop) (p : Program) (e : Env) (s : State) (m : MethodId) (below : List Frame) (meth : Method) (c : Code) (ls : Array Slot), p.tables.exec = Jvm.exec → c.code = y.2.1 → c.maxLocals = 1 → s.vm.findClass y.1.cls = some m.cls → meth.sig.returnType = none → meth.locks = false → meth.name = y.1.name → (∀ w ∈ ALL, w.before #[Value.ref h0] s = true) → (∀ w ∈ NW, va_Nw w s) → (∀ w ∈ NW2, va_Nw w s) → va_K D classes [(cA, .int)] s →
      (∀ q : Nat, s.heap.size ≤ q → A q) → va_P D classes [(h0, .inr (ci, fs0))] s.heap → va_D A [(h0, .inr (ci, fs0))] → va_S A s.heap s.heap [] → lv_has ls 1 [(0, .ref h0)] →
      W p l e (rmC d mc ms) s m #[Value.ref h0] below meth c s.heap [] 0 0 (MQ below (va_Qv (fun u : Nat → Nat => u 0 = h0) (fun u t => va_P D classes (post cA u) t.heap ∧ va_D A (post cA u)) A) #[Value.ref h0] s mc ms A) (F0 m 0 ls [])) : Ctor y d mc ms ci fs0 post := by
  intro l D cA h0 sz
  refine Met.ofW (cc := y.2.1) (maxL := y.2.2.1) (ret := y.2.2.2) (ws' := ALL) hy rfl ?_
  intro p e s m args below meth c s₁ B hml hv
  obtain ⟨rfl, hsz, hP, hK, hD0, hN, hN2⟩ := hv
  have hts := atoms_spec (ws := wsY y) B.pre
  subst hsz
  have hl := lv_entry ([.ref h0]) (n := 1) (Nat.le_of_ble_eq_true rfl)
  rw [hL, lg_entry_eq]
  exact body l D cA h0 _ p e s m below meth c _ B.exec B.bytes (hml.trans hL) (findClass_of_methodNamed B.named) (B.returns.trans hret) B.notSynchronized (name_of_methodNamed B.named B.method).1 (fun w hw => hts w (List.mem_cons_of_mem _ hw)) hN hN2 hK (fun q hq => Or.inr hq) hP hD0.self va_S.rf hl
end CT
