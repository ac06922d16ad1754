/-! the start and the end: the law on every script -/
def v00 : VT := (1, fun f _ => match f with
  | 4 => 1
  | _ => 0)
def cs0 : CT := (1, 0, fun f _ => match f with
  | 0 => 42
  | 3 => 1
  | _ => 0, fun _ _ => 0, 0, fun _ => 0)
theorem lt_one {p : Nat} (h : p < 1) : p = 0 := by omega
theorem wf_v00 : WFV v00 := by
  refine ⟨Nat.le_refl _, by decide, fun p hp => ?_, rfl, rfl, rfl, rfl, fun p hp => ?_⟩
  · have e : p = 0 := lt_one hp
    subst e
    exact ⟨Nat.le_refl _, rfl, by decide, fun k hk => absurd hk (Nat.not_lt_zero _)⟩
  · have e : p = 0 := lt_one hp
    subst e
    exact ⟨by decide, fun _ => by decide, fun _ => rfl, fun _ => rfl, fun z => absurd z (by decide), by decide, fun k hk => absurd hk (Nat.not_lt_zero _)⟩
theorem wf_c00 : WFC cs0 := by
  refine ⟨Nat.le_refl _, by decide, by decide, by decide, fun p hp => ?_, rfl, rfl, fun p hp => ?_, fun p hp z => ?_, fun w hw => absurd hw (Nat.not_lt_zero _), fun f hf => absurd hf (Nat.not_lt_zero _)⟩
  · have e : p = 0 := lt_one hp
    subst e
    exact ⟨Nat.le_refl _, rfl, by decide, fun k hk => absurd hk (Nat.not_lt_zero _)⟩
  · have e : p = 0 := lt_one hp
    subst e
    exact ⟨Or.inl rfl, by decide, by decide, by decide, by decide, by decide, by decide, by decide, fun z => absurd z (by decide), fun k hk => absurd hk (Nat.not_lt_zero _)⟩
  · exact absurd z (show ¬ (42 : Nat) = 123 by decide)
theorem xv_00 : XV σX0 1 v00 := by
  refine ⟨by decide +kernel, fun f hf p hp => ?_⟩
  have e : p = 0 := lt_one hp
  subst e
  rcases (show f = 0 ∨ f = 1 ∨ f = 2 ∨ f = 3 ∨ f = 4 ∨ f = 5 by omega) with rfl | rfl | rfl | rfl | rfl | rfl <;> decide +kernel
theorem xc_00 : XC σX0 16 cs0 := by
  refine ⟨by decide +kernel, by decide +kernel, fun f hf p hp => ?_, fun f hf w hw => absurd hw (Nat.not_lt_zero _)⟩
  have e : p = 0 := lt_one hp
  subst e
  rcases (show f = 0 ∨ f = 1 ∨ f = 2 ∨ f = 3 ∨ f = 4 ∨ f = 5 ∨ f = 6 ∨ f = 7 ∨ f = 8 ∨ f = 9 by omega) with rfl | rfl | rfl | rfl | rfl | rfl | rfl | rfl | rfl | rfl <;> decide +kernel
theorem xl_start : XL σX0 v00 cs0 none [] := by
  refine ⟨0, fun _ => 0, fun _ => 0, ⟨wf_v00, wf_c00, by decide, fun i hi => absurd hi (Nat.not_lt_zero _), by decide, fun i hi => absurd hi (Nat.not_lt_zero _), fun v' c' e => (by cases e)⟩, ⟨xv_00, xc_00, by decide +kernel, fun i hi => absurd hi (Nat.not_lt_zero _), by decide +kernel, fun i hi => absurd hi (Nat.not_lt_zero _), fun i hi => rfl, fun _ => by decide +kernel, fun v' c' e => (by cases e)⟩⟩
theorem sel_stumble {C : String} {n : Nat} {args : Array Value} {s : State} {y : MethodName} (hy : y.cls ≠ "java/lang/invoke/MethodHandle" ∧ y.cls ≠ "java/lang/invoke/VarHandle") (hins : (Cond.instantiable C n).before args s = true) (hpriv : (Cond.privateMethod y).before args s = true) (hinst : (Cond.instanceMethod y).before args s = true) (hsame : (Cond.sameMethod y.cls y.cls y.name y.desc).before args s = true) : (Cond.selects C y y).before args s = true := by
  obtain ⟨c, k, hc, hk, -, hniab, -, -⟩ := Cond.instantiable_spec hins
  obtain ⟨mk, methM, hnamed, hmethM, -, -⟩ := Cond.instanceMethod_spec hinst
  have hfound : s.methodFound? y.cls y.name y.desc = some mk := State.methodFound?_of_named hnamed hy
  have hsel : selectMethod {} s.vm c mk = .method mk := selectMethod_private hmethM (Cond.privateMethod_at hpriv mk methM hnamed hmethM)
  obtain ⟨cn, ck, r1, hcn, hck, hni, hf, hn1⟩ := Cond.sameMethod_found hsame
  have hcls : mk.cls = cn := Option.some.inj ((findClass_of_methodNamed hnamed).symm.trans hcn)
  simp only [Cond.before, Cond.holds, Cond.value, hc, hfound, hnamed, hsel, hcls, hck]
  simp
  exact hni
theorem tb_in {w : Cond} (i : Nat) (h : tables_1[i]? = some w) : w ∈ lw_tbl := List.mem_append_right _ (List.mem_of_getElem? h)
theorem ALL_law {args : Array Value} {s : State} (hts : ∀ w ∈ lw_tbl, w.before args s = true) : ∀ w ∈ ALL, w.before args s = true := by
  intro w hw
  rcases List.mem_append.mp hw with hw | hw
  · simp only [EX, List.mem_cons, List.not_mem_nil, or_false] at hw
    rcases hw with rfl | rfl
    · exact sel_stumble (n := 6) ⟨by decide +kernel, by decide +kernel⟩ (hts _ (tb_in 169 (by decide +kernel))) (hts _ (tb_in 563 (by decide +kernel))) (hts _ (tb_in 564 (by decide +kernel))) (hts _ (tb_in 796 (by decide +kernel)))
    · exact sel_stumble (n := 11) ⟨by decide +kernel, by decide +kernel⟩ (hts _ (tb_in 212 (by decide +kernel))) (hts _ (tb_in 563 (by decide +kernel))) (hts _ (tb_in 564 (by decide +kernel))) (hts _ (tb_in 796 (by decide +kernel)))
  · exact hts w (List.mem_filter.mp hw).1
theorem NW_law {args : Array Value} {s : State} (hts : ∀ w ∈ lw_tbl, w.before args s = true) : ∀ w ∈ NW, va_Nw w s := fun w hw => va_Nw.of (NW_tab w hw) (hts w (List.mem_append_right _ (NW_tbl w hw)))
theorem NW2_law {args : Array Value} {s : State} (hts : ∀ w ∈ lw_tbl, w.before args s = true) : ∀ w ∈ NW2, va_Nw w s := fun w hw => va_Nw.of (NW2_tab w hw) (hts w (List.mem_append_right _ (NW2_tbl w hw)))
theorem lk_LW_143 : LinkC "GathersAllFaultsLaw" 143 y_GF_init := ⟨rfl, by decide +kernel, by decide, rfl, ⟨by decide +kernel, by decide +kernel⟩, by decide +kernel, ALL_in 17 (by decide +kernel) rfl, ALL_in 1 (by decide +kernel) rfl, ALL_in 16 (by decide +kernel) rfl, Or.inl (ALL_in 15 (by decide +kernel) rfl)⟩
/-! THE CLAIM OUT OF ONE WALK OF THE LAW'S BODY. Your part is whole_start (and what it stands on); all else here is the same for every law, but numbers. -/
def R_law : String := "GathersAllFaultsLaw"
def lw_P (b : Addr) (xs : List Int32) (args : Array Value) (s : State) : Prop := args = #[.ref b] ∧ s.IntsAt b xs ∧ xs.length ≤ 260 ∧ (Jvm.Cond.and given_1 narrow_1).before args s = true
def lw_Q (_ : Array Value) (s : State) (o : Outcome) (t : State) : Prop := o = .returned (some (.int 1)) ∧ Framed s o t [] 600000 7302250
def lw_Z (below : List Frame) (a : Array Value) (s : State) : State → Prop := fun t => ∃ o, t.status = .running ∧ Ended t below o ∧ lw_Q a s o t
/-- the law's own end, with 1 on the stack, nothing written that was there before, its room as the claim has it -/
theorem lw_ret {p : Program} {l : Launch} {e : Env} {s : State} {m : MethodId} {below : List Frame} {meth : Method} {c : Code} {b : Nat} (hx : p.tables.exec = Jvm.exec) (hb : c.code = code) (hr : meth.sig.returnType = ret) (hlocks : meth.locks = false) {pc : Nat} {H : Heap} {ls : Array Slot} (hdg : decode code pc = .ok (.ireturn, 1)) : W p l e room_1 s m #[Value.ref b] below meth c H [] 600000 7302250 (lw_Z below #[Value.ref b] s) (F0 m pc ls [.int 1]) := by
  intro T hT X
  obtain ⟨fs, hret, hrun, hended, hW, hframe⟩ := X.leave (v := some (.int 1)) (hlocks := hlocks) (fun h => by rw [hr] at h; cases h)
  have hmeth' : T.vm.method? m = some meth := X.method'
  refine ⟨T.setFrames fs, ?_, .returned (some (.int 1)), hrun, hended, rfl, ⟨_, rfl⟩, hW, hframe⟩
  jvm_step X.here [X.here.top, hx, hb, hdg, hmeth', hr, ret, narrow_b1]
  (try refine ⟨rfl, ?_⟩); (try refine ⟨rfl, ?_⟩)
  first | (intro acts; rw [hret _ acts rfl rfl rfl]) | rw [hret _ _ rfl rfl rfl]
  exact Steps.refl _
/-- what holds at the law's entry: the machine, the code, the tables' words (any of lw_tbl by 'hts w (by decide +kernel)'), the script of L ints xs at the cell b, what the Statement gives of the start (any of its parts by flat_of_before) -/
def lw_At (p : Program) (s : State) (m : MethodId) (meth : Method) (c : Code) (b L : Nat) (xs : Nat → Int32) : Prop :=
  p.tables.exec = Jvm.exec ∧ c.code = code ∧ meth.sig.returnType = ret ∧ c.maxLocals = 17 ∧ s.vm.findClass R_law = some m.cls ∧ (∀ w ∈ lw_tbl, w.before #[Value.ref b] s = true) ∧ va_X b L xs s s.heap ∧ b < s.heap.size ∧ meth.locks = false ∧ (Jvm.Cond.and given_1 narrow_1).before #[Value.ref b] s = true ∧ meth.name = "law"
section LAWS
variable {p : Program} {e : Env} {s : State} {m : MethodId} {below : List Frame} {meth : Method} {c : Code} {b L : Nat} {xs : Nat → Int32}
set_option maxHeartbeats 4000000 in
set_option maxRecDepth 100000 in
theorem law_all (l : Launch) (hL : L ≤ 260) (C0 : lw_At p s m meth c b L xs) : W p l e room_1 s m #[Value.ref b] below meth c s.heap [] 0 0 (lw_Z below #[Value.ref b] s) (entryFrame m ([Value.ref b] : List Value).toArray 17) := by
  obtain ⟨hx, hb, hr, hml, hown, hts, hX, hbl, hlocks, hgv, hnm⟩ := id C0
  have hA : ∀ q : Nat, s.heap.size ≤ q → (fun q : Nat => s.heap.size ≤ q) q := fun _ h => h
  have hbA : ¬ (fun q : Nat => s.heap.size ≤ q) b := Nat.not_le.mpr hbl
  have htA := ALL_law hts
  have hN := NW_law hts
  have hN2 := NW2_law hts
  have hcs : va_Nw (.castable "[I" "java/lang/Cloneable") s := va_Nw.of rfl (hts _ (tb_in 791 (by decide +kernel)))
  have ho1 : va_AO nmV s := va_AO.of (hts _ (tb_in 734 (by decide +kernel)))
  have ho2 : va_AO nmC s := va_AO.of (hts _ (tb_in 485 (by decide +kernel)))
  obtain ⟨c0, iS0, hKn0⟩ := u_known (C := R0_) (T := T0_) (N := 11) (n := 11) htA ws0_in (htA (.instantiable R0_ 11) (ALL_in 212 (by decide +kernel) rfl))
  obtain ⟨c1, iS1, hKn1⟩ := u_known (C := R1_) (T := T1_) (N := 5) (n := 5) htA ws1_in (htA (.instantiable R1_ 5) (ALL_in 68 (by decide +kernel) rfl))
  obtain ⟨c2, iS2, hKn2⟩ := u_known (C := R2_) (T := T2_) (N := 15) (n := 15) htA ws2_in (htA (.instantiable R2_ 15) (ALL_in 74 (by decide +kernel) rfl))
  obtain ⟨c3, iS3, hKn3⟩ := u_known (C := R3_) (T := T3_) (N := 7) (n := 7) htA ws3_in (htA (.instantiable R3_ 7) (ALL_in 22 (by decide +kernel) rfl))
  obtain ⟨c4, iS4, hKn4⟩ := u_known (C := R4_) (T := T4_) (N := 6) (n := 6) htA ws4_in (htA (.instantiable R4_ 6) (ALL_in 169 (by decide +kernel) rfl))
  obtain ⟨c5, iS5, hKn5⟩ := u_known (C := R5_) (T := T5_) (N := 14) (n := 14) htA ws5_in (htA (.instantiable R5_ 14) (ALL_in 14 (by decide +kernel) rfl))
  obtain ⟨c6, iS6, hKn6⟩ := u_known (C := R6_) (T := T6_) (N := 2) (n := 2) htA ws6_in (htA (.instantiable R6_ 2) (ALL_in 530 (by decide +kernel) rfl))
  obtain ⟨c7, iS7, hKn7⟩ := u_known (C := R7_) (T := T7_) (N := 4) (n := 4) htA ws7_in (htA (.instantiable R7_ 4) (ALL_in 728 (by decide +kernel) rfl))
  obtain ⟨c8, iS8, hKn8⟩ := u_known (C := R8_) (T := T8_) (N := 6) (n := 6) htA ws8_in (htA (.instantiable R8_ 6) (ALL_in 479 (by decide +kernel) rfl))
  obtain ⟨cA, kA, comp, hc1, hc2, hc3⟩ := Cond.arrayClass_spec (htA _ aw_int)
  obtain ⟨cB, kB, compB, hb1, hb2, hb3⟩ := Cond.arrayClass_spec (htA _ aw_bool)
  obtain ⟨compV, cV, kV, hv1, -, hv2, hv3, hv4⟩ := Cond.arrayOver_spec (hts _ (tb_in 734 (by decide +kernel)) : (Cond.arrayOver (.object "GathersAllFaultsLaw$Val")).before #[Value.ref b] s = true)
  obtain ⟨compC, cC, kC, hd1, -, hd2, hd3, hd4⟩ := Cond.arrayOver_spec (hts _ (tb_in 485 (by decide +kernel)) : (Cond.arrayOver (.object "GathersAllFaultsLaw$Chk")).before #[Value.ref b] s = true)
  obtain ⟨K, hK⟩ : ∃ K : dK, K = (cA, cB, cV, cC) := ⟨_, rfl⟩
  obtain ⟨D, hKc⟩ : ∃ (D : va_G), ∀ (k : Nat) (q : vw_C), classes[k]? = some q → u_Kn s q.1 q.2.1 q.2.2 (D.1 k) (D.2 k) := by
    refine ⟨(fun k => match k with | 0 => c0 | 1 => c1 | 2 => c2 | 3 => c3 | 4 => c4 | 5 => c5 | 6 => c6 | 7 => c7 | _ => c8, fun k => match k with | 0 => iS0 | 1 => iS1 | 2 => iS2 | 3 => iS3 | 4 => iS4 | 5 => iS5 | 6 => iS6 | 7 => iS7 | _ => iS8), ?_⟩
    intro k q hq
    match k, hq with
    | 0, hq => cases hq; exact hKn0
    | 1, hq => cases hq; exact hKn1
    | 2, hq => cases hq; exact hKn2
    | 3, hq => cases hq; exact hKn3
    | 4, hq => cases hq; exact hKn4
    | 5, hq => cases hq; exact hKn5
    | 6, hq => cases hq; exact hKn6
    | 7, hq => cases hq; exact hKn7
    | 8, hq => cases hq; exact hKn8
    | k + 9, hq => simp [classes] at hq
  have hKK : va_K D classes (dTy K) s := ⟨hKc, fun k q h => by
    subst hK
    match k, h with
    | 0, h => cases h; exact ⟨fun n z => ⟨fun k h => (by cases h), kA, hc2, comp, hc3⟩, hc1⟩
    | 1, h => cases h; exact ⟨fun n z => ⟨fun k h => (by cases h), kB, hb2, compB, hb3⟩, hb1⟩
    | 2, h => cases h; exact ⟨fun n z => ⟨fun k h => (by cases h), kV, hv2, compV, hv3⟩, kV, compV, hv2, hv3, hv1, hv4⟩
    | 3, h => cases h; exact ⟨fun n z => ⟨fun k h => (by cases h), kC, hd2, compC, hd3⟩, kC, compC, hd2, hd3, hd1, hd4⟩
    | k + 4, h => simp [dTy] at h⟩
  have hK1 : va_K D classes [(K.1, .int)] s := hKK.sub [0] rfl
  have hS : va_S (fun q : Nat => s.heap.size ≤ q) s.heap s.heap [] := va_S.rf
  have hP : va_P D classes [] s.heap := fun k q h => by simp at h
  have hD : va_D (fun q : Nat => s.heap.size ≤ q) [] := ⟨fun i j p q h => by simp at h, fun k q h => by simp at h⟩
  have hl := lv_entry ([.ref b]) (n := 17) (Nat.le_of_ble_eq_true rfl)
  rw [lg_entry_eq]
  generalize (lg_sl ([.ref b]) ++ List.replicate (17 - (lg_sl ([.ref b])).length) Slot.unset).toArray = ls at hl ⊢
  have hl : lv_has ls 17 [(0, .ref b)] := hl
  refine va_new (ci := 5) (fs := [.null, .null, .null, .null, .null, .null, .int 0, .null, .int 0, .null, .null, .null, .int 0, .int 0]) (C := R5_) (T := T5_) (N := 14) hx hb htA ws5_in ty5_ ty5_ok hown (htA _ (ALL_in 13 (by decide +kernel) rfl)) (htA _ (ALL_in 14 (by decide +kernel) rfl)) (htA _ (ALL_in 1 (by decide +kernel) rfl)) hK1 hP hD hS hA rfl df5 (Nat.le_of_ble_eq_true rfl) (Nat.le_of_ble_eq_true rfl) (by decide +kernel : decode code 0 = .ok (.new 141, 3)) (fun q1 H hP hD hS => ?_)
  refine lv_dup hx hb (by decide +kernel : decode code 3 = .ok (.dup, 1)) rfl ?_
  refine x_ctor (wr := []) k_GF lk_LW_143 hx hb hml hown htA hN hN2 hK1 hP hD hS hA hl.1 (Nat.le_of_ble_eq_true rfl) ⟨Nat.le_of_ble_eq_true rfl, Nat.le_of_ble_eq_true rfl⟩ ⟨Nat.le_of_ble_eq_true rfl, Nat.le_of_ble_eq_true rfl⟩ (by decide +kernel : decode code 4 = .ok (.invokespecial 143, 3)) (fun ax H locs hu hP2 hD2 hS2 => ?_)
  clear hP hD hS
  subst hu
  rw [List.nil_append, pw_GF_wl] at hP2 hD2
  refine lv_astore_n (lv' := [(1, .ref (ax 0)), (0, .ref b)]) hx hb (by decide +kernel : decode code 7 = .ok (.astore_n 1, 1)) rfl hl (by decide) rfl (fun ls hl => ?_)
  have hdP : dP D K ax σX0 [] (fun _ => none) (fun q : Nat => s.heap.size ≤ q) H := ⟨fun a e' h => (by cases h), by rw [List.append_nil]; exact hP2, by rw [List.append_nil]; exact hD2⟩
  have hbody := law_body (b, L, xs) ax (show L < 2 ^ 31 by omega) (E := 300) (Nat.le_refl _) (Q := fun r _ _ => r = some (.int 1)) (fun _ _ => rfl) (u := 50000) (Nat.le_refl _) (μ := fun _ => none) xl_start
  have hl : lv_has ls 17 [(0, .ref b), (1, .ref (ax 0))] := lv_sub hl [1, 0] rfl
  have hw := hbody l D K (fun q : Nat => s.heap.size ≤ q) p e room_1 s m #[Value.ref b] below meth c ⟨hx, hb, hml, hown, hr, hlocks, htA, hN, hN2, hcs, ho1, ho2, hKK, Nat.le_of_ble_eq_true rfl, Nat.le_of_ble_eq_true rfl, hA, hbA, hX, hnm⟩ H locs ls [] _ _ 600000 7302250 hdP hS2 hl (Nat.le_of_ble_eq_true rfl : 0 + 1 + 87 + 50000 ≤ 600000) (Nat.le_of_ble_eq_true rfl : 0 + 14 + 8277 + 50000 ≤ 7302250) (Nat.le_refl _) (Nat.le_refl _)
  refine W.imp hw ?_
  rintro t ⟨o, h1, h2, ⟨⟨r, σ', μ', ws', e1, e2, e3⟩, h4⟩, J, ⟨f1, f2, f3⟩, f4⟩
  refine ⟨o, h1, h2, by rw [e1, e2], f1, f2, ?_⟩
  exact State.sameButNew.drop_fresh (L := []) (J := J) f3 f4
end LAWS
/-- from the entry, for every script of at most 260 ints, the law comes to its end with true -/
theorem whole_start {p : Program} {e : Env} {s : State} {m : MethodId} {below : List Frame} {meth : Method} {c : Code} (l : Launch) (hflags : l.flags = flags0) {b L : Nat} {xs : Nat → Int32} (hL : L ≤ 260) (C0 : lw_At p s m meth c b L xs) : W p l e room_1 s m #[Value.ref b] below meth c s.heap [] 0 0 (lw_Z below #[Value.ref b] s) (entryFrame m ([Value.ref b] : List Value).toArray 17) := law_all l hL C0
set_option maxHeartbeats 4000000 in
theorem lw_walk (l : Launch) (hflags : l.flags = flags0) (b : Addr) (xs : List Int32) : MetFree l x (headSpec (Jvm.Cond.code x code maxLocals ret :: tables_1) room_1) (lw_P b xs) (fun _ _ _ _ _ => True) lw_Q := by
  refine MetFree.of_bodyS (code := code) (maxLocals := maxLocals) (ret := ret) (by decide) ?_ ?_
  · intro args s m h hn
    obtain ⟨meth, c, h1, h2, h3, h4, h5, h6, -, -⟩ := Cond.code_spec hn (atoms_spec (ws := Jvm.Cond.code x code maxLocals ret :: tables_1) h _ List.mem_cons_self)
    exact ⟨meth, c, h1, h2, h3, h4, h5, h6⟩
  · intro p e s m args below meth c s₁ B hml0 hP _
    obtain ⟨rfl, hx, hbd, hgv⟩ := hP
    obtain ⟨scr, harrAt, hlist, hof, hsmall⟩ := hx
    obtain ⟨hcb, hkn, -, -⟩ := State.arrayAt?_spec harrAt
    have hown : s.vm.findClass R_law = some m.cls := findClass_of_methodNamed B.named
    have hts0 : ∀ c ∈ (Jvm.Cond.code x code maxLocals ret :: tables_1), c.before #[Value.ref b] s = true := atoms_spec (ws := Jvm.Cond.code x code maxLocals ret :: tables_1) B.pre
    have hts : ∀ w ∈ lw_tbl, w.before #[Value.ref b] s = true := k2_hts_sels lw_privs (fun w hw => hts0 w (List.mem_cons_of_mem _ hw)) lw_privs_ok
    have hml : c.maxLocals = 17 := B.maxLocals_eq (hts0 _ List.mem_cons_self)
    have X₀ : Stand p l e room_1 s m #[Value.ref b] below meth c s₁ [] 0 0 := Stand.of_body B
    have hh0 : s₁.heap = s.heap := by rw [B.state]; rfl
    have hsz : scr.slots.size = xs.length := by rw [← Array.length_toList, hlist, List.length_map]
    have hval : ∀ j : Nat, j < xs.length → scr.slots[j]? = some (.int (xs.getD j 0)) := fun j hj => by
      rw [← Array.getElem?_toList, hlist]
      simp [hj]
    have hbl : b < s.heap.size := (Array.getElem?_eq_some_iff.mp hcb).1
    have hX : va_X b xs.length (fun j => xs.getD j 0) s s.heap := ⟨scr, hcb, hof, hkn, hsz, hval⟩
    have K : W p l e room_1 s m #[Value.ref b] below meth c s₁.heap [] 0 0 (lw_Z below #[Value.ref b] s) (entryFrame m ([Value.ref b] : List Value).toArray 17) := by
      rw [hh0]
      exact whole_start l hflags hbd ⟨B.exec, B.bytes, B.returns, hml, hown, hts, hX, hbl, B.notSynchronized, hgv, (name_of_methodNamed B.named B.method).1⟩
    obtain ⟨t, a1, o, b1, b2, b3⟩ := K s₁ rfl X₀
    exact ⟨t, o, a1, b1, b2, b3⟩
theorem lw_pre_spec {args : Array Value} {s : State} (h : (Jvm.Cond.and given_1 narrow_1).before args s = true) (hr : rest_1_c.before args s = true) : ∃ (b : Addr) (xs : List Int32), lw_P b xs args s := by
  have hs := flat_of_before _ h
  have hq := flat_of_before _ hr
  have hc : (Cond.count 1).before args s = true := hs _ (by decide +kernel)
  have harr : (Cond.arrayOf (.arg 0) .int).before args s = true := hs _ (by decide +kernel)
  have hle : (Cond.le (.length (.arg 0)) (.int 260)).before args s = true := hs _ (by decide +kernel)
  have hlen : (Cond.isInt (.length (.arg 0))).before args s = true := hq _ (by decide +kernel)
  have hall : (Cond.all (.arg 0) (.isInt (.elem (.arg 0) (.index 0)))).before args s = true := hq _ (by decide +kernel)
  obtain ⟨b, xs, hb, hx⟩ := State.ints_of_pre rfl harr hlen hall
  have hsm : xs.length < 2 ^ 31 := hx.choose_spec.2.2.2
  have hev : (Term.length (.arg 0)).eval args s none [] s = some (.int xs.length.toInt32) := hx.length_eval hb
  have hv := Cond.le_ints hev (show (Term.int 260).eval args s none [] s = some (.int 260) from rfl)
  have hd : xs.length.toInt32 ≤ 260 := by
    simpa [Cond.before, Cond.holds, hv] using hle
  have hN : xs.length ≤ 260 := (Int32.ofNat_le_ofNat hsm (by decide)).mp (show Int32.ofNat xs.length ≤ Int32.ofNat 260 from hd)
  exact ⟨b, xs, Cond.one_arg hc (show args[0]? = some (.ref b) from hb), hx, hN, h⟩
theorem lw_comes (l : Launch) (hflags : l.flags = flags0) : Comes l x (Jvm.Cond.code x code maxLocals ret :: tables_1) room_1 (fun tb e args s => Calls_1 tb e args s ∧ rest_1 tb e args s ∧ Pre_1 tb e args s)
    (fun _ _ args s o t => lw_Q args s o t) := by
  intro p e ha hc hk s m args below hf hfit hheap happ hpre
  obtain ⟨b, xs, hP⟩ := lw_pre_spec hpre.2.2 hpre.2.1
  obtain ⟨k, o, h1, h2, h3, hQ⟩ := lw_walk l hflags b xs p e ha hc hk s m args below hf ((Spec.applies_iff_loose hf).mp happ).1 hP trivial
  exact ⟨k, o, h1, h2, h3, hQ⟩
theorem lw_frame {s t : State} {o : Outcome} {args : Array Value} (h : Framed s o t [] 600000 7302250) :
    Framed s o t (fieldLocs frame_1_writes args s ++ arrayLocs frame_1_arrays args s ++ staticLocs frame_1_statics s) 600000 7302250 := h
theorem lw_limb (L : Cond) (hL : ∀ (args : Array Value) (s t : State), L.after args s (.returned (some (.int 1))) t = true) :
    ArmFor flags0 classFile x code maxLocals ret World_1 tables_1 room_1 Calls_1 rest_1 Pre_1
      (fun tb e a s o t => postC L tb e a s o t ∧ Framed s o t (fieldLocs frame_1_writes a s ++ arrayLocs frame_1_arrays a s ++ staticLocs frame_1_statics s) 600000 7302250) := by
  intro l hflags _ _ p e ha hc hk s m args below hf hfit hheap happ hpre
  obtain ⟨k, o, h1, h2, h3, rfl, hF⟩ := lw_comes l hflags p e ha hc hk s m args below hf hfit hheap happ hpre
  exact ⟨k, _, h1, h2, h3, hL args s _, lw_frame hF⟩
theorem i_vc : Claimed_1_1 ∧ Claimed_1_2 := ⟨lw_limb limb_1_1 (fun args s t => by simp [limb_1_1, Cond.after, Cond.holds, Cond.value]), lw_limb limb_1_2 (fun args s t => Cond.after_iff.mpr (by
  first | (rw [show limb_1_2 = Cond.eq .result (.int 1) from rfl, Cond.eq_ints (x := 1) (y := 1) rfl rfl]; simp; done) | (simp [limb_1_2, Cond.value, Term.eval]; done)))⟩
