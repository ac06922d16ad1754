/-! dm: what the tables of a method must be; helpers of the step -/
def dSide (own : String) (e : sT) : Bool := match e.2.2.1 with
  | .iconst n => decide (Int32.ofInt n = e.2.2.2.2.2.1) && Nat.beq e.2.1 1
  | .bipush n => decide ((Int8.ofInt n).toInt32 = e.2.2.2.2.2.1) && Nat.beq e.2.1 2
  | .sipush n => decide ((Int16.ofInt n).toInt32 = e.2.2.2.2.2.1) && Nat.beq e.2.1 3
  | .ldc i => decide ((own, i, e.2.2.2.2.2.1) ∈ CK) && Nat.beq e.2.1 2
  | .iload _ | .aload _ | .istore _ | .astore _ | .newarray _ => Nat.beq e.2.1 2
  | .iinc _ n => decide (Int32.ofInt n = e.2.2.2.2.2.1) && Nat.beq e.2.1 3
  | .goto o | .ifnonnull o | .if_icmp _ o | .ifCond _ o => decide ((e.1 : Int) + o = (e.2.2.2.1 : Int)) && Nat.beq e.2.1 3
  | .getfield _ | .putfield _ | .invokestatic _ | .invokevirtual _ | .invokespecial _ | .new _ | .anewarray _ | .checkcast _ => Nat.beq e.2.1 3
  | _ => Nat.beq e.2.1 1
def dTok (own : String) (bytes : ByteArray) (e : sT) : Prop := decode bytes e.1 = .ok (e.2.2.1, e.2.1) ∧ dSide own e = true
def dFOK (own : String) (e : dF) : Prop := ∃ (C : String) (T : u_T) (N : Nat), cOK e.2.1 C T N ∧ e.2.2.1 < N ∧ Cond.fieldLink own e.1 (T e.2.2.1).1 (T e.2.2.1).2.1 (T e.2.2.1).2.2.1 ∈ ALL ∧
  (e.2.2.2.1 = 0 → parseFieldDescriptor (T e.2.2.1).2.2.1 = some .int) ∧ (e.2.2.2.1 = 1 → ∃ ty : FieldType, parseFieldDescriptor (T e.2.2.1).2.2.1 = some ty ∧ ∀ b : Nat, narrow ty (.ref b) = .ref b ∧ fits ty (.ref b) = true) ∧
  (e.2.2.2.2 = 0 → (T e.2.2.1).2.2.2 = false) ∧ (e.2.2.2.2 = 1 → (T e.2.2.1).2.2.2 = true ∧ (T e.2.2.1).1 = own)
def dyOK (e : dCl) : Prop := plainName e.2.2.1.1.cls = true ∧ Cond.code e.2.2.1.1 e.2.2.1.2.1 e.2.2.1.2.2.1 e.2.2.1.2.2.2 ∈ ALL ∧ e.2.2.1.2.2.1 ≤ 21 ∧ notMH e.2.2.1.1.cls ∧ (parseMethodDescriptor e.2.2.1.1.desc).map (fun d => d.parameters.length) = some e.2.2.2.1
def cloneName : MethodName := ⟨"[I", "clone", "()Ljava/lang/Object;"⟩
def objClone : MethodName := ⟨"java/lang/Object", "clone", "()Ljava/lang/Object;"⟩
def dCOK (own : String) (e : dCl) : Prop := match e.2.1 with
  | 0 => dyOK e ∧ ∃ C T N, classes[e.2.2.2.2.2]? = some (C, T, N) ∧ e.2.2.1.1.cls = C ∧ Cond.methodLink own e.1 e.2.2.1.1 ∈ ALL ∧ Cond.instanceMethod e.2.2.1.1 ∈ ALL ∧ Cond.selects C e.2.2.1.1 e.2.2.1.1 ∈ ALL ∧ Cond.initialized C ∈ ALL
  | 2 => dyOK e ∧ Cond.methodLink own e.1 e.2.2.1.1 ∈ ALL ∧ Cond.static e.2.2.1.1 ∈ ALL ∧ Cond.initialized e.2.2.1.1.cls ∈ ALL
  | 5 => Cond.methodLink own e.1 Lib.Math.min.name ∈ ALL ∧ Cond.static Lib.Math.min.name ∈ ALL ∧ Cond.initialized "java/lang/Math" ∈ ALL ∧ Cond.code Lib.Math.min.name Lib.Math.min.code 2 (some .int) ∈ ALL
  | 8 => dyOK e ∧ e.2.2.1.1.name = "<init>" ∧ e.2.2.1.2.2.2 = none ∧ Cond.initialized e.2.2.1.1.cls ∈ ALL ∧ Cond.methodLink own e.1 e.2.2.1.1 ∈ ALL ∧ Cond.instanceMethod e.2.2.1.1 ∈ ALL
  | 9 => dyOK e ∧ e.2.2.1.1.name = "<init>" ∧ e.2.2.1.2.2.2 = none ∧ Cond.initialized e.2.2.1.1.cls ∈ ALL ∧ (∃ host, Cond.methodLinkNest own e.1 e.2.2.1.1 host ∈ NW2) ∧ Cond.instanceMethod e.2.2.1.1 ∈ ALL
  | 10 => eOK LX own (e.1, 0, 5, e.2.2.1, e.2.2.2.1, ⟨"", "", ""⟩, "", pr0)
  | 11 => Cond.methodLink own e.1 cloneName ∈ ALL ∧ Cond.sameMethod "[I" "java/lang/Object" "clone" "()Ljava/lang/Object;" ∈ ALL ∧ Cond.native objClone ∈ ALL ∧ Cond.instanceMethod objClone ∈ ALL ∧ Cond.selects "[I" cloneName objClone ∈ ALL
  | 12 => Cond.methodLink own e.1 Lib.objectInit ∈ ALL ∧ Cond.instanceMethod Lib.objectInit ∈ ALL ∧ Cond.code Lib.objectInit ⟨#[0xb1]⟩ 1 none ∈ ALL
  | 20 => ∃ C T N, cOK e.2.2.2.2.2 C T N ∧ N = dNf e.2.2.2.2.2 ∧ (∃ ty : Nat → FieldType, (∀ k, k < N → parseFieldDescriptor (T k).2.2.1 = some (ty k)) ∧ ∀ j, j < N → defaultValue (ty j) = vp_V (dfl e.2.2.2.2.2) j) ∧ Cond.classLink own e.1 C ∈ ALL ∧ Cond.instantiable C N ∈ ALL ∧ Cond.initialized C ∈ ALL
  | 21 => (e.2.2.2.2.2 = 0 ∧ Cond.classLink own (e.1 - 10000) nmV ∈ ALL) ∨ (e.2.2.2.2.2 = 1 ∧ Cond.classLink own (e.1 - 10000) nmC ∈ ALL)
  | 22 => Cond.classLink own e.1 "[I" ∈ ALL
  | _ => False
theorem x1I_inv {st : List Value} {f : Int32 → List Value → Prop} (h : x1I st f) : ∃ x r, st = .int x :: r ∧ f x r := by
  unfold x1I at h
  split at h
  · exact ⟨_, _, rfl, h⟩
  · exact h.elim
theorem x2I_inv {st : List Value} {f : Int32 → Int32 → List Value → Prop} (h : x2I st f) : ∃ x y r, st = .int y :: .int x :: r ∧ f x y r := by
  unfold x2I at h
  split at h
  · exact ⟨_, _, _, rfl, h⟩
  · exact h.elim
theorem x1R_inv {st : List Value} {f : Nat → List Value → Prop} (h : x1R st f) : ∃ a r, st = .ref a :: r ∧ f a r := by
  unfold x1R at h
  split at h
  · exact ⟨_, _, rfl, h⟩
  · exact h.elim
theorem xIR_inv {st : List Value} {f : Int32 → Nat → List Value → Prop} (h : xIR st f) : ∃ i a r, st = .int i :: .ref a :: r ∧ f i a r := by
  unfold xIR at h
  split at h
  · exact ⟨_, _, _, rfl, h⟩
  · exact h.elim
theorem xIIR_inv {st : List Value} {f : Int32 → Int32 → Nat → List Value → Prop} (h : xIIR st f) : ∃ x i a r, st = .int x :: .int i :: .ref a :: r ∧ f x i a r := by
  unfold xIIR at h
  split at h
  · exact ⟨_, _, _, _, rfl, h⟩
  · exact h.elim
theorem xRIR_inv {st : List Value} {f : Nat → Int32 → Nat → List Value → Prop} (h : xRIR st f) : ∃ v i a r, st = .ref v :: .int i :: .ref a :: r ∧ f v i a r := by
  unfold xRIR at h
  split at h
  · exact ⟨_, _, _, _, rfl, h⟩
  · exact h.elim
theorem xRR_inv {st : List Value} {f : Nat → Nat → List Value → Prop} (h : xRR st f) : ∃ v a r, st = .ref v :: .ref a :: r ∧ f v a r := by
  unfold xRR at h
  split at h
  · exact ⟨_, _, _, rfl, h⟩
  · exact h.elim
theorem x1V_inv {st : List Value} {f : Value → List Value → Prop} (h : x1V st f) : ∃ v r, st = v :: r ∧ f v r := by
  unfold x1V at h
  split at h
  · exact ⟨_, _, rfl, h⟩
  · exact h.elim
theorem vgI_inv {i : Nat} {ls : dL} {f : Int32 → Prop} (h : vgI i ls f) : ∃ x, gv i ls = some (.int x) ∧ f x := by
  unfold vgI at h
  split at h
  · rename_i x hx
    exact ⟨x, hx, h⟩
  · exact h.elim
theorem vgR_inv {i : Nat} {ls : dL} {f : Nat → Prop} (h : vgR i ls f) : ∃ a, gv i ls = some (.ref a) ∧ f a := by
  unfold vgR at h
  split at h
  · rename_i x hx
    exact ⟨x, hx, h⟩
  · exact h.elim
theorem gv_mem : ∀ (ls : dL) (i : Nat) (v : Value), gv i ls = some v → (i, v) ∈ ls
  | [], i, v, h => by simp [gv] at h
  | q :: r, i, v, h => by
    obtain ⟨j, w⟩ := q
    simp only [gv] at h
    cases hb : Nat.beq j i with
    | true =>
      rw [hb] at h
      have e := Nat.eq_of_beq_eq_true hb
      subst e
      have hw : w = v := by simpa using h
      subst hw
      exact List.mem_cons_self
    | false =>
      rw [hb] at h
      exact List.mem_cons_of_mem _ (gv_mem r i v h)
theorem lv_gv {lsA : Array Slot} {nL : Nat} {ls : dL} (h : lv_has lsA nL ls) {i : Nat} {v : Value} (hg : gv i ls = some v) : lsA[i]? = some (.val v) := h.2.2 (i, v) (gv_mem ls i v hg)
theorem iv_mem : ∀ (ls : dL) (i : Nat) (v : Value) (q : Nat × Value), q ∈ iv i v ls → q = (i, v) ∨ q ∈ ls
  | [], i, v, q, h => by
    simp only [iv, List.mem_singleton] at h
    exact Or.inl h
  | p :: r, i, v, q, h => by
    simp only [iv] at h
    cases hb : Nat.blt i p.1 with
    | true =>
      rw [hb] at h
      exact List.mem_cons.mp h
    | false =>
      rw [hb] at h
      rcases List.mem_cons.mp h with e | h
      · exact Or.inr (e ▸ List.mem_cons_self)
      · rcases iv_mem r i v q h with e | h
        · exact Or.inl e
        · exact Or.inr (List.mem_cons_of_mem _ h)
theorem fv1_mem : ∀ (ls : dL) (i : Nat) (q : Nat × Value), q ∈ fv1 i ls → q ∈ ls ∧ ¬ q.1 = i ∧ (q.1 + 1 = i → c1 q.2 = true)
  | [], i, q, h => by simp [fv1] at h
  | p :: r, i, q, h => by
    simp only [fv1] at h
    have back : q ∈ fv1 i r → q ∈ p :: r ∧ ¬ q.1 = i ∧ (q.1 + 1 = i → c1 q.2 = true) := fun z => ⟨List.mem_cons_of_mem _ (fv1_mem r i q z).1, (fv1_mem r i q z).2⟩
    cases hb : Nat.beq p.1 i with
    | true => rw [hb] at h; exact back h
    | false =>
      rw [hb] at h
      have n1 : ¬ p.1 = i := Nat.ne_of_beq_eq_false hb
      cases hb2 : Nat.beq (p.1 + 1) i with
      | false =>
        rw [hb2] at h
        rcases List.mem_cons.mp h with rfl | h
        · exact ⟨List.mem_cons_self, n1, fun z => absurd z (Nat.ne_of_beq_eq_false hb2)⟩
        · exact back h
      | true =>
        rw [hb2] at h
        cases hc : c1 p.2 with
        | false => rw [hc] at h; exact back h
        | true =>
          rw [hc] at h
          rcases List.mem_cons.mp h with rfl | h
          · exact ⟨List.mem_cons_self, n1, fun _ => hc⟩
          · exact back h
theorem sv1_mem {ls : dL} {i : Nat} {v : Value} : ∀ q ∈ sv1 i v ls, q ∈ (i, v) :: ls.filter (fun q => !(q.1 == i) && !(q.1 + 1 == i && q.2.category == 2)) := by
  intro q hq
  rcases iv_mem _ i v q hq with rfl | h
  · exact List.mem_cons_self
  · obtain ⟨h1, h2, h3⟩ := fv1_mem ls i q h
    refine List.mem_cons_of_mem _ (List.mem_filter.mpr ⟨h1, ?_⟩)
    simp only [Bool.and_eq_true, Bool.not_eq_true', beq_eq_false_iff_ne, ne_eq]
    refine ⟨h2, ?_⟩
    by_cases z : q.1 + 1 = i
    · simp [c1_cat (h3 z)]
    · simp [z]
theorem dff_mem {idx : Nat} : ∀ {ft : List dF} {q : Nat × Nat × Nat × Nat}, dff idx ft = some q → (idx, q) ∈ ft
  | [], q, h => by cases h
  | e :: r, q, h => by
    obtain ⟨a, c⟩ := e
    simp only [dff] at h
    cases hb : Nat.beq a idx with
    | true =>
      rw [hb] at h
      have e1 := Nat.eq_of_beq_eq_true hb
      subst e1
      have : c = q := by simpa using h
      subst this
      exact List.mem_cons_self
    | false =>
      rw [hb] at h
      exact List.mem_cons_of_mem _ (dff_mem h)
theorem dcf_mem {idx : Nat} : ∀ {ct : List dCl} {e : dCl}, dcf idx ct = some e → e ∈ ct ∧ e.1 = idx
  | [], e, h => by cases h
  | q :: r, e, h => by
    simp only [dcf] at h
    cases hb : Nat.beq q.1 idx with
    | true =>
      rw [hb] at h
      have : q = e := by simpa using h
      subst this
      exact ⟨List.mem_cons_self, Nat.eq_of_beq_eq_true hb⟩
    | false =>
      rw [hb] at h
      exact ⟨List.mem_cons_of_mem _ (dcf_mem h).1, (dcf_mem h).2⟩
theorem wl_addr {cA : ClassId} {ad : Nat → Nat} {σ σ' : sS} {Y : List kd} {i : Nat} {q : Nat × va_E} (h : (wl cA ad σ' Y)[i]? = some q) : ∃ q0, (wl cA ad σ Y)[i]? = some q0 ∧ q0.1 = q.1 := by
  unfold wl at h ⊢
  rw [List.getElem?_mapIdx] at h ⊢
  cases hY : Y[i]? with
  | none => rw [hY] at h; cases h
  | some e =>
    rw [hY] at h
    have : (ad i, ent cA ad σ' i e) = q := by simpa using h
    subst this
    exact ⟨_, rfl, rfl⟩
theorem dP_gf {D : va_G} {K : dK} {ax : Nat → Nat} {σ σ' : sS} {ws : va_W} {μ : dW} {A : Nat → Prop} {H H1 : Heap} (h : dP D K ax σ ws μ A H) (hP1 : va_P D classes (wG K ax σ') H1) (hk : ∀ q : Nat, q < H.size → ¬ va_A (wG K ax σ) H.size q → H1[q]? = H[q]?) : dP D K ax σ' ws μ A H1 := by
  have up2 : ∀ (j : Nat) (q : Nat × va_E), ws[j]? = some q → (wG K ax σ ++ ws)[(wG K ax σ).length + j]? = some q := fun j q hj => by rw [List.getElem?_append_right (Nat.le_add_right _ _), Nat.add_sub_cancel_left]; exact hj
  have up1 : ∀ (i : Nat) (q : Nat × va_E), (wG K ax σ)[i]? = some q → (wG K ax σ ++ ws)[i]? = some q := fun i q hi => by rw [List.getElem?_append_left (List.getElem?_eq_some_iff.mp hi).1]; exact hi
  have apart : ∀ (i j : Nat) (x y : Nat × va_E), (wG K ax σ)[i]? = some x → ws[j]? = some y → x.1 ≠ y.1 := by
    intro i j x y hi hj hxy
    have := h.2.2.1 i _ x y (up1 i x hi) (up2 j y hj) hxy
    have := (List.getElem?_eq_some_iff.mp hi).1
    omega
  refine ⟨h.1, va_P.app hP1 (fun k q hq => ?_), va_D.app ⟨fun i j x y hi hj hxy => ?_, fun k q hq => ?_⟩ ⟨fun i j x y hi hj hxy => ?_, fun k q hq => ?_⟩ (fun i j x y hi hj hxy => ?_)⟩
  · have h8 := h.2.1 _ q (up2 k q hq)
    refine h8.kept (hk q.1 h8.lt ?_)
    rintro (⟨i, en, hi⟩ | hz)
    · exact apart i k _ q hi hq rfl
    · have := h8.lt
      omega
  · obtain ⟨x0, hx0, ex⟩ := wl_addr (σ := σ) hi
    obtain ⟨y0, hy0, ey⟩ := wl_addr (σ := σ) hj
    exact h.2.2.1 i j x0 y0 (up1 i _ hx0) (up1 j _ hy0) (by rw [ex, ey]; exact hxy)
  · obtain ⟨x0, hx0, ex⟩ := wl_addr (σ := σ) hq
    rw [← ex]
    exact h.2.2.2 k x0 (up1 k _ hx0)
  · exact Nat.add_left_cancel (h.2.2.1 _ _ x y (up2 i x hi) (up2 j y hj) hxy)
  · exact h.2.2.2 _ q (up2 k q hq)
  · obtain ⟨x0, hx0, ex⟩ := wl_addr (σ := σ) hi
    exact apart i j x0 y hx0 hj (by rw [ex]; exact hxy)
theorem aw_bool : Cond.arrayClass .boolean ∈ ALL := ALL_in 795 (by decide +kernel) rfl
section DNEW
variable {p : Program} {l : Launch} {e : Env} {R : Room} {s : State} {m : MethodId} {args : Array Value} {below : List Frame} {meth : Method} {c : Code} {H : Heap} {locs : List Loc} {cells slots : Nat} {Qf : State → Prop}
variable {cc : ByteArray} {pc : Nat} {ls : Array Slot} {rest : List Value} {D : va_G} {K : dK} {A : Nat → Prop} {ws : va_W} {H0 : Heap}
theorem x_newz (hz : (Cond.arrayClass .boolean).before args s = true) (hx : p.tables.exec = Jvm.exec) (hb : c.code = cc) (hK : va_K D classes (dTy K) s) (hP : va_P D classes ws H) (hD : va_D A ws) (hS : va_S A H0 H locs) (hA : ∀ q, H0.size ≤ q → A q)
    {n : Int32} (N : Nat) (hn : ¬ n < 0) (hN : n.toNatClampNeg = N) (hbytes : N * 4 ≤ 536870912) (hcells : cells + 1 ≤ R.cells) (hslots : slots + N ≤ R.slots) (hdg : decode cc pc = .ok (.newarray .boolean, 2))
    (kk : ∀ (q : Nat) (H1 : Heap), va_P D classes (ws ++ [(q, .inl (K.2.1, N, .inl (fun _ => 0)))]) H1 → va_D A (ws ++ [(q, .inl (K.2.1, N, .inl (fun _ => 0)))]) → va_S A H0 H1 locs → W p l e R s m args below meth c H1 locs (cells + 1) (slots + N) Qf (F0 m (pc + 2) ls (.ref q :: rest))) : W p l e R s m args below meth c H locs cells slots Qf (F0 m pc ls (.int n :: rest)) := by
  refine va_newa (atype := .boolean) (ty := .boolean) hx hb hz rfl hK hP hD hS hA (N' := N) (a0 := (N, .inl (fun _ => 0))) (fun cA => rfl) hn hN (Nat.le_trans (Nat.mul_le_mul_left N (by decide : componentBytes .boolean ≤ 4)) hbytes) hcells hslots hdg ?_
  intro q cA' H1 hK' hP' hD' hS'
  have e1 : s.vm.findClass ("[" ++ FieldType.boolean.toString) = some K.2.1 := (hK.2 1 _ rfl).2
  have e2 : s.vm.findClass ("[" ++ FieldType.boolean.toString) = some cA' := (hK'.2 4 _ rfl).2
  have e3 : cA' = K.2.1 := Option.some.inj (e2.symm.trans e1)
  subst e3
  exact kk q H1 hP' hD' hS'
theorem x_newq {C : String} {t0 : Nat} {cA : ClassId} {own : String} {index : Nat} (ht : (dTy K)[t0]? = some (cA, .object C)) (hown : s.vm.findClass own = some m.cls) (hcl : (Cond.classLink own index C).before args s = true) (hover : va_AO C s) (hx : p.tables.exec = Jvm.exec) (hb : c.code = cc) (hK : va_K D classes (dTy K) s) (hP : va_P D classes ws H) (hD : va_D A ws) (hS : va_S A H0 H locs) (hA : ∀ q, H0.size ≤ q → A q)
    {n : Int32} (N : Nat) (hn : ¬ n < 0) (hN : n.toNatClampNeg = N) (hbytes : N * 4 ≤ 536870912) (hcells : cells + 1 ≤ R.cells) (hslots : slots + N ≤ R.slots) (hdg : decode cc pc = .ok (.anewarray index, 3))
    (kk : ∀ (q : Nat) (H1 : Heap), va_P D classes (ws ++ [(q, .inl (cA, N, .inr (.inr (.inr (.inr (fun _ => none))))))]) H1 → va_D A (ws ++ [(q, .inl (cA, N, .inr (.inr (.inr (.inr (fun _ => none))))))]) → va_S A H0 H1 locs → W p l e R s m args below meth c H1 locs (cells + 1) (slots + N) Qf (F0 m (pc + 3) ls (.ref q :: rest))) : W p l e R s m args below meth c H locs cells slots Qf (F0 m pc ls (.int n :: rest)) := by
  refine va_newq hx hb hown hcl hover hK hP hD hS hA hn hN hbytes hcells hslots hdg ?_
  intro q cA' H1 hK' hP' hD' hS'
  obtain ⟨_, _, _, _, _, e1⟩ := (hK.2 t0 _ ht).2
  obtain ⟨_, _, _, _, _, e2⟩ := (hK'.2 4 _ rfl).2
  have e3 : cA' = cA := Option.some.inj (e2.symm.trans e1)
  subst e3
  exact kk q H1 hP' hD' hS'
end DNEW
