/-! the tables of a method that the weakest start rests on -/
def csT (pc : Nat) : Int → List Int → List (Int32 × Nat) → Bool
  | _, [], [] => true
  | a, o :: r, q :: r' => decide (q.1.toInt = a) && (decide ((pc : Int) + o = (q.2 : Int)) && csT pc (a + 1) r r')
  | _, _, _ => false
def csL (pc : Nat) : List (Int × Int) → List (Int32 × Nat) → Bool
  | [], [] => true
  | o :: r, q :: r' => decide (q.1.toInt = o.1) && (decide ((pc : Int) + o.2 = (q.2 : Int)) && csL pc r r')
  | _, _ => false
def sSide (own : String) (e : sT) : Bool := match e.2.2.1 with
  | .iconst n => decide (Int32.ofInt n = e.2.2.2.2.2.1) && Nat.beq e.2.1 1
  | .bipush n => decide ((Int8.ofInt n).toInt32 = e.2.2.2.2.2.1) && Nat.beq e.2.1 2
  | .sipush n => decide ((Int16.ofInt n).toInt32 = e.2.2.2.2.2.1) && Nat.beq e.2.1 3
  | .ldc i => decide ((own, i, e.2.2.2.2.2.1) ∈ CK) && Nat.beq e.2.1 2
  | .ldc_w i => decide ((own, i, e.2.2.2.2.2.1) ∈ CK) && Nat.beq e.2.1 3
  | .lconst n => decide (Int64.ofNat n.val = e.2.2.2.2.2.2) && Nat.beq e.2.1 1
  | .ldc2_w i => decide ((own, i, e.2.2.2.2.2.2) ∈ CKL) && Nat.beq e.2.1 3
  | .iload _ | .lload _ | .aload _ | .istore _ | .lstore _ => Nat.beq e.2.1 2
  | .iinc _ n => decide (Int32.ofInt n = e.2.2.2.2.2.1) && Nat.beq e.2.1 3
  | .goto o | .ifnull o | .ifnonnull o | .if_icmp _ o | .ifCond _ o => decide ((e.1 : Int) + o = (e.2.2.2.1 : Int)) && Nat.beq e.2.1 3
  | .tableswitch d lo hi offs => decide ((e.1 : Int) + d = (e.2.2.2.1 : Int)) && (decide (hi = lo + offs.size - 1) && csT e.1 lo offs.toList e.2.2.2.2.1)
  | .lookupswitch d ps => decide ((e.1 : Int) + d = (e.2.2.2.1 : Int)) && ((ps.toList.zip (ps.toList.drop 1)).all (fun (a, next) => a.1 < next.1) && csL e.1 ps.toList e.2.2.2.2.1)
  | .getfield _ | .putfield _ | .invokestatic _ | .invokevirtual _ => Nat.beq e.2.1 3
  | _ => Nat.beq e.2.1 1
def sTok (own : String) (bytes : ByteArray) (e : sT) : Prop := decode bytes e.1 = .ok (e.2.2.1, e.2.1) ∧ sSide own e = true
/-- an entry of the fields: index, class, place, sort -/
def fOK (own : String) (e : Nat × Nat × Nat × sF) : Prop := ∃ (C : String) (T : u_T) (N : Nat) (ref : String), cOK e.2.1 C T N ∧ e.2.2.1 < N ∧ Cond.fieldLink own e.1 ref (T e.2.2.1).2.1 (T e.2.2.1).2.2.1 ∈ ALL ∧ (ref = (T e.2.2.1).1 ∨ Cond.sameField ref (T e.2.2.1).1 (T e.2.2.1).2.1 (T e.2.2.1).2.2.1 ∈ ALL) ∧ (cfs.getD e.2.1 [])[e.2.2.1]? = some e.2.2.2 ∧
  (e.2.2.2.1 = 0 → parseFieldDescriptor (T e.2.2.1).2.2.1 = some .int ∧ (T e.2.2.1).2.2.2 = false) ∧ (e.2.2.2.1 = 3 → parseFieldDescriptor (T e.2.2.1).2.2.1 = some .boolean ∧ (T e.2.2.1).2.2.2 = false) ∧ (e.2.2.2.1 = 2 → ∃ o, parseFieldDescriptor (T e.2.2.1).2.2.1 = some (.object o) ∧ (T e.2.2.1).2.2.2 = false)
/-- what an entry of the calls rests on -/
def notMH (c : String) : Prop := c ≠ "java/lang/invoke/MethodHandle" ∧ c ≠ "java/lang/invoke/VarHandle"
def yOK (Y : List kd) (e : sE) : Prop := plainName e.2.2.2.1.1.cls = true ∧ Cond.code e.2.2.2.1.1 e.2.2.2.1.2.1 e.2.2.2.1.2.2.1 e.2.2.2.1.2.2.2 ∈ ALL ∧ e.2.2.2.1.2.2.1 ≤ 21 ∧ notMH e.2.2.2.1.1.cls ∧ (parseMethodDescriptor e.2.2.2.1.1.desc).map (fun d => d.parameters.length) = some e.2.2.2.2.1 ∧
  ∀ (as : List sv) (σ : sS) (r : Option sv) (σ' : sS), e.2.2.2.2.2.2.2 as σ = some (r, σ') → wtS Y as → ∀ (d : Nat) (Q : Option sv → sS → Prop), Q r σ' → CJ Y d e.2.2.2.1 as σ Q
def eOK (Y : List kd) (own : String) (e : sE) : Prop := match e.2.1 with
  | 0 => yOK Y e ∧ ∃ C T N, classes[e.2.2.1]? = some (C, T, N) ∧ e.2.2.2.1.1.cls = C ∧ Cond.methodLink own e.1 e.2.2.2.1.1 ∈ ALL ∧ Cond.instanceMethod e.2.2.2.1.1 ∈ ALL ∧ Cond.selects C e.2.2.2.1.1 e.2.2.2.1.1 ∈ ALL ∧ Cond.initialized C ∈ ALL
  | 1 => yOK Y e ∧ Cond.methodLinkNest own e.1 e.2.2.2.1.1 e.2.2.2.2.2.2.1 ∈ NW ∧ Cond.static e.2.2.2.1.1 ∈ ALL ∧ Cond.initialized e.2.2.2.1.1.cls ∈ ALL
  | 2 => yOK Y e ∧ Cond.methodLink own e.1 e.2.2.2.1.1 ∈ ALL ∧ Cond.static e.2.2.2.1.1 ∈ ALL ∧ Cond.initialized e.2.2.2.1.1.cls ∈ ALL
  | 3 => yOK Y e ∧ ∃ C T N, classes[e.2.2.1]? = some (C, T, N) ∧ e.2.2.2.1.1 = ⟨e.2.2.2.2.2.2.1, e.2.2.2.2.2.1.name, e.2.2.2.2.2.1.desc⟩ ∧ Cond.methodLink own e.1 e.2.2.2.2.2.1 ∈ ALL ∧ Cond.sameMethod e.2.2.2.2.2.1.cls e.2.2.2.2.2.2.1 e.2.2.2.2.2.1.name e.2.2.2.2.2.1.desc ∈ ALL ∧ Cond.selects C e.2.2.2.2.2.1 e.2.2.2.1.1 ∈ ALL ∧ Cond.instanceMethod e.2.2.2.1.1 ∈ ALL ∧ Cond.initialized e.2.2.2.1.1.cls ∈ ALL ∧ notMH e.2.2.2.2.2.2.1
  | 4 => yOK Y e ∧ ∃ C T N, classes[e.2.2.1]? = some (C, T, N) ∧ Cond.methodLink own e.1 e.2.2.2.2.2.1 ∈ ALL ∧ Cond.sameMethod e.2.2.2.2.2.1.cls e.2.2.2.2.2.2.1 e.2.2.2.2.2.1.name e.2.2.2.2.2.1.desc ∈ ALL ∧ Cond.selects C e.2.2.2.2.2.1 e.2.2.2.1.1 ∈ ALL ∧ Cond.instanceMethod e.2.2.2.1.1 ∈ ALL ∧ Cond.initialized e.2.2.2.1.1.cls ∈ ALL ∧ notMH e.2.2.2.2.2.2.1 ∧ Cond.declares ⟨e.2.2.2.2.2.2.1, e.2.2.2.2.2.1.name, e.2.2.2.2.2.1.desc⟩ ∈ NW ∧ (parseMethodDescriptor e.2.2.2.2.2.1.desc).map (fun d => d.parameters.length) = some e.2.2.2.2.1
  | 5 => Cond.methodLink own e.1 Lib.Math.min.name ∈ ALL ∧ Cond.static Lib.Math.min.name ∈ ALL ∧ Cond.initialized "java/lang/Math" ∈ ALL ∧ Cond.code Lib.Math.min.name Lib.Math.min.code 2 (some .int) ∈ ALL
  | 6 => Cond.methodLink own e.1 Lib.Math.max.name ∈ ALL ∧ Cond.static Lib.Math.max.name ∈ ALL ∧ Cond.initialized "java/lang/Math" ∈ ALL ∧ Cond.code Lib.Math.max.name Lib.Math.max.code 2 (some .int) ∈ ALL
  | 7 => Cond.methodLink own e.1 arraycopyName ∈ ALL ∧ Cond.native arraycopyName ∈ ALL ∧ Cond.static arraycopyName ∈ ALL ∧ Cond.initialized "java/lang/System" ∈ ALL
  | _ => False
theorem w1I_inv {st : List sv} {f : Int32 → List sv → Prop} (h : w1I st f) : ∃ x r, st = .inl x :: r ∧ f x r := by
  unfold w1I at h
  split at h
  · exact ⟨_, _, rfl, h⟩
  · exact h.elim
theorem w2I_inv {st : List sv} {f : Int32 → Int32 → List sv → Prop} (h : w2I st f) : ∃ x y r, st = .inl y :: .inl x :: r ∧ f x y r := by
  unfold w2I at h
  split at h
  · exact ⟨_, _, _, rfl, h⟩
  · exact h.elim
theorem w1J_inv {st : List sv} {f : Int64 → List sv → Prop} (h : w1J st f) : ∃ x r, st = .inr (.inl x) :: r ∧ f x r := by
  unfold w1J at h
  split at h
  · exact ⟨_, _, rfl, h⟩
  · exact h.elim
theorem w2J_inv {st : List sv} {f : Int64 → Int64 → List sv → Prop} (h : w2J st f) : ∃ x y r, st = .inr (.inl y) :: .inr (.inl x) :: r ∧ f x y r := by
  unfold w2J at h
  split at h
  · exact ⟨_, _, _, rfl, h⟩
  · exact h.elim
theorem w1R_inv {st : List sv} {f : Nat → kd → List sv → Prop} (h : w1R st f) : ∃ b k r, st = .inr (.inr (b, k)) :: r ∧ f b k r := by
  unfold w1R at h
  split at h
  · rename_i q r
    exact ⟨q.1, q.2, r, rfl, h⟩
  · exact h.elim
theorem w1O_inv {st : List sv} {f : Nat → Nat → List sv → Prop} (h : w1O st f) : ∃ b k r, st = .inr (.inr (b, .inl k)) :: r ∧ f b k r := by
  unfold w1O at h
  split at h
  · exact ⟨_, _, _, rfl, h⟩
  · exact h.elim
theorem wXO_inv {st : List sv} {f : sv → Nat → Nat → List sv → Prop} (h : wXO st f) : ∃ v b k r, st = v :: .inr (.inr (b, .inl k)) :: r ∧ f v b k r := by
  unfold wXO at h
  split at h
  · exact ⟨_, _, _, _, rfl, h⟩
  · exact h.elim
theorem wA_inv {st : List sv} {f : Nat → Nat → List sv → Prop} (h : wA st f) : ∃ b k r, st = .inr (.inr (b, .inr k)) :: r ∧ f b k r := by
  unfold wA at h
  split at h
  · exact ⟨_, _, _, rfl, h⟩
  · exact h.elim
theorem wIA_inv {st : List sv} {f : Int32 → Nat → Nat → List sv → Prop} (h : wIA st f) : ∃ i b k r, st = .inl i :: .inr (.inr (b, .inr k)) :: r ∧ f i b k r := by
  unfold wIA at h
  split at h
  · exact ⟨_, _, _, _, rfl, h⟩
  · exact h.elim
theorem wIIA_inv {st : List sv} {f : Int32 → Int32 → Nat → Nat → List sv → Prop} (h : wIIA st f) : ∃ x i b k r, st = .inl x :: .inl i :: .inr (.inr (b, .inr k)) :: r ∧ f x i b k r := by
  unfold wIIA at h
  split at h
  · exact ⟨_, _, _, _, _, rfl, h⟩
  · exact h.elim
theorem wCp_inv {st : List sv} {f : Int32 → Int32 → Nat → Nat → Int32 → Nat → Nat → List sv → Prop} (h : wCp st f) : ∃ n dp a n1 sp a0 n0 r, st = .inl n :: .inl dp :: .inr (.inr (a, .inr n1)) :: .inl sp :: .inr (.inr (a0, .inr n0)) :: r ∧ f n dp a n1 sp a0 n0 r := by
  unfold wCp at h
  split at h
  · exact ⟨_, _, _, _, _, _, _, _, rfl, h⟩
  · exact h.elim
theorem wgI_inv {i : Nat} {ls : sL} {f : Int32 → Prop} (h : wgI i ls f) : ∃ x, gl i ls = some (.inl x) ∧ f x := by
  unfold wgI at h
  split at h
  · rename_i x hx
    exact ⟨x, hx, h⟩
  · exact h.elim
theorem wgJ_inv {i : Nat} {ls : sL} {f : Int64 → Prop} (h : wgJ i ls f) : ∃ x, gl i ls = some (.inr (.inl x)) ∧ f x := by
  unfold wgJ at h
  split at h
  · rename_i x hx
    exact ⟨x, hx, h⟩
  · exact h.elim
theorem wgR_inv {i : Nat} {ls : sL} {f : Nat → kd → Prop} (h : wgR i ls f) : ∃ b k, gl i ls = some (.inr (.inr (b, k))) ∧ f b k := by
  unfold wgR at h
  split at h
  · rename_i q hx
    exact ⟨q.1, q.2, hx, h⟩
  · exact h.elim
theorem ffind_mem {idx ci : Nat} : ∀ {ft : List (Nat × Nat × Nat × sF)} {q : Nat × sF}, ffind idx ci ft = some q → (idx, ci, q) ∈ ft
  | [], q, h => by cases h
  | e :: r, q, h => by
    obtain ⟨a, b, c⟩ := e
    simp only [ffind] at h
    cases hb : (Nat.beq a idx && Nat.beq b ci) with
    | true =>
      rw [hb] at h
      simp only [Bool.and_eq_true] at hb
      have e1 := Nat.eq_of_beq_eq_true hb.1
      have e2 := Nat.eq_of_beq_eq_true hb.2
      subst e1; subst e2
      have : c = q := by simpa using h
      subst this
      exact List.mem_cons_self
    | false =>
      rw [hb] at h
      exact List.mem_cons_of_mem _ (ffind_mem h)
theorem cfind_mem {idx : Nat} : ∀ {ct : List sE} {e : sE}, cfind idx ct = some e → e ∈ ct ∧ e.1 = idx
  | [], e, h => by cases h
  | q :: r, e, h => by
    simp only [cfind] at h
    cases hb : Nat.beq q.1 idx with
    | true =>
      rw [hb] at h
      have : q = e := by simpa using h
      subst this
      exact ⟨List.mem_cons_self, Nat.eq_of_beq_eq_true hb⟩
    | false =>
      rw [hb] at h
      exact ⟨List.mem_cons_of_mem _ (cfind_mem h).1, (cfind_mem h).2⟩
theorem cfindR_mem {idx ci : Nat} : ∀ {ct : List sE} {e : sE}, cfindR idx ci ct = some e → e ∈ ct ∧ e.1 = idx ∧ e.2.2.1 = ci
  | [], e, h => by cases h
  | q :: r, e, h => by
    simp only [cfindR] at h
    cases hb : (Nat.beq q.1 idx && Nat.beq q.2.2.1 ci) with
    | true =>
      rw [hb] at h
      have : q = e := by simpa using h
      subst this
      simp only [Bool.and_eq_true] at hb
      exact ⟨List.mem_cons_self, Nat.eq_of_beq_eq_true hb.1, Nat.eq_of_beq_eq_true hb.2⟩
    | false =>
      rw [hb] at h
      exact ⟨List.mem_cons_of_mem _ (cfindR_mem h).1, (cfindR_mem h).2⟩
theorem wsum_cat (ad : Nat → Nat) : ∀ st : List sv, ((st.map (cv ad)).map fun v => v.category).sum = wsum st
  | [] => rfl
  | v :: r => by
    simp only [List.map_cons, List.sum_cons, wsum]
    rw [cv_cat]
    have := wsum_cat ad r
    simp only [List.map_map] at this ⊢
    rw [this]
    cases cat2 v <;> rfl
theorem wsum_sl (ad : Nat → Nat) : ∀ st : List sv, (lg_sl (st.map (cv ad))).length = wsum st
  | [] => rfl
  | v :: r => by
    have := wsum_sl ad r
    simp only [lg_sl] at this ⊢
    simp only [List.map_cons, List.flatMap_cons, List.length_append, wsum]
    rw [this, cv_cat]
    cases cat2 v <;> rfl
/-- the addresses of a world are the same whatever it holds -/
theorem wl_D {A : Nat → Prop} {cA : ClassId} {ad : Nat → Nat} {σ : sS} {Y : List kd} (σ' : sS) (h : va_D A (wl cA ad σ Y)) : va_D A (wl cA ad σ' Y) := by
  have key : ∀ (σ1 : sS) (k : Nat) (q : Nat × va_E), (wl cA ad σ1 Y)[k]? = some q → q.1 = ad k ∧ ∃ e, Y[k]? = some e := by
    intro σ1 k q hk
    unfold wl at hk
    rw [List.getElem?_mapIdx] at hk
    cases hY : Y[k]? with
    | none => rw [hY] at hk; cases hk
    | some e =>
      rw [hY] at hk
      have : (ad k, ent cA ad σ1 k e) = q := by simpa using hk
      subst this
      exact ⟨rfl, e, rfl⟩
  refine ⟨fun i j p q hi hj hpq => ?_, fun k q hk => ?_⟩
  · obtain ⟨e1, k1, f1⟩ := key σ' i p hi
    obtain ⟨e2, k2, f2⟩ := key σ' j q hj
    exact h.1 i j _ _ (wl_get f1) (wl_get f2) (by rw [← e1, ← e2]; exact hpq)
  · obtain ⟨e1, k1, f1⟩ := key σ' k q hk
    rw [e1]
    exact h.2 k _ (wl_get f1)
