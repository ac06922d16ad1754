/-! THE SIMPLE MACHINE (sm): worlds of int cells with fixed references, methods by weakest start, all over the kit's rows. No name of the claim's own stands here but ALL, NW, classes, cfs of part 00. -/
abbrev kd : Type := Nat ⊕ Nat
abbrev sv : Type := Int32 ⊕ (Int64 ⊕ (Nat × kd))
abbrev sS : Type := Nat → Nat → Int32
abbrev sL : Type := List (Nat × sv)
abbrev sF : Type := Nat × Nat × kd
abbrev sY : Type := MethodName × ByteArray × Nat × Option FieldType
/-- pc, length, instruction, target, cases of a switch, constants -/
abbrev sT : Type := Nat × Nat × Instr × Nat × List (Int32 × Nat) × Int32 × Int64
abbrev sP : Type := List sv → sS → Option (Option sv × sS)
/-- index, kind, receiver's class, callee, how many arguments, named method, owner or host, what it does if that is known -/
abbrev sE : Type := Nat × Nat × Nat × sY × Nat × MethodName × String × sP
abbrev sI (x : Int32) : sv := .inl x
abbrev sJ (x : Int64) : sv := .inr (.inl x)
abbrev sR (b : Nat) (k : kd) : sv := .inr (.inr (b, k))
def cv (ad : Nat → Nat) (v : sv) : Value := match v with
  | .inl x => .int x
  | .inr (.inl y) => .long y
  | .inr (.inr q) => .ref (ad q.1)
def cvL (ad : Nat → Nat) (ls : sL) : List (Nat × Value) := ls.map (fun q => (q.1, cv ad q.2))
def gl (i : Nat) : sL → Option sv
  | [] => none
  | q :: r => cond (Nat.beq q.1 i) (some q.2) (gl i r)
def il (i : Nat) (v : sv) : sL → sL
  | [] => [(i, v)]
  | q :: r => cond (Nat.blt i q.1) ((i, v) :: q :: r) (q :: il i v r)
def cat2 (v : sv) : Bool := match v with
  | .inr (.inl _) => true
  | _ => false
def sl1 (i : Nat) (v : sv) (ls : sL) : sL := il i v (ls.filter (fun q => !(Nat.beq q.1 i) && !(Nat.beq (q.1 + 1) i && cat2 q.2)))
def sl2 (i : Nat) (v : sv) (ls : sL) : sL := il i v (ls.filter (fun q => !(Nat.beq q.1 i) && (!(Nat.beq q.1 (i + 1)) && !(Nat.beq (q.1 + 1) i && cat2 q.2))))
def up (σ : sS) (a k : Nat) (x : Int32) : sS := fun c => if c = a then upd (σ a) k x else σ c
def fv (ad : Nat → Nat) (σ : sS) (b k : Nat) (s : sF) : Value := match s.1 with
  | 1 => .ref (ad (b + s.2.1))
  | 2 => .ref (ad (σ b k).toNatClampNeg)
  | _ => .int (σ b k)
def fvs (ad : Nat → Nat) (σ : sS) (b : Nat) : Nat → List sF → List Value
  | _, [] => []
  | k, s :: r => fv ad σ b k s :: fvs ad σ b (k + 1) r
def ent (cA : ClassId) (ad : Nat → Nat) (σ : sS) (b : Nat) (k : kd) : va_E := match k with
  | .inl ci => .inr (ci, fvs ad σ b 0 (cfs.getD ci []))
  | .inr n => .inl (cA, n, .inl (σ b))
def wl (cA : ClassId) (ad : Nat → Nat) (σ : sS) (Y : List kd) : va_W := Y.mapIdx (fun b k => (ad b, ent cA ad σ b k))
theorem wl_get {cA : ClassId} {ad : Nat → Nat} {σ : sS} {Y : List kd} {b : Nat} {k : kd} (h : Y[b]? = some k) : (wl cA ad σ Y)[b]? = some (ad b, ent cA ad σ b k) := by
  unfold wl
  rw [List.getElem?_mapIdx, h]
  rfl
theorem fvs_get (ad : Nat → Nat) (σ : sS) (b : Nat) : ∀ (l : List sF) (k j : Nat) (s : sF), l[j]? = some s → (fvs ad σ b k l)[j]? = some (fv ad σ b (k + j) s)
  | [], k, j, s, h => by simp at h
  | x :: r, k, 0, s, h => by
    simp at h
    subst h
    rfl
  | x :: r, k, j + 1, s, h => by
    have h' : r[j]? = some s := by simpa using h
    have := fvs_get ad σ b r (k + 1) j s h'
    simp only [fvs, List.getElem?_cons_succ]
    rw [this]
    congr 2
    omega
theorem fvs_len (ad : Nat → Nat) (σ : sS) (b : Nat) : ∀ (l : List sF) (k : Nat), (fvs ad σ b k l).length = l.length
  | [], k => rfl
  | x :: r, k => by simp [fvs, fvs_len ad σ b r (k + 1)]
theorem up_same (σ : sS) (a k : Nat) (x : Int32) : up σ a k x a = upd (σ a) k x := by simp [up]
theorem up_ne (σ : sS) {a c : Nat} (k : Nat) (x : Int32) (h : c ≠ a) : up σ a k x c = σ c := by simp [up, h]
theorem ent_ne (cA : ClassId) (ad : Nat → Nat) (σ σ' : sS) {b : Nat} (k : kd) (h : σ' b = σ b) : ent cA ad σ' b k = ent cA ad σ b k := by
  cases k with
  | inl ci =>
    have e : ∀ (l : List sF) (j : Nat), fvs ad σ' b j l = fvs ad σ b j l := by
      intro l
      induction l with
      | nil => intro j; rfl
      | cons s r ih =>
        intro j
        simp only [fvs]
        rw [ih (j + 1)]
        congr 1
        unfold fv
        rw [h]
    show (Sum.inr (ci, fvs ad σ' b 0 (cfs.getD ci [])) : va_E) = Sum.inr (ci, fvs ad σ b 0 (cfs.getD ci []))
    rw [e]
  | inr n =>
    show (Sum.inl (cA, n, Sum.inl (σ' b)) : va_E) = Sum.inl (cA, n, Sum.inl (σ b))
    rw [h]
/-- a world in which one cell is another -/
theorem wl_set {cA : ClassId} {ad : Nat → Nat} {σ σ' : sS} {Y : List kd} {a : Nat} {k : kd} (h : Y[a]? = some k) (ho : ∀ c, c ≠ a → σ' c = σ c) {x : va_E} (hx : ent cA ad σ' a k = x) : (wl cA ad σ Y).set a (ad a, x) = wl cA ad σ' Y := by
  apply List.ext_getElem?
  intro i
  have hl := (List.getElem?_eq_some_iff.mp h).1
  by_cases hi : i = a
  · subst hi
    rw [List.getElem?_set_self (by unfold wl; simpa using hl), wl_get h, hx]
  · rw [List.getElem?_set_ne (Ne.symm hi)]
    unfold wl
    rw [List.getElem?_mapIdx, List.getElem?_mapIdx]
    cases hY : Y[i]? with
    | none => rfl
    | some q =>
      show some (ad i, ent cA ad σ i q) = some (ad i, ent cA ad σ' i q)
      rw [ent_ne cA ad σ σ' q (ho i hi)]
theorem fvs_set (ad : Nat → Nat) (σ : sS) (b j : Nat) (x : Int32) : ∀ (l : List sF) (k : Nat) (s : sF), k ≤ j → l[j - k]? = some s → (fvs ad σ b k l).set (j - k) (fv ad (up σ b j x) b j s) = fvs ad (up σ b j x) b k l
  | [], k, s, hk, h => by simp at h
  | q :: r, k, s, hk, h => by
    have tail : ∀ (l : List sF) (k : Nat), j < k → fvs ad σ b k l = fvs ad (up σ b j x) b k l := by
      intro l
      induction l with
      | nil => intro k _; rfl
      | cons s r ih =>
        intro k hk
        simp only [fvs]
        rw [ih (k + 1) (by omega)]
        congr 1
        unfold fv
        rw [up_same]
        have : upd (σ b) j x k = σ b k := by simp [upd]; omega
        rw [this]
    by_cases e : j = k
    · subst e
      have hq : q = s := by simpa using h
      subst hq
      simp only [Nat.sub_self, fvs, List.set_cons_zero]
      rw [tail r (j + 1) (by omega)]
    · have e2 : j - k = (j - (k + 1)) + 1 := by omega
      rw [e2] at h ⊢
      have h' : r[j - (k + 1)]? = some s := by simpa using h
      simp only [fvs, List.set_cons_succ]
      rw [fvs_set ad σ b j x r (k + 1) s (by omega) h']
      congr 1
      unfold fv
      rw [up_same]
      have : upd (σ b) j x k = σ b k := by simp [upd]; omega
      rw [this]
/-! values and locals that fit the layout -/
def wtv (Y : List kd) (v : sv) : Prop := match v with
  | .inr (.inr q) => Y[q.1]? = some q.2
  | _ => True
def wtL (Y : List kd) (ls : sL) : Prop := ∀ q ∈ ls, wtv Y q.2
def wtS (Y : List kd) (st : List sv) : Prop := ∀ v ∈ st, wtv Y v
/-- fixed references point at cells of the kind that the class says -/
def lok (Y : List kd) : Prop := Y.length < 2 ^ 31 ∧ ∀ (b ci : Nat), Y[b]? = some (.inl ci) → ∀ (k : Nat) (s : sF), (cfs.getD ci [])[k]? = some s → s.1 = 1 → Y[b + s.2.1]? = some s.2.2
theorem gl_mem : ∀ (ls : sL) (i : Nat) (v : sv), gl i ls = some v → (i, v) ∈ ls
  | [], i, v, h => by simp [gl] at h
  | q :: r, i, v, h => by
    obtain ⟨j, w⟩ := q
    simp only [gl] at h
    cases hb : Nat.beq j i with
    | true =>
      rw [hb] at h
      have e := Nat.eq_of_beq_eq_true hb
      subst e
      have hw : w = v := by simpa using h
      subst hw
      exact List.mem_cons_self
    | false =>
      rw [hb] at h
      exact List.mem_cons_of_mem _ (gl_mem r i v h)
theorem cvL_mem {ad : Nat → Nat} {ls : sL} {i : Nat} {v : sv} (h : (i, v) ∈ ls) : (i, cv ad v) ∈ cvL ad ls := List.mem_map.mpr ⟨(i, v), h, rfl⟩
theorem lv_gl {ad : Nat → Nat} {lsA : Array Slot} {nL : Nat} {ls : sL} (h : lv_has lsA nL (cvL ad ls)) {i : Nat} {v : sv} (hg : gl i ls = some v) : lsA[i]? = some (.val (cv ad v)) := h.2.2 (i, cv ad v) (cvL_mem (gl_mem ls i v hg))
theorem wt_gl {Y : List kd} {ls : sL} (h : wtL Y ls) {i : Nat} {v : sv} (hg : gl i ls = some v) : wtv Y v := h _ (gl_mem ls i v hg)
theorem il_mem : ∀ (ls : sL) (i : Nat) (v : sv) (q : Nat × sv), q ∈ il i v ls → q = (i, v) ∨ q ∈ ls
  | [], i, v, q, h => by
    simp only [il, List.mem_singleton] at h
    exact Or.inl h
  | p :: r, i, v, q, h => by
    simp only [il] at h
    cases hb : Nat.blt i p.1 with
    | true =>
      rw [hb] at h
      exact List.mem_cons.mp h
    | false =>
      rw [hb] at h
      rcases List.mem_cons.mp h with e | h
      · exact Or.inr (e ▸ List.mem_cons_self)
      · rcases il_mem r i v q h with e | h
        · exact Or.inl e
        · exact Or.inr (List.mem_cons_of_mem _ h)
theorem cv_cat (ad : Nat → Nat) (v : sv) : (cv ad v).category = if cat2 v then 2 else 1 := by
  rcases v with x | y | q <;> rfl
theorem lv_has_mono {lsA : Array Slot} {nL : Nat} {l l' : List (Nat × Value)} (h : lv_has lsA nL l) (hm : ∀ q ∈ l', q ∈ l) : lv_has lsA nL l' := ⟨h.1, h.2.1, fun q hq => h.2.2 q (hm q hq)⟩
theorem sl1_mem {ad : Nat → Nat} {ls : sL} {i : Nat} {v : sv} : ∀ q ∈ cvL ad (sl1 i v ls), q ∈ (i, cv ad v) :: (cvL ad ls).filter (fun q => !(q.1 == i) && !(q.1 + 1 == i && q.2.category == 2)) := by
  intro q hq
  obtain ⟨p, hp, rfl⟩ := List.mem_map.mp hq
  rcases il_mem _ i v p hp with rfl | h
  · exact List.mem_cons_self
  · obtain ⟨h1, h2⟩ := List.mem_filter.mp h
    refine List.mem_cons_of_mem _ (List.mem_filter.mpr ⟨cvL_mem h1, ?_⟩)
    rw [cv_cat]
    have e : ∀ a b : Nat, Nat.beq a b = (a == b) := fun a b => by rw [Bool.eq_iff_iff]; simp [Nat.beq_eq]
    simp only [e] at h2
    cases hc : cat2 p.2 <;> simp [hc] at h2 ⊢ <;> exact h2
theorem sl2_mem {ad : Nat → Nat} {ls : sL} {i : Nat} {v : sv} : ∀ q ∈ cvL ad (sl2 i v ls), q ∈ (i, cv ad v) :: (cvL ad ls).filter (fun q => !(q.1 == i) && (!(q.1 == i + 1) && !(q.1 + 1 == i && q.2.category == 2))) := by
  intro q hq
  obtain ⟨p, hp, rfl⟩ := List.mem_map.mp hq
  rcases il_mem _ i v p hp with rfl | h
  · exact List.mem_cons_self
  · obtain ⟨h1, h2⟩ := List.mem_filter.mp h
    refine List.mem_cons_of_mem _ (List.mem_filter.mpr ⟨cvL_mem h1, ?_⟩)
    rw [cv_cat]
    have e : ∀ a b : Nat, Nat.beq a b = (a == b) := fun a b => by rw [Bool.eq_iff_iff]; simp [Nat.beq_eq]
    simp only [e] at h2
    cases hc : cat2 p.2 <;> simp [hc] at h2 ⊢ <;> exact h2
theorem wt_sl1 {Y : List kd} {ls : sL} {i : Nat} {v : sv} (h : wtL Y ls) (hv : wtv Y v) : wtL Y (sl1 i v ls) := by
  intro q hq
  rcases il_mem _ i v q hq with rfl | h1
  · exact hv
  · exact h q (List.mem_filter.mp h1).1
theorem wt_sl2 {Y : List kd} {ls : sL} {i : Nat} {v : sv} (h : wtL Y ls) (hv : wtv Y v) : wtL Y (sl2 i v ls) := by
  intro q hq
  rcases il_mem _ i v q hq with rfl | h1
  · exact hv
  · exact h q (List.mem_filter.mp h1).1
theorem wtS_tail {Y : List kd} {v : sv} {st : List sv} (h : wtS Y (v :: st)) : wtS Y st := fun w hw => h w (List.mem_cons_of_mem _ hw)
theorem wtS_head {Y : List kd} {v : sv} {st : List sv} (h : wtS Y (v :: st)) : wtv Y v := h v List.mem_cons_self
theorem wtS_cons {Y : List kd} {v : sv} {st : List sv} (hv : wtv Y v) (h : wtS Y st) : wtS Y (v :: st) := fun w hw => by
  rcases List.mem_cons.mp hw with rfl | h1
  · exact hv
  · exact h w h1
