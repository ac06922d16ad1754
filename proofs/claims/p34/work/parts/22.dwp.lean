/-! dm: the weakest start of one instruction -/
def gv (i : Nat) : dL → Option Value
  | [] => none
  | q :: r => cond (Nat.beq q.1 i) (some q.2) (gv i r)
def iv (i : Nat) (v : Value) : dL → dL
  | [] => [(i, v)]
  | q :: r => cond (Nat.blt i q.1) ((i, v) :: q :: r) (q :: iv i v r)
def fv1 (i : Nat) : dL → dL
  | [] => []
  | q :: r => cond (Nat.beq q.1 i) (fv1 i r) (cond (Nat.beq (q.1 + 1) i) (cond (c1 q.2) (q :: fv1 i r) (fv1 i r)) (q :: fv1 i r))
def sv1 (i : Nat) (v : Value) (ls : dL) : dL := iv i v (fv1 i ls)
/-- index, class, place, sort (0 an int, 1 a reference), whether final -/
abbrev dF : Type := Nat × Nat × Nat × Nat × Nat
/-- index, kind, what is called, how many arguments, what kind of answer, class (or sort of array) -/
abbrev dCl : Type := Nat × Nat × sY × Nat × Nat × Nat
def dff (idx : Nat) : List dF → Option (Nat × Nat × Nat × Nat)
  | [] => none
  | e :: r => cond (Nat.beq e.1 idx) (some e.2) (dff idx r)
def dcf (idx : Nat) : List dCl → Option dCl
  | [] => none
  | e :: r => cond (Nat.beq e.1 idx) (some e) (dcf idx r)
def dfl (ci : Nat) : List Value := match ci with
  | 6 => [.null, .int 0]
  | 7 => [.int 0, .int 0, .null, .null]
  | 8 => [.int 0, .int 0, .int 0, .null, .null, .null]
  | _ => []
def dNf (ci : Nat) : Nat := match ci with
  | 6 => 2
  | 7 => 4
  | 8 => 6
  | _ => 0
def x1I (st : List Value) (f : Int32 → List Value → Prop) : Prop := match st with
  | .int x :: r => f x r
  | _ => False
def x2I (st : List Value) (f : Int32 → Int32 → List Value → Prop) : Prop := match st with
  | .int y :: .int x :: r => f x y r
  | _ => False
def x1R (st : List Value) (f : Nat → List Value → Prop) : Prop := match st with
  | .ref a :: r => f a r
  | _ => False
def xIR (st : List Value) (f : Int32 → Nat → List Value → Prop) : Prop := match st with
  | .int i :: .ref a :: r => f i a r
  | _ => False
def xIIR (st : List Value) (f : Int32 → Int32 → Nat → List Value → Prop) : Prop := match st with
  | .int x :: .int i :: .ref a :: r => f x i a r
  | _ => False
def xRIR (st : List Value) (f : Nat → Int32 → Nat → List Value → Prop) : Prop := match st with
  | .ref v :: .int i :: .ref a :: r => f v i a r
  | _ => False
def xRR (st : List Value) (f : Nat → Nat → List Value → Prop) : Prop := match st with
  | .ref v :: .ref a :: r => f v a r
  | _ => False
def x1V (st : List Value) (f : Value → List Value → Prop) : Prop := match st with
  | v :: r => f v r
  | _ => False
def vgI (i : Nat) (ls : dL) (f : Int32 → Prop) : Prop := match gv i ls with
  | some (.int x) => f x
  | _ => False
def vgR (i : Nat) (ls : dL) (f : Nat → Prop) : Prop := match gv i ls with
  | some (.ref a) => f a
  | _ => False
def qN (k : sS → dW → Prop) : dQ := fun r σ μ => match r with
  | none => k σ μ
  | _ => False
def qI (k : Int32 → sS → dW → Prop) : dQ := fun r σ μ => match r with
  | some (.int x) => k x σ μ
  | _ => False
def qR (k : Nat → sS → dW → Prop) : dQ := fun r σ μ => match r with
  | some (.ref a) => k a σ μ
  | _ => False
def qP (k : Value → sS → dW → Prop) : dQ := fun r σ μ => match r with
  | some v => k v σ μ
  | _ => False
def dret (rk : Nat) (rest : List Value) (K : List Value → sS → dW → Prop) : dQ := match rk with
  | 0 => qN (fun σ μ => K rest σ μ)
  | 1 => qI (fun x σ μ => K (.int x :: rest) σ μ)
  | 2 => qR (fun a σ μ => K (.ref a :: rest) σ μ)
  | _ => qP (fun v σ μ => K (v :: rest) σ μ)
theorem dret_out {rk : Nat} {rest : List Value} {K : List Value → sS → dW → Prop} {r : Option Value} {σ : sS} {μ : dW} (h : dret rk rest K r σ μ) : K (r.toList ++ rest) σ μ := by
  unfold dret at h
  split at h
  · unfold qN at h
    split at h
    · exact h
    · exact h.elim
  · unfold qI at h
    split at h
    · exact h
    · exact h.elim
  · unfold qR at h
    split at h
    · exact h
    · exact h.elim
  · unfold qP at h
    split at h
    · exact h
    · exact h.elim
/-- what is read of the worlds -/
def gI (μ : dW) (a ci k : Nat) (f : Int32 → Prop) : Prop := ∃ (fs : List Value) (x : Int32), μ a = some (eO ci fs) ∧ fs[k]? = some (.int x) ∧ f x
def gR (μ : dW) (a ci k : Nat) (f : Nat → Prop) : Prop := ∃ (fs : List Value) (b : Nat), μ a = some (eO ci fs) ∧ fs[k]? = some (.ref b) ∧ f b
def pF (μ : dW) (a ci k : Nat) (v : Value) (f : dW → Prop) : Prop := ∃ fs : List Value, μ a = some (eO ci fs) ∧ k < fs.length ∧ f (dset μ a (eO ci (fs.set k v)))
def lA (μ : dW) (a : Nat) (f : Int32 → Prop) : Prop := ∃ (k n : Nat) (g : Nat → Int32), μ a = some (eA k n g) ∧ k ≤ 1 ∧ f (nI n)
def lR (μ : dW) (a : Nat) (f : Int32 → Prop) : Prop := ∃ (k n : Nat) (g : Nat → Option Nat), μ a = some (eR k n g) ∧ k ≤ 1 ∧ f (nI n)
def rdA (μ : dW) (k a : Nat) (i : Int32) (f : Int32 → Prop) : Prop := ∃ (n : Nat) (g : Nat → Int32), μ a = some (eA k n g) ∧ vp_in i n ∧ f (g i.toNatClampNeg)
def wrA (μ : dW) (k a : Nat) (i x : Int32) (f : dW → Prop) : Prop := ∃ (n : Nat) (g : Nat → Int32), μ a = some (eA k n g) ∧ vp_in i n ∧ f (dset μ a (eA k n (upd g i.toNatClampNeg x)))
def rdR (μ : dW) (a : Nat) (i : Int32) (f : Nat → Prop) : Prop := ∃ (k n : Nat) (g : Nat → Option Nat) (b : Nat), μ a = some (eR k n g) ∧ k ≤ 1 ∧ vp_in i n ∧ g i.toNatClampNeg = some b ∧ f b
def wrR (μ : dW) (a : Nat) (i : Int32) (v : Nat) (f : dW → Prop) : Prop := ∃ (k n : Nat) (g : Nat → Option Nat) (fs : List Value), μ a = some (eR k n g) ∧ k ≤ 1 ∧ vp_in i n ∧ μ v = some (eO (7 + k) fs) ∧ f (dset μ a (eR k n (va_up g i.toNatClampNeg (some v))))
def nwO (μ : dW) (u ci : Nat) (f : Nat → dW → Prop) : Prop := dNf ci + 1 ≤ u ∧ ∀ q : Nat, μ q = none → f q (dset μ q (eO ci (dfl ci)))
def nwA (μ : dW) (u k : Nat) (n : Int32) (f : Nat → dW → Prop) : Prop := ¬ n < 0 ∧ n.toNatClampNeg + 1 ≤ u ∧ n.toNatClampNeg ≤ 100000 ∧ ∀ q : Nat, μ q = none → f q (dset μ q (eA k n.toNatClampNeg (fun _ => 0)))
def nwR (μ : dW) (u k : Nat) (n : Int32) (f : Nat → dW → Prop) : Prop := ¬ n < 0 ∧ n.toNatClampNeg + 1 ≤ u ∧ n.toNatClampNeg ≤ 100000 ∧ ∀ q : Nat, μ q = none → f q (dset μ q (eR k n.toNatClampNeg (fun _ => none)))
def clA (μ : dW) (u a : Nat) (f : Nat → dW → Nat → Prop) : Prop := ∃ (n : Nat) (g : Nat → Int32), μ a = some (eA 0 n g) ∧ n + 1 ≤ u ∧ ∀ q : Nat, μ q = none → f q (dset μ q (eA 0 n g)) n
/-- a call, t cells of the stack, with u1 of the room -/
def dgo (B : dB) (ax : Nat → Nat) (d u : Nat) (y : sY) (t rk : Nat) (st : List Value) (σ : sS) (μ : dW) (K : List Value → Nat → sS → dW → Prop) : Prop :=
  cond (Nat.ble t (lenV st) && (c1s st && (Nat.ble (lenV (st.drop t)) 8 && Nat.ble t y.2.2.1))) (∃ u1, u1 ≤ u ∧ DCJ B ax d u1 y (st.take t).reverse σ μ (dret rk (st.drop t) (fun st' σ' μ' => K st' (u - u1) σ' μ'))) False
def toI : List Value → List sv
  | [] => []
  | v :: r => (match v with
    | .int x => .inl x
    | _ => .inl 0) :: toI r
def allI : List Value → Bool
  | [] => true
  | v :: r => (match v with
    | .int _ => true
    | _ => false) && allI r
def dvirt (B : dB) (ax : Nat → Nat) (d u : Nat) (ce : dCl) (st : List Value) (σ : sS) (μ : dW) (K : List Value → Nat → sS → dW → Prop) : Prop := match ce.2.1 with
  | 0 => x1R (st.drop ce.2.2.2.1) (fun a _ => (∃ fs, μ a = some (eO ce.2.2.2.2.2 fs)) ∧ dgo B ax d u ce.2.2.1 (ce.2.2.2.1 + 1) ce.2.2.2.2.1 st σ μ K)
  | 10 => x1R (st.drop ce.2.2.2.1) (fun a r => cond (allI (st.take ce.2.2.2.1) && (Nat.ble (ce.2.2.2.1 + 1) ce.2.2.1.2.2.1 && (c1s r && Nat.ble (lenV r) 8))) (a = ax 0 ∧ CJ LX d ce.2.2.1 (sR 0 (.inl 5) :: toI (st.take ce.2.2.2.1).reverse) σ (rI (fun x σ' => K (.int x :: r) u σ' μ))) False)
  | 11 => x1R st (fun a r => cond (c1s r && Nat.ble (lenV r) 8) (clA μ u a (fun q μ' n => K (.ref q :: r) (u - (n + 1)) σ μ')) False)
  | _ => False
def dstat (B : dB) (ax : Nat → Nat) (d u : Nat) (ce : dCl) (st : List Value) (σ : sS) (μ : dW) (K : List Value → Nat → sS → dW → Prop) : Prop := match ce.2.1 with
  | 2 => dgo B ax d u ce.2.2.1 ce.2.2.2.1 ce.2.2.2.2.1 st σ μ K
  | 5 => x2I st (fun x y r => cond (c1s r && Nat.ble (lenV r) 8) (K (.int (if y < x then y else x) :: r) u σ μ) False)
  | _ => False
def dspec (B : dB) (ax : Nat → Nat) (d u : Nat) (ce : dCl) (st : List Value) (σ : sS) (μ : dW) (K : List Value → Nat → sS → dW → Prop) : Prop := match ce.2.1 with
  | 8 => x1R (st.drop ce.2.2.2.1) (fun _ _ => dgo B ax d u ce.2.2.1 (ce.2.2.2.1 + 1) 0 st σ μ K)
  | 9 => x1R (st.drop ce.2.2.2.1) (fun _ _ => dgo B ax d u ce.2.2.1 (ce.2.2.2.1 + 1) 0 st σ μ K)
  | 12 => x1R st (fun _ r => cond (c1s r && Nat.ble (lenV r) 8) (K r u σ μ) False)
  | _ => False
def isRef (ret : Option FieldType) : Bool := match ret with
  | some (.object _) => true
  | some (.array _) => true
  | _ => false
def dinv (d idx : Nat) (ct : List dCl) (f : Nat → dCl → Prop) : Prop := match d with
  | 0 => False
  | d + 1 => match dcf idx ct with
    | some ce => f d ce
    | none => False
def wp1D (B : dB) (ax : Nat → Nat) (d u : Nat) (ini : Bool) (mL : Nat) (ret : Option FieldType) (ft : List dF) (ct : List dCl) (e : sT) (ls : dL) (st : List Value) (σ : sS) (μ : dW) (K : Nat → dL → List Value → Nat → sS → dW → Prop) (Q : dQ) : Prop :=
  match e.2.2.1 with
  | .iconst _ | .bipush _ | .sipush _ | .ldc _ => K (e.1 + e.2.1) ls (.int e.2.2.2.2.2.1 :: st) u σ μ
  | .aconst_null => K (e.1 + e.2.1) ls (.null :: st) u σ μ
  | .iload_n k => vgI k.val ls (fun x => K (e.1 + e.2.1) ls (.int x :: st) u σ μ)
  | .iload i => vgI i ls (fun x => K (e.1 + e.2.1) ls (.int x :: st) u σ μ)
  | .aload_n k => vgR k.val ls (fun a => K (e.1 + e.2.1) ls (.ref a :: st) u σ μ)
  | .aload i => vgR i ls (fun a => K (e.1 + e.2.1) ls (.ref a :: st) u σ μ)
  | .istore_n k => x1I st (fun x r => cond (Nat.ble (k.val + 1) mL) (K (e.1 + e.2.1) (sv1 k.val (.int x) ls) r u σ μ) False)
  | .istore i => x1I st (fun x r => cond (Nat.ble (i + 1) mL) (K (e.1 + e.2.1) (sv1 i (.int x) ls) r u σ μ) False)
  | .astore_n k => x1R st (fun a r => cond (Nat.ble (k.val + 1) mL) (K (e.1 + e.2.1) (sv1 k.val (.ref a) ls) r u σ μ) False)
  | .astore i => x1R st (fun a r => cond (Nat.ble (i + 1) mL) (K (e.1 + e.2.1) (sv1 i (.ref a) ls) r u σ μ) False)
  | .iinc i _ => vgI i ls (fun x => cond (Nat.ble (i + 1) mL) (K (e.1 + e.2.1) (sv1 i (.int (x + e.2.2.2.2.2.1)) ls) st u σ μ) False)
  | .iadd => x2I st (fun x y r => K (e.1 + e.2.1) ls (.int (x + y) :: r) u σ μ)
  | .isub => x2I st (fun x y r => K (e.1 + e.2.1) ls (.int (x - y) :: r) u σ μ)
  | .imul => x2I st (fun x y r => K (e.1 + e.2.1) ls (.int (x * y) :: r) u σ μ)
  | .idiv => x2I st (fun x y r => ¬ y = 0 ∧ K (e.1 + e.2.1) ls (.int (x / y) :: r) u σ μ)
  | .irem => x2I st (fun x y r => ¬ y = 0 ∧ K (e.1 + e.2.1) ls (.int (x - x / y * y) :: r) u σ μ)
  | .iand => x2I st (fun x y r => K (e.1 + e.2.1) ls (.int (x &&& y) :: r) u σ μ)
  | .ishr => x2I st (fun x y r => K (e.1 + e.2.1) ls (.int (x >>> (y &&& 31)) :: r) u σ μ)
  | .dup => match st with
    | v :: r => cond (c1 v) (K (e.1 + e.2.1) ls (v :: v :: r) u σ μ) False
    | _ => False
  | .pop => match st with
    | v :: r => cond (c1 v) (K (e.1 + e.2.1) ls r u σ μ) False
    | _ => False
  | .goto _ => K e.2.2.2.1 ls st u σ μ
  | .ifnonnull _ => x1V st (fun v r => (v = .null → K (e.1 + e.2.1) ls r u σ μ) ∧ (∀ a, v = .ref a → K e.2.2.2.1 ls r u σ μ) ∧ (v = .null ∨ ∃ a, v = .ref a))
  | .if_icmp .eq _ => x2I st (fun x y r => (x = y → K e.2.2.2.1 ls r u σ μ) ∧ (¬ x = y → K (e.1 + e.2.1) ls r u σ μ))
  | .if_icmp .ne _ => x2I st (fun x y r => (¬ x = y → K e.2.2.2.1 ls r u σ μ) ∧ (x = y → K (e.1 + e.2.1) ls r u σ μ))
  | .if_icmp .lt _ => x2I st (fun x y r => (x < y → K e.2.2.2.1 ls r u σ μ) ∧ (¬ x < y → K (e.1 + e.2.1) ls r u σ μ))
  | .if_icmp .ge _ => x2I st (fun x y r => (¬ x < y → K e.2.2.2.1 ls r u σ μ) ∧ (x < y → K (e.1 + e.2.1) ls r u σ μ))
  | .if_icmp .gt _ => x2I st (fun x y r => (y < x → K e.2.2.2.1 ls r u σ μ) ∧ (¬ y < x → K (e.1 + e.2.1) ls r u σ μ))
  | .if_icmp .le _ => x2I st (fun x y r => (¬ y < x → K e.2.2.2.1 ls r u σ μ) ∧ (y < x → K (e.1 + e.2.1) ls r u σ μ))
  | .ifCond .eq _ => x1I st (fun x r => (x = 0 → K e.2.2.2.1 ls r u σ μ) ∧ (¬ x = 0 → K (e.1 + e.2.1) ls r u σ μ))
  | .ifCond .ne _ => x1I st (fun x r => (¬ x = 0 → K e.2.2.2.1 ls r u σ μ) ∧ (x = 0 → K (e.1 + e.2.1) ls r u σ μ))
  | .ifCond .lt _ => x1I st (fun x r => (x < 0 → K e.2.2.2.1 ls r u σ μ) ∧ (¬ x < 0 → K (e.1 + e.2.1) ls r u σ μ))
  | .ifCond .ge _ => x1I st (fun x r => (¬ x < 0 → K e.2.2.2.1 ls r u σ μ) ∧ (x < 0 → K (e.1 + e.2.1) ls r u σ μ))
  | .ifCond .gt _ => x1I st (fun x r => (0 < x → K e.2.2.2.1 ls r u σ μ) ∧ (¬ 0 < x → K (e.1 + e.2.1) ls r u σ μ))
  | .ifCond .le _ => x1I st (fun x r => (¬ 0 < x → K e.2.2.2.1 ls r u σ μ) ∧ (0 < x → K (e.1 + e.2.1) ls r u σ μ))
  | .arraylength => x1R st (fun a r => match e.2.2.2.1 with
    | 0 => lA μ a (fun x => K (e.1 + e.2.1) ls (.int x :: r) u σ μ)
    | 1 => a = B.1 ∧ K (e.1 + e.2.1) ls (.int (nI B.2.1) :: r) u σ μ
    | _ => lR μ a (fun x => K (e.1 + e.2.1) ls (.int x :: r) u σ μ))
  | .iaload => xIR st (fun i a r => match e.2.2.2.1 with
    | 0 => rdA μ 0 a i (fun x => K (e.1 + e.2.1) ls (.int x :: r) u σ μ)
    | _ => a = B.1 ∧ vp_in i B.2.1 ∧ K (e.1 + e.2.1) ls (.int (B.2.2 i.toNatClampNeg) :: r) u σ μ)
  | .iastore => xIIR st (fun x i a r => wrA μ 0 a i x (fun μ' => K (e.1 + e.2.1) ls r u σ μ'))
  | .baload => xIR st (fun i a r => rdA μ 1 a i (fun x => K (e.1 + e.2.1) ls (.int x :: r) u σ μ))
  | .bastore => xIIR st (fun x i a r => (x = 0 ∨ x = 1) ∧ wrA μ 1 a i x (fun μ' => K (e.1 + e.2.1) ls r u σ μ'))
  | .aaload => xIR st (fun i a r => rdR μ a i (fun b => K (e.1 + e.2.1) ls (.ref b :: r) u σ μ))
  | .aastore => xRIR st (fun v i a r => wrR μ a i v (fun μ' => K (e.1 + e.2.1) ls r u σ μ'))
  | .getfield idx => x1R st (fun a r => match dff idx ft with
    | some (ci, k, 0, _) => gI μ a ci k (fun x => K (e.1 + e.2.1) ls (.int x :: r) u σ μ)
    | some (ci, k, 1, _) => gR μ a ci k (fun b => K (e.1 + e.2.1) ls (.ref b :: r) u σ μ)
    | _ => False)
  | .putfield idx => match dff idx ft with
    | some (ci, k, 0, fin) => xIR st (fun x a r => cond (Nat.beq fin 0 || (ini && Nat.beq fin 1)) (pF μ a ci k (.int x) (fun μ' => K (e.1 + e.2.1) ls r u σ μ')) False)
    | some (ci, k, 1, fin) => xRR st (fun b a r => cond (Nat.beq fin 0 || (ini && Nat.beq fin 1)) (pF μ a ci k (.ref b) (fun μ' => K (e.1 + e.2.1) ls r u σ μ')) False)
    | _ => False
  | .new idx => match dcf idx ct with
    | some (_, 20, _, _, _, ci) => nwO μ u ci (fun q μ' => K (e.1 + e.2.1) ls (.ref q :: st) (u - (dNf ci + 1)) σ μ')
    | _ => False
  | .anewarray idx => match dcf (idx + 10000) ct with
    | some (_, 21, _, _, _, k) => x1I st (fun n r => nwR μ u k n (fun q μ' => K (e.1 + e.2.1) ls (.ref q :: r) (u - (n.toNatClampNeg + 1)) σ μ'))
    | _ => False
  | .newarray .int => x1I st (fun n r => nwA μ u 0 n (fun q μ' => K (e.1 + e.2.1) ls (.ref q :: r) (u - (n.toNatClampNeg + 1)) σ μ'))
  | .newarray .boolean => x1I st (fun n r => nwA μ u 1 n (fun q μ' => K (e.1 + e.2.1) ls (.ref q :: r) (u - (n.toNatClampNeg + 1)) σ μ'))
  | .checkcast idx => match dcf idx ct with
    | some (_, 22, _, _, _, _) => x1R st (fun a r => (∃ (n : Nat) (g : Nat → Int32), μ a = some (eA 0 n g)) ∧ K (e.1 + e.2.1) ls (.ref a :: r) u σ μ)
    | _ => False
  | .invokestatic idx => dinv d idx ct (fun d ce => dstat B ax d u ce st σ μ (K (e.1 + e.2.1) ls))
  | .invokevirtual idx => dinv d idx ct (fun d ce => dvirt B ax d u ce st σ μ (K (e.1 + e.2.1) ls))
  | .invokespecial idx => dinv d idx ct (fun d ce => dspec B ax d u ce st σ μ (K (e.1 + e.2.1) ls))
  | .ireturn => match st with
    | [.int x] => match ret with
      | some .int => Q (some (.int x)) σ μ
      | some .boolean => (x = 0 ∨ x = 1) ∧ Q (some (.int x)) σ μ
      | _ => False
    | _ => False
  | .areturn => match st with
    | [.ref a] => cond (isRef ret) (Q (some (.ref a)) σ μ) False
    | [.null] => cond (isRef ret) (Q (some .null) σ μ) False
    | _ => False
  | .return_ => match st, ret with
    | [], none => Q none σ μ
    | _, _ => False
  | _ => False
