/-! the weakest start of one instruction, and that it is one -/
def w1I (st : List sv) (f : Int32 → List sv → Prop) : Prop := match st with
  | .inl x :: r => f x r
  | _ => False
def w2I (st : List sv) (f : Int32 → Int32 → List sv → Prop) : Prop := match st with
  | .inl y :: .inl x :: r => f x y r
  | _ => False
def w1J (st : List sv) (f : Int64 → List sv → Prop) : Prop := match st with
  | .inr (.inl x) :: r => f x r
  | _ => False
def w2J (st : List sv) (f : Int64 → Int64 → List sv → Prop) : Prop := match st with
  | .inr (.inl y) :: .inr (.inl x) :: r => f x y r
  | _ => False
def w1R (st : List sv) (f : Nat → kd → List sv → Prop) : Prop := match st with
  | .inr (.inr q) :: r => f q.1 q.2 r
  | _ => False
def w1O (st : List sv) (f : Nat → Nat → List sv → Prop) : Prop := match st with
  | .inr (.inr (b, .inl ci)) :: r => f b ci r
  | _ => False
def wXO (st : List sv) (f : sv → Nat → Nat → List sv → Prop) : Prop := match st with
  | v :: .inr (.inr (b, .inl ci)) :: r => f v b ci r
  | _ => False
def wA (st : List sv) (f : Nat → Nat → List sv → Prop) : Prop := match st with
  | .inr (.inr (b, .inr n)) :: r => f b n r
  | _ => False
def wIA (st : List sv) (f : Int32 → Nat → Nat → List sv → Prop) : Prop := match st with
  | .inl i :: .inr (.inr (b, .inr n)) :: r => f i b n r
  | _ => False
def wIIA (st : List sv) (f : Int32 → Int32 → Nat → Nat → List sv → Prop) : Prop := match st with
  | .inl x :: .inl i :: .inr (.inr (b, .inr n)) :: r => f x i b n r
  | _ => False
def wCp (st : List sv) (f : Int32 → Int32 → Nat → Nat → Int32 → Nat → Nat → List sv → Prop) : Prop := match st with
  | .inl n :: .inl dp :: .inr (.inr (a, .inr n1)) :: .inl sp :: .inr (.inr (a0, .inr n0)) :: r => f n dp a n1 sp a0 n0 r
  | _ => False
def wgI (i : Nat) (ls : sL) (f : Int32 → Prop) : Prop := match gl i ls with
  | some (.inl x) => f x
  | _ => False
def wgJ (i : Nat) (ls : sL) (f : Int64 → Prop) : Prop := match gl i ls with
  | some (.inr (.inl x)) => f x
  | _ => False
def wgR (i : Nat) (ls : sL) (f : Nat → kd → Prop) : Prop := match gl i ls with
  | some (.inr (.inr q)) => f q.1 q.2
  | _ => False
def kbeq (a b : kd) : Bool := match a, b with
  | .inl x, .inl y => Nat.beq x y
  | .inr x, .inr y => Nat.beq x y
  | _, _ => false
def wsum : List sv → Nat
  | [] => 0
  | v :: r => cond (cat2 v) 2 1 + wsum r
def ffind (idx ci : Nat) : List (Nat × Nat × Nat × sF) → Option (Nat × sF)
  | [] => none
  | e :: r => cond (Nat.beq e.1 idx && Nat.beq e.2.1 ci) (some e.2.2) (ffind idx ci r)
def cfind (idx : Nat) : List sE → Option sE
  | [] => none
  | e :: r => cond (Nat.beq e.1 idx) (some e) (cfind idx r)
def cfindR (idx ci : Nat) : List sE → Option sE
  | [] => none
  | e :: r => cond (Nat.beq e.1 idx && Nat.beq e.2.2.1 ci) (some e) (cfindR idx ci r)
def rI (k : Int32 → sS → Prop) : Option sv → sS → Prop := fun r σ => match r with
  | some (.inl x) => k x σ
  | _ => False
def rJ (k : Int64 → sS → Prop) : Option sv → sS → Prop := fun r σ => match r with
  | some (.inr (.inl x)) => k x σ
  | _ => False
def rN (k : sS → Prop) : Option sv → sS → Prop := fun r σ => match r with
  | none => k σ
  | _ => False
def rV (ret : Option FieldType) (rest : List sv) (k : List sv → sS → Prop) : Option sv → sS → Prop := match ret with
  | none => rN (fun σ => k rest σ)
  | some .long => rJ (fun x σ => k (.inr (.inl x) :: rest) σ)
  | some _ => rI (fun x σ => k (.inl x :: rest) σ)
def upA (σ : sS) (a : Nat) (f : Nat → Int32) : sS := fun c => if c = a then f else σ c
/-- the call of entry e, t cells of the stack -/
def wcall (Y : List kd) (d : Nat) (e : sE) (t : Nat) (st : List sv) (σ : sS) (K : List sv → sS → Prop) : Prop :=
  cond (Nat.ble t st.length && (Nat.ble (wsum (st.drop t)) 8 && Nat.ble (wsum (st.take t).reverse) e.2.2.2.1.2.2.1)) (match e.2.2.2.2.2.2.2 (st.take t).reverse σ with
    | some (r, σ') => K (r.toList ++ st.drop t) σ'
    | none => CJ Y d e.2.2.2.1 (st.take t).reverse σ (rV e.2.2.2.1.2.2.2 (st.drop t) K)) False
def wbr (a b : Prop) (A B : Prop) : Prop := (a → A) ∧ (b → B)
def wsw (x : Int32) (d : Prop) (f : Nat → Prop) : List (Int32 × Nat) → Prop
  | [] => d
  | q :: r => (x = q.1 → f q.2) ∧ (¬ x = q.1 → wsw x d f r)
def wstatE (Y : List kd) (d : Nat) (ce : sE) (st : List sv) (σ : sS) (K : List sv → sS → Prop) : Prop := match ce.2.1 with
  | 5 => w2I st (fun x y r => cond (Nat.ble (wsum r) 8) (K (.inl (if y < x then y else x) :: r) σ) False)
  | 6 => w2I st (fun x y r => cond (Nat.ble (wsum r) 8) (K (.inl (if x < y then y else x) :: r) σ) False)
  | 7 => wCp st (fun n dp a n1 sp a0 n0 r => cond (Nat.ble (wsum r) 8) ((¬ sp < 0 ∧ ¬ dp < 0 ∧ ¬ n < 0 ∧ sp.toNatClampNeg + n.toNatClampNeg ≤ n0 ∧ dp.toNatClampNeg + n.toNatClampNeg ≤ n1) ∧ K r (upA σ a (va_cpy (σ a0) (σ a) sp.toNatClampNeg dp.toNatClampNeg n.toNatClampNeg))) False)
  | 1 => wcall Y d ce ce.2.2.2.2.1 st σ K
  | 2 => wcall Y d ce ce.2.2.2.2.1 st σ K
  | _ => False
def wstat (Y : List kd) (d : Nat) (ct : List sE) (idx : Nat) (st : List sv) (σ : sS) (K : List sv → sS → Prop) : Prop := match d with
  | 0 => False
  | d + 1 => match cfind idx ct with
    | some ce => wstatE Y d ce st σ K
    | none => False
def wvirtE (Y : List kd) (d : Nat) (ce : sE) (na : Nat) (st : List sv) (σ : sS) (K : List sv → sS → Prop) : Prop := match ce.2.1 with
  | 0 => cond (Nat.beq ce.2.2.2.2.1 na) (wcall Y d ce (ce.2.2.2.2.1 + 1) st σ K) False
  | 3 => cond (Nat.beq ce.2.2.2.2.1 na) (wcall Y d ce (ce.2.2.2.2.1 + 1) st σ K) False
  | 4 => cond (Nat.beq ce.2.2.2.2.1 na) (wcall Y d ce (ce.2.2.2.2.1 + 1) st σ K) False
  | _ => False
def wvirt (Y : List kd) (d : Nat) (ct : List sE) (idx : Nat) (st : List sv) (σ : sS) (K : List sv → sS → Prop) : Prop := match d with
  | 0 => False
  | d + 1 => match cfind idx ct with
    | some c0 => w1O (st.drop c0.2.2.2.2.1) (fun _ ci _ => match cfindR idx ci ct with
      | some ce => wvirtE Y d ce c0.2.2.2.2.1 st σ K
      | none => False)
    | none => False
def wp1 (Y : List kd) (d : Nat) (mL : Nat) (ret : Option FieldType) (ft : List (Nat × Nat × Nat × sF)) (ct : List sE) (e : sT) (ls : sL) (st : List sv) (σ : sS) (K : Nat → sL → List sv → sS → Prop) (Q : Option sv → sS → Prop) : Prop :=
  match e.2.2.1 with
  | .iconst _ | .bipush _ | .sipush _ | .ldc _ | .ldc_w _ => K (e.1 + e.2.1) ls (.inl e.2.2.2.2.2.1 :: st) σ
  | .lconst _ | .ldc2_w _ => K (e.1 + e.2.1) ls (.inr (.inl e.2.2.2.2.2.2) :: st) σ
  | .iload_n k => wgI k.val ls (fun x => K (e.1 + e.2.1) ls (.inl x :: st) σ)
  | .iload i => wgI i ls (fun x => K (e.1 + e.2.1) ls (.inl x :: st) σ)
  | .lload_n k => wgJ k.val ls (fun x => K (e.1 + e.2.1) ls (.inr (.inl x) :: st) σ)
  | .lload i => wgJ i ls (fun x => K (e.1 + e.2.1) ls (.inr (.inl x) :: st) σ)
  | .aload_n k => wgR k.val ls (fun b k => K (e.1 + e.2.1) ls (.inr (.inr (b, k)) :: st) σ)
  | .aload i => wgR i ls (fun b k => K (e.1 + e.2.1) ls (.inr (.inr (b, k)) :: st) σ)
  | .istore_n k => w1I st (fun x r => cond (Nat.ble (k.val + 1) mL) (K (e.1 + e.2.1) (sl1 k.val (.inl x) ls) r σ) False)
  | .istore i => w1I st (fun x r => cond (Nat.ble (i + 1) mL) (K (e.1 + e.2.1) (sl1 i (.inl x) ls) r σ) False)
  | .lstore_n k => w1J st (fun x r => cond (Nat.ble (k.val + 2) mL) (K (e.1 + e.2.1) (sl2 k.val (.inr (.inl x)) ls) r σ) False)
  | .lstore i => w1J st (fun x r => cond (Nat.ble (i + 2) mL) (K (e.1 + e.2.1) (sl2 i (.inr (.inl x)) ls) r σ) False)
  | .iinc i _ => wgI i ls (fun x => cond (Nat.ble (i + 1) mL) (K (e.1 + e.2.1) (sl1 i (.inl (x + e.2.2.2.2.2.1)) ls) st σ) False)
  | .iadd => w2I st (fun x y r => K (e.1 + e.2.1) ls (.inl (x + y) :: r) σ)
  | .isub => w2I st (fun x y r => K (e.1 + e.2.1) ls (.inl (x - y) :: r) σ)
  | .imul => w2I st (fun x y r => K (e.1 + e.2.1) ls (.inl (x * y) :: r) σ)
  | .idiv => w2I st (fun x y r => ¬ y = 0 ∧ K (e.1 + e.2.1) ls (.inl (x / y) :: r) σ)
  | .irem => w2I st (fun x y r => ¬ y = 0 ∧ K (e.1 + e.2.1) ls (.inl (x - x / y * y) :: r) σ)
  | .iand => w2I st (fun x y r => K (e.1 + e.2.1) ls (.inl (x &&& y) :: r) σ)
  | .ior => w2I st (fun x y r => K (e.1 + e.2.1) ls (.inl (x ||| y) :: r) σ)
  | .ishl => w2I st (fun x y r => K (e.1 + e.2.1) ls (.inl (x <<< (y &&& 31)) :: r) σ)
  | .ishr => w2I st (fun x y r => K (e.1 + e.2.1) ls (.inl (x >>> (y &&& 31)) :: r) σ)
  | .iushr => w2I st (fun x y r => K (e.1 + e.2.1) ls (.inl (x.toUInt32 >>> (y.toUInt32 &&& Int32.toUInt32 31)).toInt32 :: r) σ)
  | .ineg => w1I st (fun x r => K (e.1 + e.2.1) ls (.inl (-x) :: r) σ)
  | .i2l => w1I st (fun x r => K (e.1 + e.2.1) ls (.inr (.inl x.toInt64) :: r) σ)
  | .ladd => w2J st (fun x y r => K (e.1 + e.2.1) ls (.inr (.inl (x + y)) :: r) σ)
  | .lsub => w2J st (fun x y r => K (e.1 + e.2.1) ls (.inr (.inl (x - y)) :: r) σ)
  | .lmul => w2J st (fun x y r => K (e.1 + e.2.1) ls (.inr (.inl (x * y)) :: r) σ)
  | .ldiv => w2J st (fun x y r => ¬ y = 0 ∧ K (e.1 + e.2.1) ls (.inr (.inl (x / y)) :: r) σ)
  | .lrem => w2J st (fun x y r => ¬ y = 0 ∧ K (e.1 + e.2.1) ls (.inr (.inl (x - x / y * y)) :: r) σ)
  | .lcmp => w2J st (fun x y r => K (e.1 + e.2.1) ls (.inl (lg_cmp x y) :: r) σ)
  | .dup => match st with
    | v :: r => cond (cat2 v) False (K (e.1 + e.2.1) ls (v :: v :: r) σ)
    | _ => False
  | .dup2 => match st with
    | v :: w :: r => cond (cat2 v || cat2 w) False (K (e.1 + e.2.1) ls (v :: w :: v :: w :: r) σ)
    | _ => False
  | .pop => match st with
    | v :: r => cond (cat2 v) False (K (e.1 + e.2.1) ls r σ)
    | _ => False
  | .goto _ => K e.2.2.2.1 ls st σ
  | .ifnull _ => w1R st (fun _ _ r => K (e.1 + e.2.1) ls r σ)
  | .ifnonnull _ => w1R st (fun _ _ r => K e.2.2.2.1 ls r σ)
  | .if_icmp .eq _ => w2I st (fun x y r => (x = y → K e.2.2.2.1 ls r σ) ∧ (¬ x = y → K (e.1 + e.2.1) ls r σ))
  | .if_icmp .ne _ => w2I st (fun x y r => (¬ x = y → K e.2.2.2.1 ls r σ) ∧ (x = y → K (e.1 + e.2.1) ls r σ))
  | .if_icmp .lt _ => w2I st (fun x y r => (x < y → K e.2.2.2.1 ls r σ) ∧ (¬ x < y → K (e.1 + e.2.1) ls r σ))
  | .if_icmp .ge _ => w2I st (fun x y r => (¬ x < y → K e.2.2.2.1 ls r σ) ∧ (x < y → K (e.1 + e.2.1) ls r σ))
  | .if_icmp .gt _ => w2I st (fun x y r => (y < x → K e.2.2.2.1 ls r σ) ∧ (¬ y < x → K (e.1 + e.2.1) ls r σ))
  | .if_icmp .le _ => w2I st (fun x y r => (¬ y < x → K e.2.2.2.1 ls r σ) ∧ (y < x → K (e.1 + e.2.1) ls r σ))
  | .ifCond .eq _ => w1I st (fun x r => (x = 0 → K e.2.2.2.1 ls r σ) ∧ (¬ x = 0 → K (e.1 + e.2.1) ls r σ))
  | .ifCond .ne _ => w1I st (fun x r => (¬ x = 0 → K e.2.2.2.1 ls r σ) ∧ (x = 0 → K (e.1 + e.2.1) ls r σ))
  | .ifCond .lt _ => w1I st (fun x r => (x < 0 → K e.2.2.2.1 ls r σ) ∧ (¬ x < 0 → K (e.1 + e.2.1) ls r σ))
  | .ifCond .ge _ => w1I st (fun x r => (¬ x < 0 → K e.2.2.2.1 ls r σ) ∧ (x < 0 → K (e.1 + e.2.1) ls r σ))
  | .ifCond .gt _ => w1I st (fun x r => (0 < x → K e.2.2.2.1 ls r σ) ∧ (¬ 0 < x → K (e.1 + e.2.1) ls r σ))
  | .ifCond .le _ => w1I st (fun x r => (¬ 0 < x → K e.2.2.2.1 ls r σ) ∧ (0 < x → K (e.1 + e.2.1) ls r σ))
  | .tableswitch _ _ _ _ => w1I st (fun x r => wsw x (K e.2.2.2.1 ls r σ) (fun t => K t ls r σ) e.2.2.2.2.1)
  | .lookupswitch _ _ => w1I st (fun x r => wsw x (K e.2.2.2.1 ls r σ) (fun t => K t ls r σ) e.2.2.2.2.1)
  | .arraylength => wA st (fun _ n r => K (e.1 + e.2.1) ls (.inl (nI n) :: r) σ)
  | .iaload => wIA st (fun i b n r => vp_in i n ∧ K (e.1 + e.2.1) ls (.inl (σ b i.toNatClampNeg) :: r) σ)
  | .iastore => wIIA st (fun x i b n r => vp_in i n ∧ K (e.1 + e.2.1) ls r (up σ b i.toNatClampNeg x))
  | .getfield idx => w1O st (fun b ci r => match ffind idx ci ft with
    | some (k, 0, _, _) => K (e.1 + e.2.1) ls (.inl (σ b k) :: r) σ
    | some (k, 3, _, _) => K (e.1 + e.2.1) ls (.inl (σ b k) :: r) σ
    | some (_, 1, off, kk) => K (e.1 + e.2.1) ls (.inr (.inr (b + off, kk)) :: r) σ
    | some (k, 2, _, kk) => Y[(σ b k).toNatClampNeg]? = some kk ∧ K (e.1 + e.2.1) ls (.inr (.inr ((σ b k).toNatClampNeg, kk)) :: r) σ
    | _ => False)
  | .putfield idx => wXO st (fun v b ci r => match ffind idx ci ft, v with
    | some (k, 0, _, _), .inl x => K (e.1 + e.2.1) ls r (up σ b k x)
    | some (k, 3, _, _), .inl x => (x = 0 ∨ x = 1) ∧ K (e.1 + e.2.1) ls r (up σ b k x)
    | some (k, 2, _, kk), .inr (.inr (b', kk')) => cond (kbeq kk' kk) (K (e.1 + e.2.1) ls r (up σ b k (nI b'))) False
    | _, _ => False)
  | .invokestatic idx => wstat Y d ct idx st σ (K (e.1 + e.2.1) ls)
  | .invokevirtual idx => wvirt Y d ct idx st σ (K (e.1 + e.2.1) ls)
  | .ireturn => match st with
    | [.inl x] => match ret with
      | some .int => Q (some (.inl x)) σ
      | some .boolean => (x = 0 ∨ x = 1) ∧ Q (some (.inl x)) σ
      | _ => False
    | _ => False
  | .lreturn => match st, ret with
    | [.inr (.inl x)], some .long => Q (some (.inr (.inl x))) σ
    | _, _ => False
  | .return_ => match st, ret with
    | [], none => Q none σ
    | _, _ => False
  | _ => False
