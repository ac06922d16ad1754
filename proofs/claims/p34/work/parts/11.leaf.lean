/-! the leaves of the class: stretches -/
def pr0 : sP := fun _ _ => none
def ct_leaf : List sE := [(145, 5, 0, y_GF_at, 0, ⟨"", "", ""⟩, "", pr0), (220, 7, 0, y_GF_at, 0, ⟨"", "", ""⟩, "", pr0)]
theorem ct_leaf_ok (Y : List kd) : ∀ q ∈ ct_leaf, eOK Y "GathersAllFaults" q := (List.forall_mem_cons.mpr ⟨⟨ALL_in 427 (by decide +kernel) rfl, ALL_in 428 (by decide +kernel) rfl, ALL_in 10 (by decide +kernel) rfl, ALL_in 429 (by decide +kernel) rfl⟩, (List.forall_mem_cons.mpr ⟨⟨ALL_in 379 (by decide +kernel) rfl, ALL_in 381 (by decide +kernel) rfl, ALL_in 380 (by decide +kernel) rfl, ALL_in 11 (by decide +kernel) rfl⟩, (fun _ h => absurd h List.not_mem_nil)⟩)⟩)
set_option maxRecDepth 20000 in
theorem s_GF_at_0 (Y : List kd) (d : Nat) (a0 n0 : Nat) (v1 : Int32) (σ : sS) (Q : Option sv → sS → Prop)
    (h : ((v1 < 0 → Q (some (sI 0)) σ) ∧ (¬ v1 < 0 → ((¬ v1 < (nI n0) → Q (some (sI 0)) σ) ∧ (v1 < (nI n0) → (vp_in v1 n0 ∧ Q (some (sI (σ a0 (Int32.toNatClampNeg v1)))) σ)))))) :
    Jd Y d y_GF_at 0 [(0, sR a0 (.inr n0)), (1, sI v1)] [] σ Q :=
  blk_ok (d := d) (y := y_GF_at) (ft := ft_GF) (ct := ct_leaf) (tab := tab_GF_at) ⟨tk_GF_at, ft_GF_ok, ct_leaf_ok Y⟩ [] 16 0 _ _ σ h
set_option maxRecDepth 20000 in
theorem s_GF_set_0 (Y : List kd) (d : Nat) (a0 n0 : Nat) (v1 : Int32) (v2 : Int32) (σ : sS) (Q : Option sv → sS → Prop)
    (h : ((v1 < 0 → Q none σ) ∧ (¬ v1 < 0 → ((¬ v1 < (nI n0) → Q none σ) ∧ (v1 < (nI n0) → (vp_in v1 n0 ∧ Q none (up σ a0 (Int32.toNatClampNeg v1) v2))))))) :
    Jd Y d y_GF_set 0 [(0, sR a0 (.inr n0)), (1, sI v1), (2, sI v2)] [] σ Q :=
  blk_ok (d := d) (y := y_GF_set) (ft := ft_GF) (ct := ct_leaf) (tab := tab_GF_set) ⟨tk_GF_set, ft_GF_ok, ct_leaf_ok Y⟩ [] 15 0 _ _ σ h
set_option maxRecDepth 20000 in
theorem s_GF_isDigit_0 (Y : List kd) (d : Nat) (v0 : Int32) (σ : sS) (Q : Option sv → sS → Prop)
    (h : ((v0 < 48 → (((0 : Int32) = 0 ∨ (0 : Int32) = 1) ∧ Q (some (sI 0)) σ)) ∧ (¬ v0 < 48 → (((57 : Int32) < v0 → (((0 : Int32) = 0 ∨ (0 : Int32) = 1) ∧ Q (some (sI 0)) σ)) ∧ (¬ (57 : Int32) < v0 → (((1 : Int32) = 0 ∨ (1 : Int32) = 1) ∧ Q (some (sI 1)) σ)))))) :
    Jd Y d y_GF_isDigit 0 [(0, sI v0)] [] σ Q :=
  blk_ok (d := d) (y := y_GF_isDigit) (ft := ft_GF) (ct := ct_leaf) (tab := tab_GF_isDigit) ⟨tk_GF_isDigit, ft_GF_ok, ct_leaf_ok Y⟩ [] 12 0 _ _ σ h
set_option maxRecDepth 20000 in
theorem s_GF_isName_0 (Y : List kd) (d : Nat) (v0 : Int32) (σ : sS) (Q : Option sv → sS → Prop)
    (h : ((v0 < 97 → (((0 : Int32) = 0 ∨ (0 : Int32) = 1) ∧ Q (some (sI 0)) σ)) ∧ (¬ v0 < 97 → (((101 : Int32) < v0 → (((0 : Int32) = 0 ∨ (0 : Int32) = 1) ∧ Q (some (sI 0)) σ)) ∧ (¬ (101 : Int32) < v0 → (((1 : Int32) = 0 ∨ (1 : Int32) = 1) ∧ Q (some (sI 1)) σ)))))) :
    Jd Y d y_GF_isName 0 [(0, sI v0)] [] σ Q :=
  blk_ok (d := d) (y := y_GF_isName) (ft := ft_GF) (ct := ct_leaf) (tab := tab_GF_isName) ⟨tk_GF_isName, ft_GF_ok, ct_leaf_ok Y⟩ [] 12 0 _ _ σ h
set_option maxRecDepth 20000 in
theorem s_GF_digitOf_0 (Y : List kd) (d : Nat) (v0 : Int32) (σ : sS) (Q : Option sv → sS → Prop)
    (h : Q (some (sI ((v0 - 97) + 1))) σ) :
    Jd Y d y_GF_digitOf 0 [(0, sI v0)] [] σ Q :=
  blk_ok (d := d) (y := y_GF_digitOf) (ft := ft_GF) (ct := ct_leaf) (tab := tab_GF_digitOf) ⟨tk_GF_digitOf, ft_GF_ok, ct_leaf_ok Y⟩ [] 8 0 _ _ σ h
set_option maxRecDepth 20000 in
theorem s_GF_copy_0 (Y : List kd) (d : Nat) (a0 n0 : Nat) (a1 n1 : Nat) (σ : sS) (Q : Option sv → sS → Prop)
    (h : ((¬ (0 : Int32) < 0 ∧ ¬ (0 : Int32) < 0 ∧ ¬ (if (nI n1) < (nI n0) then (nI n1) else (nI n0)) < 0 ∧ Int32.toNatClampNeg 0 + Int32.toNatClampNeg (if (nI n1) < (nI n0) then (nI n1) else (nI n0)) ≤ n0 ∧ Int32.toNatClampNeg 0 + Int32.toNatClampNeg (if (nI n1) < (nI n0) then (nI n1) else (nI n0)) ≤ n1) ∧ Q none (upA σ a1 (va_cpy (σ a0) (σ a1) (Int32.toNatClampNeg 0) (Int32.toNatClampNeg 0) (Int32.toNatClampNeg (if (nI n1) < (nI n0) then (nI n1) else (nI n0))))))) :
    Jd Y (d + 1) y_GF_copy 0 [(0, sR a0 (.inr n0)), (1, sR a1 (.inr n1))] [] σ Q :=
  blk_ok (d := (d + 1)) (y := y_GF_copy) (ft := ft_GF) (ct := ct_leaf) (tab := tab_GF_copy) ⟨tk_GF_copy, ft_GF_ok, ct_leaf_ok Y⟩ [] 17 0 _ _ σ h
set_option maxRecDepth 20000 in
theorem s_GF_close_0 (Y : List kd) (d : Nat) (a0 n0 : Nat) (v1 : Int32) (v2 : Int32) (v3 : Int32) (σ : sS) (Q : Option sv → sS → Prop)
    (h : ((v3 < 0 → Q none σ) ∧ (¬ v3 < 0 → ((v1 < v3 → Q none σ) ∧ (¬ v1 < v3 → ((v2 < v1 → Q none σ) ∧ (¬ v2 < v1 → (((nI n0) < v2 → Q none σ) ∧ (¬ (nI n0) < v2 → ((¬ v1 < 0 ∧ ¬ (v1 - v3) < 0 ∧ ¬ (v2 - v1) < 0 ∧ Int32.toNatClampNeg v1 + Int32.toNatClampNeg (v2 - v1) ≤ n0 ∧ Int32.toNatClampNeg (v1 - v3) + Int32.toNatClampNeg (v2 - v1) ≤ n0) ∧ Q none (upA σ a0 (va_cpy (σ a0) (σ a0) (Int32.toNatClampNeg v1) (Int32.toNatClampNeg (v1 - v3)) (Int32.toNatClampNeg (v2 - v1)))))))))))))) :
    Jd Y (d + 1) y_GF_close 0 [(0, sR a0 (.inr n0)), (1, sI v1), (2, sI v2), (3, sI v3)] [] σ Q :=
  blk_ok (d := (d + 1)) (y := y_GF_close) (ft := ft_GF) (ct := ct_leaf) (tab := tab_GF_close) ⟨tk_GF_close, ft_GF_ok, ct_leaf_ok Y⟩ [] 27 0 _ _ σ h
