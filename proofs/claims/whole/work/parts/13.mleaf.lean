/-! the leaves of the reference -/
set_option maxRecDepth 20000 in
theorem s_MO_isIn_0 (Y : List kd) (d : Nat) (v0 : Int32) (v1 : Int32) (v2 : Int32) (σ : sS) (Q : Option sv → sS → Prop)
    (h : ((v0 < v1 → (((0 : Int32) = 0 ∨ (0 : Int32) = 1) ∧ Q (some (sI 0)) σ)) ∧ (¬ v0 < v1 → ((v2 < v0 → (((0 : Int32) = 0 ∨ (0 : Int32) = 1) ∧ Q (some (sI 0)) σ)) ∧ (¬ v2 < v0 → (((1 : Int32) = 0 ∨ (1 : Int32) = 1) ∧ Q (some (sI 1)) σ)))))) :
    Jd Y d y_MO_isIn 0 [(0, sI v0), (1, sI v1), (2, sI v2)] [] σ Q :=
  blk_ok (d := d) (y := y_MO_isIn) (ft := ft_MO) (ct := []) (tab := tab_MO_isIn) ⟨tk_MO_isIn, ft_MO_ok, (fun _ h => absurd h List.not_mem_nil)⟩ [] 12 0 _ _ σ h
set_option maxRecDepth 20000 in
theorem s_MO_bound_0 (Y : List kd) (d : Nat) (v0 : Int32) (v1 : Int32) (v2 : Int32) (σ : sS) (Q : Option sv → sS → Prop)
    (h : ((¬ v0 < v1 → ((¬ v2 < v0 → Q (some (sI 0)) σ) ∧ (v2 < v0 → Q (some (sI (-6))) σ))) ∧ (v0 < v1 → Q (some (sI (-4))) σ))) :
    Jd Y d y_MO_bound 0 [(0, sI v0), (1, sI v1), (2, sI v2)] [] σ Q :=
  blk_ok (d := d) (y := y_MO_bound) (ft := ft_MO) (ct := []) (tab := tab_MO_bound) ⟨tk_MO_bound, ft_MO_ok, (fun _ h => absurd h List.not_mem_nil)⟩ [] 14 0 _ _ σ h
set_option maxRecDepth 20000 in
theorem s_MO_has_0 (Y : List kd) (d : Nat) (v0 : Int32) (v1 : Int32) (σ : sS) (Q : Option sv → sS → Prop)
    (h : ((¬ ((v0 >>> (v1 &&& 31)) &&& 1) = 1 → (((0 : Int32) = 0 ∨ (0 : Int32) = 1) ∧ Q (some (sI 0)) σ)) ∧ (((v0 >>> (v1 &&& 31)) &&& 1) = 1 → (((1 : Int32) = 0 ∨ (1 : Int32) = 1) ∧ Q (some (sI 1)) σ)))) :
    Jd Y d y_MO_has 0 [(0, sI v0), (1, sI v1)] [] σ Q :=
  blk_ok (d := d) (y := y_MO_has) (ft := ft_MO) (ct := []) (tab := tab_MO_has) ⟨tk_MO_has, ft_MO_ok, (fun _ h => absurd h List.not_mem_nil)⟩ [] 13 0 _ _ σ h
def pr_isIn : sP := fun as σ => match as with
  | [.inl v, .inl a, .inl b] => some (some (.inl (iIn v a b)), σ)
  | _ => none
def pr_bound : sP := fun as σ => match as with
  | [.inl v, .inl a, .inl b] => some (some (.inl (iBd v a b)), σ)
  | _ => none
def pr_has : sP := fun as σ => match as with
  | [.inl s, .inl k] => some (some (.inl (iHas s k)), σ)
  | _ => none
theorem prk_isIn (Y : List kd) (as : List sv) (σ : sS) (r : Option sv) (σ' : sS) (h : pr_isIn as σ = some (r, σ')) (hw0 : wtS Y as) (d : Nat) (Q : Option sv → sS → Prop) (hq : Q r σ') : CJ Y d y_MO_isIn as σ Q := by
  unfold pr_isIn at h
  split at h
  · rename_i v a b
    have e : some (Sum.inl (iIn v a b)) = r ∧ σ = σ' := by simpa using h
    obtain ⟨rfl, rfl⟩ := e
    refine s_MO_isIn_0 Y d v a b σ Q ⟨fun h0 => ⟨Or.inl rfl, ?_⟩, fun h0 => ⟨fun h1 => ⟨Or.inl rfl, ?_⟩, fun h1 => ⟨Or.inr rfl, ?_⟩⟩⟩
    · simpa [iIn, h0] using hq
    · simpa [iIn, h0, h1] using hq
    · simpa [iIn, h0, h1] using hq
  · cases h
theorem prk_bound (Y : List kd) (as : List sv) (σ : sS) (r : Option sv) (σ' : sS) (h : pr_bound as σ = some (r, σ')) (hw0 : wtS Y as) (d : Nat) (Q : Option sv → sS → Prop) (hq : Q r σ') : CJ Y d y_MO_bound as σ Q := by
  unfold pr_bound at h
  split at h
  · rename_i v a b
    have e : some (Sum.inl (iBd v a b)) = r ∧ σ = σ' := by simpa using h
    obtain ⟨rfl, rfl⟩ := e
    refine s_MO_bound_0 Y d v a b σ Q ⟨fun h0 => ⟨fun h1 => ?_, fun h1 => ?_⟩, fun h0 => ?_⟩
    · simpa [iBd, h0, h1] using hq
    · simpa [iBd, h0, h1] using hq
    · simpa [iBd, h0] using hq
  · cases h
theorem prk_has (Y : List kd) (as : List sv) (σ : sS) (r : Option sv) (σ' : sS) (h : pr_has as σ = some (r, σ')) (hw0 : wtS Y as) (d : Nat) (Q : Option sv → sS → Prop) (hq : Q r σ') : CJ Y d y_MO_has as σ Q := by
  unfold pr_has at h
  split at h
  · rename_i s k
    have e : some (Sum.inl (iHas s k)) = r ∧ σ = σ' := by simpa using h
    obtain ⟨rfl, rfl⟩ := e
    refine s_MO_has_0 Y d s k σ Q ⟨fun h0 => ⟨Or.inl rfl, ?_⟩, fun h0 => ⟨Or.inr rfl, ?_⟩⟩
    · simpa [iHas, h0] using hq
    · simpa [iHas, h0] using hq
  · cases h
