/-! calls that tell what is found -/
theorem X_gather (D : Nat) (hD : 141 ≤ D) {σ : sS} {v : VT} {c : CT} {n : Nat} {L : Nat → Nat} {m : Nat} {T : Nat → Nat} {rf : Nat → Int32} {im : Option (VT × CT)} (w : WFV v) (wc : WFC c) (hx : AX σ v c n L m T rf im) (k : Int32 → sS → Prop) (hk : ∀ σ', FX σ' (fl c v).1 (fl c v).2 → AX σ' v c n L m T rf im → xF σ σ' → k (nI (fl c v).1.length) σ') : CJ LX D y_GA_gather [sR (0 + 15) (.inl 1), sR (0 + 1) (.inl 3)] σ (rI k) := by
  refine CJ.mono (c_GA_gather LX 1 w wc (by omega) rfl hx.1 hx.2.1 k (fun σ' g1 g2 => ?_)) hD
  have f : xF σ σ' := ⟨fun x a b d => g2 x (by omega) (by omega), fun i _ => by rw [g2 0 (by omega) (by omega)]⟩
  exact hk σ' g1 (hx.kept f) f
theorem at_some {F : List Nat} {i : Nat} (h : i < F.length) : ∃ x, F[i]? = some x ∧ x ∈ F := ⟨F[i], List.getElem?_eq_getElem h, List.getElem_mem h⟩
theorem X_at {σ : sS} {F : List Nat} {w : Nat} (h : FX σ F w) (h6 : F.length ≤ 6144) {i x : Nat} (hi : F[i]? = some x) : rd σ (15 + 22) 6144 (nI i) = nI x := by
  have : i < F.length := (List.getElem?_eq_some_iff.mp hi).1
  rw [rd_nI (by omega) (by omega)]
  exact h.2.2 _ _ hi
theorem c_GA_codeAt (d : Nat) {σ : sS} {F : List Nat} {w : Nat} (h : FX σ F w) (h6 : F.length ≤ 6144) (hok : okF F) {i x : Nat} (hi : F[i]? = some x) (k : Int32 → sS → Prop) (hk : k (nI (x % 100)) σ) : CJ LX (d + 1) y_GA_codeAt [sR (0 + 15) (.inl 1), sI (nI i)] σ (rI k) := by
  have hx : x < 10000000 := hok x (List.mem_of_getElem? hi)
  refine s_GA_codeAt_0 LX d 15 _ σ (rI k) ⟨by decide, ?_⟩
  rw [X_at h h6 hi]
  have e : nI x - nI x / 100 * 100 = nI (x % 100) := by
    rw [lit 100, pk_div (by omega) (by omega) (by omega), pk_mul, nI_subm (by omega)]
    congr 1
    omega
  rw [e]
  exact hk
theorem c_GA_pathAt (d : Nat) {σ : sS} {F : List Nat} {w : Nat} (h : FX σ F w) (h6 : F.length ≤ 6144) (hok : okF F) {i x : Nat} (hi : F[i]? = some x) (k : Int32 → sS → Prop) (hk : k (nI (x / 100)) σ) : CJ LX (d + 1) y_GA_pathAt [sR (0 + 15) (.inl 1), sI (nI i)] σ (rI k) := by
  have hx : x < 10000000 := hok x (List.mem_of_getElem? hi)
  refine s_GA_pathAt_0 LX d 15 _ σ (rI k) ⟨by decide, ?_⟩
  rw [X_at h h6 hi, lit 100, pk_div (by omega) (by omega) (by omega)]
  exact hk
