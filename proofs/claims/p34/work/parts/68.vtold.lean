/-! values told in letters: both sides' answers -/
theorem vst_le (L : Nat → Nat) : ∀ m i a p, vst L m i a = some p → p ≤ i + m
  | 0, i, a, p, h => by
    unfold vst at h
    split at h
    · cases h
    · cases h; exact Nat.le_refl _
  | m + 1, i, a, p, h => by
    unfold vst at h
    split at h
    · cases h; omega
    · have := vst_le L m (i + 1) _ p h
      omega
noncomputable def vtold (L : Nat → Nat) (n : Nat) : Int32 × Option VT := match vst L n 0 (0, false, []) with
  | some p => (-1000 - nI p, none)
  | none => match vbu L n n 0 (0, fun _ _ => 0) [] 0 with
    | .inl p => (-2000 - nI p, none)
    | .inr v => (nI v.1, some (lnk v))
theorem vtold_st {L : Nat → Nat} {n p : Nat} (h : vst L n 0 (0, false, []) = some p) : vtold L n = (-1000 - nI p, none) := by
  unfold vtold; rw [h]
theorem vtold_bd {L : Nat → Nat} {n p : Nat} (h : vst L n 0 (0, false, []) = none) (g : vbu L n n 0 (0, fun _ _ => 0) [] 0 = .inl p) : vtold L n = (-2000 - nI p, none) := by
  unfold vtold; rw [h, g]
theorem vtold_ok {L : Nat → Nat} {n : Nat} {v : VT} (h : vst L n 0 (0, false, []) = none) (g : vbu L n n 0 (0, fun _ _ => 0) [] 0 = .inr v) : vtold L n = (nI v.1, some (lnk v)) := by
  unfold vtold; rw [h, g]
theorem neg1000 : ∀ p, p < 97 → ¬ (-1000 : Int32) - nI p = 0 := by decide +kernel
theorem neg2000 : ∀ p, p < 97 → ¬ (-2000 : Int32) - nI p = 0 := by decide +kernel
theorem c_RD_readV (Y : List kd) (d t a n : Nat) (L : Nat → Nat) (hn : n ≤ 96) (hta : a < t ∨ t + 9 ≤ a) {σ : sS} (hL : ∀ i, i < n → σ a i = nI (L i) ∧ L i < 256) (k : Int32 → sS → Prop)
    (h0 : ∀ σ', (vtold L n).2 = none → ¬ (vtold L n).1 = 0 → vK t σ σ' → k (vtold L n).1 σ')
    (h1 : ∀ v σ', vtold L n = (nI v.1, some (lnk v)) → WFP v → XV σ' (t + 2) (lnk v) → vK t σ σ' → k 0 σ') :
    CJ Y (d + 6) y_RD_read [sR t (.inl 4), sR a (.inr 96), sI (nI n)] σ (rI k) := by
  refine s_RD_readV_0 Y (d + 5) t a _ σ (rI k) ?_
  refine c_RD_stumbleV Y d t a n L hn (by omega) (by omega) hL _ (fun σ1 g1 g2 => ?_)
  have k1 : vK t σ σ1 := fun x hx => g1 x (by omega) (by omega)
  cases hs : vst L n 0 (0, false, []) with
  | some p =>
    have hp := vst_le L n 0 _ p hs
    have e := vtold_st hs
    refine ⟨fun z => absurd z (nI_pos (by omega)), fun _ => ?_⟩
    have := h0 σ1 (by rw [e]) (by rw [e]; exact neg1000 p (by omega)) k1
    rw [e] at this
    exact this
  | none =>
    refine ⟨fun _ => ?_, fun z => absurd (by decide) z⟩
    have k2 : vK t σ (up σ1 t 1 0) := fun x hx => by rw [up_cell _ _ (by omega)]; exact k1 x hx
    refine c_VR_build Y (d + 1) t a n L hn hta (fun i hi => ?_) (up_self _ _ _ _) hs _ (fun p σ' hp hb g => ⟨fun z => absurd z (nI_pos (by omega)), fun _ => ?_⟩) (fun v σ' hb hw hx g => ⟨fun _ => ?_, fun z => absurd (by decide) z⟩)
    · rw [k2 a (by omega)]; exact hL i hi
    · have e := vtold_bd hs hb
      have := h0 σ' (by rw [e]) (by rw [e]; exact neg2000 p (by omega)) (fun x hx => by rw [g x hx, k2 x hx])
      rw [e] at this
      exact this
    · exact h1 v σ' (vtold_ok hs hb) hw hx (fun x hx => by rw [g x hx, k2 x hx])
theorem c_GF_value (Y : List kd) (d n : Nat) (L : Nat → Nat) (hn : n ≤ 96) {σ : sS} (h6 : σ 0 6 = nI n) (hL : ∀ i, i < n → σ 64 i = nI (L i) ∧ L i < 256) (k : Int32 → sS → Prop)
    (h0 : ∀ σ', (vtold L n).2 = none → σ' 0 6 = 0 → (∀ i, i ≠ 6 → σ' 0 i = σ 0 i) → (∀ x, x ≠ 0 → (x < 38 ∨ 47 ≤ x) → σ' x = σ x) → k (vtold L n).1 σ')
    (h1 : ∀ v σ', (vtold L n).2 = some v → WFV v → XV σ' 1 v → σ' 0 6 = 0 → (∀ i, i ≠ 6 → σ' 0 i = σ 0 i) → (∀ x, 8 ≤ x → (x < 38 ∨ 47 ≤ x) → σ' x = σ x) → k (vtold L n).1 σ') :
    CJ Y (d + 7) y_GF_value [sR 0 (.inl 5)] σ (rI k) := by
  refine s_GF_value_0 Y (d + 6) 0 σ (rI k) ?_
  rw [h6]
  refine c_RD_readV Y d 38 64 n L hn (Or.inr (by omega)) (fun i hi => hL i hi) _ (fun σ1 e ne g => ?_) (fun v σ1 e w hx g => ?_)
  · refine ⟨fun z => absurd z ne, fun _ => ?_⟩
    exact h0 _ e (up_self _ _ _ _) (fun i hi => by rw [up_other _ _ (Or.inr hi), g 0 (by omega)]) (fun x x0 hx => by rw [up_cell _ _ x0, g x hx])
  · refine ⟨fun _ => ?_, fun z => absurd rfl z⟩
    have w2 := w.lnk
    have hx2 : XV (up σ1 0 6 0) 40 (lnk v) := hx.kept (fun x x1 x2 => up_cell _ _ (by omega))
    refine c_TR_take Y (d + 4) 1 40 (Or.inr (by omega)) w2.2.1 hx2 _ (fun σ2 g2 g3 => ?_)
    have e1 : (vtold L n).1 = nI v.1 := by rw [e]
    have es : σ2 (0 + 1) 6 = nI v.1 := g2.1
    rw [es, ← e1]
    refine h1 (lnk v) σ2 (by rw [e]) w2 g2 ?_ (fun i hi => ?_) (fun x x8 hx => ?_)
    · rw [g3 0 (by omega), up_self]
    · rw [g3 0 (by omega), up_other _ _ (Or.inr hi), g 0 (by omega)]
    · rw [g3 x (by omega), up_cell _ _ (by omega), g x hx]
