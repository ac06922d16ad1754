/-! the letters are told; what the class made of them -/
theorem c_TP_put (B : dB) (ax : Nat → Nat) {σ : sS} {μ : dW} {tp ca : Nat} {L : List Nat} (hT : TPE μ tp ca L) (hl : L.length ≤ 96) (hb : ∀ x ∈ L, x < 256) {v : VT} {c : CT} {im : Option (VT × CT)} (hX : XL σ v c im []) (D u : Nat) (hD : 300 ≤ D) (chk : Int32) (k : Int32 → sS → dW → Prop)
    (hk : ∀ σ', XL σ' v c im L → (chk = 0 → CJ LX D y_GF_value [sR 0 (.inl 5)] σ' (rI fun r σ'' => k r σ'' μ)) ∧ (¬ chk = 0 → CJ LX D y_GF_check [sR 0 (.inl 5)] σ' (rI fun r σ'' => k r σ'' μ))) : DCJ B ax (D + 1) u y_TP_put [.ref tp, .ref (ax 0), .int chk] σ μ (qI k) := by
  refine s_TP_put_0 B ax D u tp (ax 0) chk σ μ _ ?_
  obtain ⟨f, h1, h2, h3, h4⟩ := hT
  have loop : ∀ m j σ1, j + m = L.length → XL σ1 v c im (L.take j) → DJ B ax (D + 1) u y_TP_put 2 [(0, .ref tp), (1, .ref (ax 0)), (2, .int chk), (3, .int (nI j))] [] σ1 μ (qI k) := by
    intro m
    induction m with
    | zero =>
      intro j σ1 hj hx
      have ej : j = L.length := by omega
      subst ej
      rw [List.take_length] at hx
      obtain ⟨k1, k2⟩ := hk σ1 hx
      refine s_TP_put_2 B ax D u tp (ax 0) chk _ σ1 μ _ ⟨_, _, h1, rfl, fun _ => ⟨fun z => ⟨rfl, k1 z⟩, fun z => ⟨rfl, k2 z⟩⟩, fun z => absurd z (nI_nlt (Nat.le_refl _) (by omega))⟩
    | succ m ih =>
      intro j σ1 hj hx
      obtain ⟨q, hq⟩ := at_len hj
      have hlt := (List.getElem?_eq_some_iff.mp hq).1
      refine s_TP_put_2 B ax D u tp (ax 0) chk _ σ1 μ _ ⟨_, _, h1, rfl, fun z => absurd (nI_lt hlt (by omega)) z, fun _ => ⟨_, ca, h1, rfl, 400, f, h2, vp_in_nI (by omega) (by omega), rfl, ?_⟩⟩
      rw [nI_clamp (by omega), h4 j q hq]
      refine x_letter hD hx (hb q (List.mem_of_getElem? hq)) (by rw [List.length_take]; omega) _ (fun r σ2 hx2 => ?_)
      show DJ B ax (D + 1) u y_TP_put 2 [(0, .ref tp), (1, .ref (ax 0)), (2, .int chk), (3, .int (nI j + 1))] [] σ2 μ (qI k)
      rw [nI_s1]
      refine ih (j + 1) σ2 (by omega) ?_
      rw [List.take_succ, hq]
      exact hx2
  exact loop L.length 0 σ (by omega) (by rw [List.take_zero]; exact hX)
theorem kidL_all {α : Type} {P : Nat → Prop} (g : α → List Nat) (k : Nat) (h44 : P 44) : ∀ (r : List (Nat × α)) (j : Nat), (∀ q ∈ r, P (96 + q.1) ∧ ∀ x ∈ g q.2, P x) → ∀ x ∈ kidL k g j r, P x
  | [], j, _, x, h => by cases h
  | q :: r, j, hr, x, h => by
    obtain ⟨h1, h2⟩ := hr q List.mem_cons_self
    simp only [kidL, List.mem_append] at h
    rcases h with ((h | h) | h) | h
    · split at h
      · rw [List.mem_singleton] at h; subst h; exact h44
      · cases h
    · split at h
      · rw [List.mem_singleton] at h; subst h; exact h1
      · cases h
    · exact h2 x h
    · exact kidL_all g k h44 r (j + 1) (fun q hq => hr q (List.mem_cons_of_mem _ hq)) x h
theorem tlet_small : ∀ (d : Nat) (t : Tr d), twf d t → ∀ x ∈ tlet d t, x < 256
  | 0, t, hw, _, _ => hw.elim
  | d + 1, t, hw, x, hx => by
    obtain ⟨w1, w2, w2b, w3, w4, w5, w6, w7⟩ := hw
    have hN : trN t ≤ 99 := by
      by_cases z : trK t = 0
      · exact w2 z
      · rw [w2b z]; omega
    have hx : x ∈ hdL (trK t) (trN t) ++ kidL (trK t) (fun x => tlet d x) 0 (trC t) ++ tlL (trK t) := hx
    rw [List.mem_append, List.mem_append] at hx
    rcases hx with (hx | hx) | hx
    · simp only [hdL, List.mem_append] at hx
      rcases hx with ((hx | hx) | hx) | hx
      · split at hx
        · rw [List.mem_singleton] at hx; omega
        · cases hx
      · split at hx
        · rw [List.mem_singleton] at hx; omega
        · cases hx
      · split at hx
        · rw [List.mem_singleton] at hx; omega
        · cases hx
      · split at hx
        · rw [List.mem_singleton] at hx; subst hx; split <;> omega
        · cases hx
    · exact kidL_all (P := fun x => x < 256) _ _ (by omega) _ _ (fun q hq => ⟨by have := (w7 q hq).2.1; omega, tlet_small d q.2 (w7 q hq).2.2.2⟩) x hx
    · unfold tlL at hx
      split at hx
      · rw [List.mem_singleton] at hx; subst hx; split <;> omega
      · cases hx
/-- the value that the class holds, as the law's -/
def VF (d : Nat) (V : VT) (t : Tr (d + 1)) : Prop := V.1 = tsz (d + 1) t ∧ V.2 0 0 = trK t ∧ V.2 1 0 = trN t ∧ V.2 2 0 = (trC t).length ∧ ∀ (j : Nat) (q : Nat × Tr d), (trC t)[j]? = some q → kch V 0 j < V.1 ∧ V.2 0 (kch V 0 j) = trK0 d q.2 ∧ V.2 1 (kch V 0 j) = trN0 d q.2 ∧ (trK t = 2 → V.2 3 (kch V 0 j) = q.1 ∧ V.2 5 (kch V 0 j) = q.1)
theorem vtold_tr {d : Nat} {t : Tr (d + 1)} (hw : twf (d + 1) t) (h20 : tsz (d + 1) t ≤ 20) (h5 : d + 1 ≤ 5) : ∃ v, vtold (gdL (tlet (d + 1) t)) (tlet (d + 1) t).length = (nI (tsz (d + 1) t), some v) ∧ (WFV v → VF d v t) := by
  have hA := gdL_at (tlet (d + 1) t)
  have h1 := vst_val (gdL (tlet (d + 1) t)) (d + 1) t 0 0 0 [] hw hA (Or.inl rfl) (Or.inl rfl)
  have h1 : vst (gdL (tlet (d + 1) t)) (tlet (d + 1) t).length 0 (0, false, []) = none := h1.trans rfl
  obtain ⟨v', dg', g1, g2⟩ := bu_val (gdL (tlet (d + 1) t)) (tlet (d + 1) t).length (d + 1) t hw 0 (0, fun _ _ => 0) [] 0 hA (by omega) (Or.inl (by omega)) (by show 0 + _ ≤ 20; omega) (by simp; omega) (fun q hq => by cases hq) (fun q r e => by cases e)
  have g2 : vbu (gdL (tlet (d + 1) t)) (tlet (d + 1) t).length (tlet (d + 1) t).length 0 (0, fun _ _ => 0) [] 0 = .inr v' := by
    refine g2.trans ?_
    rw [Nat.zero_add]
    show vbu _ _ _ _ _ _ _ = _
    rw [vbu_any _ _ _ 0 _ _ _ _ (by omega) (by omega)]
    rfl
  have g1 : KI (trK0 d) (trN0 d) (tsz d) v' (0, fun _ _ => 0) [] 0 (trK t) (trN t) (trC t) := g1
  have e1 : v'.1 = tsz (d + 1) t := g1.1.1.trans (Nat.zero_add _)
  refine ⟨lnk v', ?_, fun w => ?_⟩
  · rw [vtold_ok h1 g2, e1]
  obtain ⟨⟨k1, k2, k3, k4, k5, k6, k7⟩, k8, k9⟩ := id g1
  have hK : ∀ j, j ≤ (trC t).length → kch (lnk v') 0 j = 0 + 1 + sumf (fun q => tsz d q.2) ((trC t).take j) := fun j hj => g1.kch j hj
  have hv : 0 < v'.1 := by have := w.1; exact this
  refine ⟨e1, k4, k5, k8, fun j q hj => ?_⟩
  obtain ⟨b1, b2, b3, b4, b5⟩ := k9 j q hj
  have hlt := (List.getElem?_eq_some_iff.mp hj).1
  rw [hK j (by omega)]
  refine ⟨b1, b2, b3, fun h2 => ?_⟩
  have hj2 : j < (lnk v').2 2 0 := by show j < v'.2 2 0; rw [show v'.2 2 0 = (trC t).length from k8]; exact hlt
  have e3 : (lnk v').2 3 (kch (lnk v') 0 j) = q.1 := by
    have hg := ch_gt (v'.2 4) 0 j
    have e := pa_eq w.2.2.1 hv hj2
    show (if ch (v'.2 4) 0 j = 0 then 0 else if v'.2 0 (pa (v'.2 4) (ch (v'.2 4) 0 j) (ch (v'.2 4) 0 j)) = 3 then _ else v'.2 3 (ch (v'.2 4) 0 j)) = q.1
    have e : pa (v'.2 4) (ch (v'.2 4) 0 j) (ch (v'.2 4) 0 j) = 0 := e
    rw [if_neg (by omega), e, show v'.2 0 0 = trK t from k4, if_neg (by omega), show ch (v'.2 4) 0 j = _ from hK j (by omega)]
    exact b4
  have e5 := ((w.2.2.2.2.2.2.2 0 hv).2.2.2.2.2.2 j hj2).2.2.1
  rw [w.2.2.2.2.1, e3] at e5
  rw [hK j (by omega)] at e3 e5
  exact ⟨e3, by rw [e5]; omega⟩
theorem c_TP_putv (B : dB) (ax : Nat → Nat) {σ : sS} {μ : dW} {tp ca d : Nat} {t : Tr (d + 1)} (hT : TPE μ tp ca (tlet (d + 1) t)) (hl : (tlet (d + 1) t).length ≤ 96) (hw : twf (d + 1) t) (h20 : tsz (d + 1) t ≤ 20) (h5 : d + 1 ≤ 5) {v : VT} {c : CT} {im : Option (VT × CT)} (hX : XL σ v c im []) (D u : Nat) (hD : 300 ≤ D) (k : Int32 → sS → dW → Prop)
    (hk : ∀ σ' v', VF d v' t → XL σ' v' c im [] → k (nI (tsz (d + 1) t)) σ' μ) : DCJ B ax (D + 1) u y_TP_put [.ref tp, .ref (ax 0), .int 0] σ μ (qI k) := by
  obtain ⟨v', e, hv⟩ := vtold_tr hw h20 h5
  refine c_TP_put B ax hT hl (tlet_small _ _ hw) hX D u hD 0 k (fun σ' hx => ⟨fun _ => ?_, fun z => absurd rfl z⟩)
  exact x_value hD hx e _ (fun σ'' w hx2 => hk σ'' v' (hv w) hx2)
theorem c_TP_putc (B : dB) (ax : Nat → Nat) {σ : sS} {μ : dW} {tp ca : Nat} {L : List Nat} (hT : TPE μ tp ca L) (hl : L.length ≤ 96) (hb : ∀ x ∈ L, x < 256) {r : Int32} {c2 : CT} (he : ctold (gdL L) L.length = (r, some c2)) {v : VT} {c : CT} {im : Option (VT × CT)} (hX : XL σ v c im []) (D u : Nat) (hD : 300 ≤ D) (k : Int32 → sS → dW → Prop)
    (hk : ∀ σ', XL σ' v c2 im [] → k r σ' μ) : DCJ B ax (D + 1) u y_TP_put [.ref tp, .ref (ax 0), .int 1] σ μ (qI k) := by
  refine c_TP_put B ax hT hl hb hX D u hD 1 k (fun σ' hx => ⟨fun z => absurd z (by decide), fun _ => ?_⟩)
  exact x_check hD hx he _ (fun σ'' w hx2 => hk σ'' hx2)
