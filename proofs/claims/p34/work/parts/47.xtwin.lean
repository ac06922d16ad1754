/-! the class's Gatherer: twins, the fewer, who decides -/
theorem cl_natN {σ : sS} {a n f e g : Nat} (h1 : g ≤ f) (h2 : f ≤ e) (h3 : e ≤ n) (hn : n < 2 ^ 31) : cl σ a n (nI f) (nI e) (nI g) = upA σ a (va_cpy (σ a) (σ a) f (f - g) (e - f)) := by
  unfold cl
  rw [if_neg (nI_pos (by omega)), if_neg (by rw [i32_lt (by omega) (by omega)]; omega), if_neg (by rw [i32_lt (by omega) (by omega)]; omega), if_neg (by rw [i32_lt (by omega) (by omega)]; omega), nI_subm h1, nI_subm h2, nI_clamp (by omega), nI_clamp (by omega), nI_clamp (by omega)]
theorem c_GA_keepFewer (Y : List kd) (d : Nat) {σ : sS} {L A B : List Nat} {w a b : Nat} (hf : FX σ (L ++ A ++ B) (w + a + b)) (hl : (L ++ A ++ B).length ≤ 6144) (k : sS → Prop) (hk : ∀ σ', FX σ' (L ++ if B.length < A.length then B else A) (w + if B.length < A.length then b else a) → xK σ σ' → k σ') : CJ Y (d + 2) y_GA_keepFewer [sR 15 (.inl 1), sI (nI L.length), sI (nI (L ++ A).length), sI (nI w), sI (nI (w + a))] σ (rN k) := by
  have l1 : (L ++ A).length = L.length + A.length := List.length_append
  have l2 : (L ++ A ++ B).length = L.length + A.length + B.length := by rw [List.length_append, l1]
  have e1 : nI (L ++ A ++ B).length - nI (L ++ A).length = nI B.length := by rw [nI_subm (by omega)]; congr 1; omega
  have e2 : nI (L ++ A).length - nI L.length = nI A.length := by rw [nI_subm (by omega)]; congr 1; omega
  refine s_GA_keepFewer_0 Y (d + 1) 15 _ _ _ _ σ (rN k) ⟨fun h => ?_, fun h => ?_⟩
  · rw [hf.1, e1, e2, i32_lt (by omega) (by omega)] at h
    rw [if_neg h, if_neg h] at hk
    refine hk _ ⟨?_, ?_, fun i x hx => ?_⟩ ⟨fun c q1 q2 => ?_, fun i q1 q2 => ?_⟩
    · rw [up_other _ _ (Or.inr (by omega)), up_self]
    · rw [up_self]
    · rw [up_cell _ _ (by omega), up_cell _ _ (by omega)]
      refine hf.2.2 i x ?_
      rw [List.getElem?_append_left (List.getElem?_eq_some_iff.mp hx).1]
      exact hx
    · rw [up_cell _ _ q1, up_cell _ _ q1]
    · rw [up_other _ _ (Or.inr q2), up_other _ _ (Or.inr q1)]
  · rw [hf.1, e1, e2, i32_lt (by omega) (by omega)] at h
    rw [if_pos h, if_pos h] at hk
    rw [hf.1, e1, e2]
    refine c_GF_close Y d _ 6144 (by decide) _ _ _ _ _ ?_
    rw [cl_natN (by omega) (by omega) hl (by omega)]
    have e4 : nI w + (up (upA σ (15 + 22) (va_cpy (σ (15 + 22)) (σ (15 + 22)) (L ++ A).length ((L ++ A).length - A.length) ((L ++ A ++ B).length - (L ++ A).length))) 15 3 (nI L.length + nI B.length)) 15 4 - nI (w + a) = nI (w + b) := by
      rw [up_other _ _ (Or.inr (by omega)), upA_cell _ _ (by omega), hf.2.1, nI_add, nI_subm (by omega)]
      congr 1
      omega
    rw [e4, nI_add]
    refine hk _ ⟨?_, ?_, fun i x hx => ?_⟩ ⟨fun c q1 q2 => ?_, fun i q1 q2 => ?_⟩
    · rw [up_other _ _ (Or.inr (by omega)), up_self, List.length_append]
    · rw [up_self]
    · rw [up_cell _ _ (by omega), up_cell _ _ (by omega)]
      show upA σ 37 _ 37 i = nI x
      rw [upA_self]
      have hi := (List.getElem?_eq_some_iff.mp hx).1
      rw [List.length_append] at hi
      unfold va_cpy
      rcases Nat.lt_or_ge i L.length with z | z
      · rw [if_neg (by omega)]
        refine hf.2.2 i x ?_
        rw [List.getElem?_append_left z] at hx
        rw [List.getElem?_append_left (by omega), List.getElem?_append_left z]
        exact hx
      · rw [if_pos (by omega)]
        refine hf.2.2 _ x ?_
        rw [List.getElem?_append_right z] at hx
        rw [List.getElem?_append_right (by omega)]
        have : (L ++ A).length + (i - ((L ++ A).length - A.length)) - (L ++ A).length = i - L.length := by omega
        rw [this]
        exact hx
    · rw [up_cell _ _ q1, up_cell _ _ q1, upA_cell _ _ (by omega)]
    · rw [up_other _ _ (Or.inr q2), up_other _ _ (Or.inr q1), upA_cell _ _ (by omega)]
theorem kid_list {v : VT} (w : WFV v) {p k : Nat} (hp : p < v.1) (h3 : v.2 0 p = 3) (hk : k < v.2 2 p) : childV v p (nI (6 + k)) = nI (kch v p k) := by
  have := ((w.2.2.2.2.2.2.2 p hp).2.2.2.2.2.2 k hk).1 h3
  rw [← this]
  exact childV_some (kidO_eq w hp hk)
theorem c_GA_twins (Y : List kd) (d : Nat) {v : VT} (w : WFV v) {c : CT} {σ : sS} {tr : Nat} (hx : GX Y σ tr v c) {L A : List Nat} {wt a : Nat} (hf : FX σ (L ++ A) (wt + a)) {p : Nat} (hp : p < v.1) (hl : (L ++ A).length + v.2 2 p < 6144) (k : sS → Prop) (hk : ∀ σ', FX σ' (L ++ if A = [] then (if v.2 0 p = 3 then (twL v p (v.2 2 p)).1 else []) else A) (wt + if A = [] then a else a + 1) → xK σ σ' → k σ') : CJ Y (d + 7) y_GA_lookForTwins [sR 15 (.inl 1), sI (nI p), sI (nI L.length)] σ (rN k) := by
  have h20 := w.2.1
  have hk5 := w.kids5 hp
  have kd := w.2.2.2.2.2.2.2 p hp
  have l1 : (L ++ A).length = L.length + A.length := List.length_append
  have r0 : rd σ (tr + 1) 20 (nI p) = nI (v.2 0 p) := hx.rdv w (f := 0) (by omega) hp rfl
  have r2 : rd σ (tr + 3) 20 (nI p) = nI (v.2 2 p) := hx.rdv w (f := 2) (by omega) hp rfl
  refine s_GA_lookForTwins_0 Y (d + 6) 15 _ _ σ (rN k) ⟨fun h => ⟨hx.ref, ?_⟩, fun h => ?_⟩
  · rw [hf.1, i32_lt (by omega) (by omega)] at h
    have hA : A = [] := List.eq_nil_of_length_eq_zero (by omega)
    subst hA
    rw [if_pos rfl, if_pos rfl] at hk
    rw [List.append_nil] at hf hl
    rw [hx.tr, r0, r2]
    refine ⟨fun h3 => ⟨hx.2.2.1, ?_⟩, fun h3 => ?_⟩
    · rw [z_eq (by omega) 3 (by omega)] at h3
      rw [if_pos h3] at hk
      have lt1 : ∀ i, (twL v p i).1.length ≤ i := by
        intro i
        induction i with
        | zero => exact Nat.le_refl _
        | succ i ih =>
          show ((twL v p i).1 ++ (if _ then _ else _ : List Nat × Nat).1).length ≤ i + 1
          rw [List.length_append]
          split
          · show _ + 1 ≤ _; omega
          · show _ + 0 ≤ _; omega
      have outer : ∀ m i, i + m = v.2 2 p → ∀ τ : sS, FX τ (L ++ (twL v p i).1) (wt + a) → xK σ τ → Jd Y (d + 6 + 1) y_GA_lookForTwins 50 [(0, sR 15 (.inl 1)), (1, sI (nI p)), (3, sI (nI (v.2 2 p))), (4, sI (nI i))] [] τ (rN k) := by
        intro m
        induction m with
        | zero =>
          intro i hi τ t1 t2
          have : i = v.2 2 p := by omega
          subst this
          refine s_GA_lookForTwins_50 Y (d + 6) 15 _ _ _ τ (rN k) ⟨fun _ => hk τ t1 t2, fun h => ?_⟩
          rw [i32_lt (by omega) (by omega)] at h
          omega
        | succ m ih =>
          intro i hi τ t1 t2
          have hx' := hx.kept t2
          have hv' := hx'.2.2.2.1
          have hiK : i < v.2 2 p := by omega
          have hci := w.kchlt hp hiK
          refine s_GA_lookForTwins_50 Y (d + 6) 15 _ _ _ τ (rN k) ⟨fun h => ?_, fun _ => ⟨hx'.ref, ?_⟩⟩
          · rw [i32_lt (by omega) (by omega)] at h
            omega
          · rw [hx'.tr, show (6 : Int32) = nI 6 from rfl, nI_add]
            refine c_TR_child Y (d + 5) tr w hv' hp _ _ ?_
            rw [kid_list w hp h3 hiK]
            have lt2 := lt1 i
            have fin : ∀ (t : Int32), (t = 0 ∧ ¬ ∃ e, e < i ∧ sameV v (kch v p e) (kch v p i)) ∨ (t = 1 ∧ ∃ e, e < i ∧ sameV v (kch v p e) (kch v p i)) → Jd Y (d + 6 + 1) y_GA_lookForTwins 119 [(0, sR 15 (.inl 1)), (1, sI (nI p)), (3, sI (nI (v.2 2 p))), (4, sI (nI i)), (5, sI (nI (kch v p i))), (6, sI t)] [] τ (rN k) := by
              intro t ht
              have es : (twL v p (i + 1)).1 = (twL v p i).1 ++ (if pB (∃ e, e < i ∧ sameV v (kch v p e) (kch v p i)) then ([100 * v.2 5 (kch v p i) + 12], 0) else ([], 0) : List Nat × Nat).1 := rfl
              have nx : ∀ τ' : sS, FX τ' (L ++ (twL v p (i + 1)).1) (wt + a) → xK τ τ' → Jd Y (d + 6 + 1) y_GA_lookForTwins 142 [(0, sR 15 (.inl 1)), (1, sI (nI p)), (3, sI (nI (v.2 2 p))), (4, sI (nI i))] [] τ' (rN k) := by
                intro τ' u1 u2
                refine s_GA_lookForTwins_142 Y (d + 6) 15 _ _ _ τ' (rN k) ?_
                rw [nI_s1]
                exact ih (i + 1) (by omega) τ' u1 (t2.trans u2)
              refine s_GA_lookForTwins_119 Y (d + 6) 15 _ _ _ _ _ τ (rN k) ⟨fun h0 => nx τ ?_ (xK.refl τ), fun h0 => ⟨hx'.ref, ?_⟩⟩
              · rcases ht with ⟨-, h⟩ | ⟨h, -⟩
                · rw [es, pB_f h]
                  show FX τ (L ++ ((twL v p i).1 ++ [])) (wt + a)
                  rw [List.append_nil]
                  exact t1
                · rw [h] at h0; exact absurd h0 (by decide)
              · rcases ht with ⟨h, -⟩ | ⟨-, h⟩
                · exact absurd h h0
                · rw [hx'.tr, show rd τ (tr + 6) 20 (nI (kch v p i)) = nI (v.2 5 (kch v p i)) from hx'.rdv w (f := 5) (by omega) hci.2 rfl]
                  refine c_GA_add Y (d + 5) t1 (by rw [List.length_append]; omega) _ 12 _ (fun τ' u1 u2 => nx τ' ?_ u2)
                  rw [es, pB_t h, ← List.append_assoc]
                  exact u1
            have inner : ∀ x e, e + x = i → (¬ ∃ e', e' < e ∧ sameV v (kch v p e') (kch v p i)) → Jd Y (d + 6 + 1) y_GA_lookForTwins 77 [(0, sR 15 (.inl 1)), (1, sI (nI p)), (3, sI (nI (v.2 2 p))), (4, sI (nI i)), (5, sI (nI (kch v p i))), (6, sI 0), (7, sI (nI e))] [] τ (rN k) := by
              intro x
              induction x with
              | zero =>
                intro e he hno
                have : e = i := by omega
                subst this
                refine s_GA_lookForTwins_77 Y (d + 6) 15 _ _ _ _ _ _ τ (rN k) ⟨fun _ => fin 0 (Or.inl ⟨rfl, hno⟩), fun h => ?_⟩
                rw [i32_lt (by omega) (by omega)] at h
                omega
              | succ x ihx =>
                intro e he hno
                have hce := w.kchlt hp (show e < v.2 2 p by omega)
                have lve := (w.2.2.2.2.2.2.2 _ hce.2).2.2.2.2.2.1
                refine s_GA_lookForTwins_77 Y (d + 6) 15 _ _ _ _ _ _ τ (rN k) ⟨fun h => ?_, fun _ => ⟨fun h => absurd rfl h, fun _ => ⟨hx'.ref, hx'.ref, ?_⟩⟩⟩
                · rw [i32_lt (by omega) (by omega)] at h
                  omega
                · rw [hx'.tr, show (6 : Int32) = nI 6 from rfl, nI_add]
                  refine c_TR_child Y (d + 5) tr w hv' hp _ _ ?_
                  rw [kid_list w hp h3 (show e < v.2 2 p by omega)]
                  have lka := ((w.2.2.2.2.2.2.2 p hp).2.2.2.2.2.2 e (show e < v.2 2 p by omega)).2.2.2
                  refine CJ.mono (c_TR_alike Y d tr w hv' 4 _ _ (by omega) hce.2 hci.2 _ (fun hs => ?_) (fun hs => ?_)) (by omega)
                  · refine s_GA_lookForTwins_77 Y (d + 6) 15 _ _ _ _ _ _ τ (rN k) ⟨fun _ => fin 1 (Or.inr ⟨rfl, e, by omega, hs⟩), fun _ => ⟨fun _ => fin 1 (Or.inr ⟨rfl, e, by omega, hs⟩), fun h => absurd h (by decide)⟩⟩
                  · rw [nI_s1]
                    refine ihx (e + 1) (by omega) ?_
                    rintro ⟨e', h1, h2⟩
                    by_cases z : e' = e
                    · subst z; exact hs h2
                    · exact hno ⟨e', by omega, h2⟩
            exact inner i 0 (by omega) (fun ⟨e', h1, _⟩ => Nat.not_lt_zero _ h1)
      by_cases z : v.2 2 p = 0
      · refine s_GA_lookForTwins_50 Y (d + 6) 15 _ _ _ σ (rN k) ⟨fun _ => hk σ ?_ (xK.refl σ), fun h => ?_⟩
        · rw [z]
          show FX σ (L ++ []) (wt + a)
          rw [List.append_nil]
          exact hf
        · rw [show (1 : Int32) = nI 1 from rfl, i32_lt (by omega) (by omega)] at h
          omega
      · refine outer (v.2 2 p - 1) 1 (by omega) σ ?_ (xK.refl σ)
        have e1 : (twL v p 1).1 = [] := by
          show [] ++ (if pB (∃ e, e < 0 ∧ sameV v (kch v p e) (kch v p 0)) then _ else _ : List Nat × Nat).1 = []
          rw [pB_f (fun ⟨e, h1, _⟩ => Nat.not_lt_zero _ h1)]
          rfl
        rw [e1, List.append_nil]
        exact hf
    · rw [z_eq (by omega) 3 (by omega)] at h3
      rw [if_neg h3] at hk
      refine hk σ ?_ (xK.refl σ)
      rw [List.append_nil]
      exact hf
  · rw [hf.1, i32_lt (by omega) (by omega)] at h
    have hA : A ≠ [] := by
      intro z
      subst z
      rw [List.append_nil] at h
      omega
    rw [if_neg hA, if_neg hA] at hk
    rw [hf.2.1, nI_s1]
    obtain ⟨q1, q2⟩ := hf.wait
    exact hk _ q1 q2
/-- whose sign lets another decide -/
def goS (s : Nat) : Prop := s = 33 ∨ s = 126 ∨ s = 94
/-- room that looking may need -/
def UB (base q : Nat) : Nat := 120 + (if base = 0 then 0 else if base = 1 then 1320 else if base = 2 then 2574 else if base = 3 then 3762 else 4884) + (120 - 6 * base) * (q / 2)
theorem UB_up {base base' q : Nat} (h : base < base') (h4 : base' ≤ 4) (hq : q < 24) : UB base q ≤ UB base' 0 := by
  unfold UB
  have h1 : q / 2 ≤ 11 := by omega
  have h2 : (120 - 6 * base) * (q / 2) ≤ (120 - 6 * base) * 11 := Nat.mul_le_mul_left _ h1
  rcases (show base = 0 ∨ base = 1 ∨ base = 2 ∨ base = 3 by omega) with rfl | rfl | rfl | rfl <;>
    rcases (show base' = 1 ∨ base' = 2 ∨ base' = 3 ∨ base' = 4 by omega) with rfl | rfl | rfl | rfl <;> simp at h2 ⊢ <;> omega
theorem UB_mono {base q q' : Nat} (h : q ≤ q') : UB base q ≤ UB base q' := by
  unfold UB
  have : (120 - 6 * base) * (q / 2) ≤ (120 - 6 * base) * (q' / 2) := Nat.mul_le_mul_left _ (by omega)
  omega
theorem UB_two {base q q' : Nat} (h : q + 2 ≤ q') : UB base q + (120 - 6 * base) ≤ UB base q' := by
  unfold UB
  have h1 : (120 - 6 * base) * (q / 2 + 1) ≤ (120 - 6 * base) * (q' / 2) := Nat.mul_le_mul_left _ (by omega)
  rw [Nat.mul_add, Nat.mul_one] at h1
  omega
theorem UB_max {base q : Nat} (h : base ≤ 4) (hq : q < 24) : UB base q ≤ 6060 := by
  unfold UB
  have h2 : (120 - 6 * base) * (q / 2) ≤ (120 - 6 * base) * 11 := Nat.mul_le_mul_left _ (by omega)
  rcases (show base = 0 ∨ base = 1 ∨ base = 2 ∨ base = 3 ∨ base = 4 by omega) with rfl | rfl | rfl | rfl | rfl <;> simp at h2 ⊢ <;> omega
theorem sp_lev {v : VT} (w : WFV v) : ∀ n p, p < n → p < v.1 → v.2 4 p + v.2 6 p ≤ 20 := by
  intro n
  induction n with
  | zero => intro p h; omega
  | succ n ih =>
    intro p h1 hp
    have h20 := w.2.1
    by_cases e : p = 0
    · subst e
      rw [w.2.2.2.2.2.1, w.2.2.2.1]
      omega
    · obtain ⟨P, j, g1, g2, g3, g4, -⟩ := w.hold hp (by omega)
      have h2 := ih P (by omega) g2
      have h3 := ((w.2.2.2.2.2.2.2 P g2).2.2.2.2.2.2 j g3).2.2.2
      rw [g4] at h3
      have h5 : kch v P j + v.2 4 (kch v P j) ≤ P + v.2 4 P := ch_in w.2.2.1 g2 (k := j + 1) (by omega)
      rw [g4] at h5
      omega
/-- where looking is -/
def InC (c : CT) (v : VT) (n q p base : Nat) : Prop := q < cM c ∧ p < v.1 ∧ base + cF c 11 q ≤ v.2 6 p ∧ 120 ≤ n + 24 * base + q
theorem InC.b4 {c : CT} {v : VT} {n q p base : Nat} (h : InC c v n q p base) (w : WFV v) : base ≤ 4 := by
  have := (w.2.2.2.2.2.2.2 p h.2.1).2.2.2.2.2.1
  have := h.2.2.1
  omega
theorem InC.down {c : CT} (wc : WFC c) {v : VT} {n q p base k : Nat} (h : InC c v (n + 1) q p base) (hk : k < cF c 10 q) (hs : cF c 0 q ≠ 123 ∧ cF c 0 q ≠ 64) : InC c v n (cch c q k) p base := by
  have hg := ch_gt (cF c 3) q k
  have hho := ((wc.2.2.2.2.2.2.2.1 q h.1).2.2.2.2.2.2.2.2.2 k hk).1
  rw [if_neg (by omega)] at hho
  exact ⟨ch_part wc.2.2.2.2.1 h.1 hk, h.2.1, by rw [hho]; exact h.2.2.1, by have := h.2.2.2; show 120 ≤ n + 24 * base + ch (cF c 3) q k; omega⟩
theorem InC.into {c : CT} (wc : WFC c) {v : VT} (w : WFV v) {n q p base k j : Nat} (h : InC c v (n + 1) q p base) (hk : k < cF c 10 q) (hj : j < v.2 2 p) : InC c v n (cch c q k) (kch v p j) base := by
  have hg := ch_gt (cF c 3) q k
  have hho := ((wc.2.2.2.2.2.2.2.1 q h.1).2.2.2.2.2.2.2.2.2 k hk).1
  have hlv := ((w.2.2.2.2.2.2.2 p h.2.1).2.2.2.2.2.2 j hj).2.2.2
  refine ⟨ch_part wc.2.2.2.2.1 h.1 hk, (w.kchlt h.2.1 hj).2, ?_, by have := h.2.2.2; show 120 ≤ n + 24 * base + ch (cF c 3) q k; omega⟩
  have := h.2.2.1
  rw [hlv]
  split at hho <;> omega
theorem InC.back {c : CT} (wc : WFC c) {v : VT} {n q p base : Nat} (h : InC c v (n + 1) q p base) (hs : cF c 0 q = 94) : InC c v n 0 p (v.2 6 p) ∧ base < v.2 6 p := by
  have h1 := (wc.2.2.2.2.2.2.2.1 q h.1).2.2.2.2.2.2.2.2.1 hs
  have h2 := wc.2.1
  obtain ⟨a, b, e, f⟩ := h
  have h3 := wc.2.2.2.2.2.2.1
  have := wc.1
  exact ⟨⟨by omega, b, by omega, by omega⟩, by omega⟩
