/-! the letters of a value are read back: what they tell -/
noncomputable def bu (L : Nat → Nat) (n i : Nat) (v : VT) (s : List Nat) (dg : Nat) : Nat ⊕ VT := vbu L n n i v s dg
theorem bu_eq {L : Nat → Nat} {n i : Nat} (hi : i < n) (v : VT) (s : List Nat) (dg : Nat) : bu L n i v s dg = (if isD (L i) = true then (if pB (badQ v s) = true then .inl i else bu L n (numP L n i).2 (addV v s 0 (numP L n i).1 (vdg v s dg)) s (vdg v s dg))
    else if L i = 63 then (if pB (badQ v s) = true then .inl i else bu L n (i + 1) (addV v s 1 0 (vdg v s dg)) s (vdg v s dg))
    else if L i = 40 then (if pB (badQ v s) = true then .inl i else bu L n (i + 1) (addV v s 2 0 (vdg v s dg)) (v.1 :: s) (vdg v s dg))
    else if L i = 91 then (if pB (badQ v s) = true then .inl i else bu L n (i + 1) (addV v s 3 0 (vdg v s dg)) (v.1 :: s) (vdg v s dg))
    else if L i = 41 ∨ L i = 93 then bu L n (i + 1) v s.tail dg
    else if L i = 44 then bu L n (i + 1) v s dg
    else if pB (dupQ v s (L i - 96)) = true then .inl i else bu L n (i + 1) v s (L i - 96)) := by
  obtain ⟨m, rfl⟩ : ∃ m, n = m + 1 := ⟨n - 1, by omega⟩
  have hg := numP_gt L (m + 1) i
  have e : ∀ i' v s dg, i < i' → bu L (m + 1) i' v s dg = vbu L (m + 1) m i' v s dg := fun i' v s dg h => vbu_any L (m + 1) _ _ i' v s dg (by omega) (by omega)
  rw [e _ _ _ _ hg, e (i + 1) _ _ _ (by omega), e (i + 1) _ _ _ (by omega), e (i + 1) _ _ _ (by omega), e (i + 1) _ _ _ (by omega), e (i + 1) _ _ _ (by omega), e (i + 1) _ _ _ (by omega)]
  show vbu L (m + 1) (m + 1) i v s dg = _
  conv => lhs; unfold vbu
  rw [if_neg (by omega)]
theorem bu_num {L : Nat → Nat} {n i : Nat} (hi : i < n) {v : VT} {s : List Nat} (dg : Nat) (hc : 48 ≤ L i ∧ L i ≤ 57) (hb : ¬ badQ v s) : bu L n i v s dg = bu L n (numP L n i).2 (addV v s 0 (numP L n i).1 (vdg v s dg)) s (vdg v s dg) := by
  rw [bu_eq hi, if_pos (isD_of hc), pB_f hb, if_neg (by decide)]
theorem bu_non {L : Nat → Nat} {n i : Nat} (hi : i < n) {v : VT} {s : List Nat} (dg : Nat) (hc : L i = 63) (hb : ¬ badQ v s) : bu L n i v s dg = bu L n (i + 1) (addV v s 1 0 (vdg v s dg)) s (vdg v s dg) := by
  rw [bu_eq hi, isD_not (by omega), if_neg (by decide), if_pos hc, pB_f hb, if_neg (by decide)]
theorem bu_rec {L : Nat → Nat} {n i : Nat} (hi : i < n) {v : VT} {s : List Nat} (dg : Nat) (hc : L i = 40) (hb : ¬ badQ v s) : bu L n i v s dg = bu L n (i + 1) (addV v s 2 0 (vdg v s dg)) (v.1 :: s) (vdg v s dg) := by
  rw [bu_eq hi, isD_not (by omega), if_neg (by decide), if_neg (by omega), if_pos hc, pB_f hb, if_neg (by decide)]
theorem bu_lis {L : Nat → Nat} {n i : Nat} (hi : i < n) {v : VT} {s : List Nat} (dg : Nat) (hc : L i = 91) (hb : ¬ badQ v s) : bu L n i v s dg = bu L n (i + 1) (addV v s 3 0 (vdg v s dg)) (v.1 :: s) (vdg v s dg) := by
  rw [bu_eq hi, isD_not (by omega), if_neg (by decide), if_neg (by omega), if_neg (by omega), if_pos hc, pB_f hb, if_neg (by decide)]
theorem bu_shut {L : Nat → Nat} {n i : Nat} (hi : i < n) {v : VT} {s : List Nat} (dg : Nat) (hc : L i = 41 ∨ L i = 93) : bu L n i v s dg = bu L n (i + 1) v s.tail dg := by
  rw [bu_eq hi, isD_not (by omega), if_neg (by decide), if_neg (by omega), if_neg (by omega), if_neg (by omega), if_pos hc]
theorem bu_com {L : Nat → Nat} {n i : Nat} (hi : i < n) {v : VT} {s : List Nat} (dg : Nat) (hc : L i = 44) : bu L n i v s dg = bu L n (i + 1) v s dg := by
  rw [bu_eq hi, isD_not (by omega), if_neg (by decide), if_neg (by omega), if_neg (by omega), if_neg (by omega), if_neg (by omega), if_pos hc]
theorem bu_nam {L : Nat → Nat} {n i c : Nat} (hi : i < n) {v : VT} {s : List Nat} (dg : Nat) (hc : L i = 96 + c) (h5 : 1 ≤ c ∧ c ≤ 5) (hd : ¬ dupQ v s c) : bu L n i v s dg = bu L n (i + 1) v s c := by
  rw [bu_eq hi, isD_not (by omega), if_neg (by decide), if_neg (by omega), if_neg (by omega), if_neg (by omega), if_neg (by omega), if_neg (by omega), hc, Nat.add_sub_cancel_left, pB_f hd, if_neg (by decide)]
/-- one part more with all that is in it: all else as it was -/
def KO (v' v : VT) (s : List Nat) (dg k n z : Nat) : Prop := v'.1 = v.1 + z ∧ 1 ≤ z ∧ (∀ y, y < v.1 → v'.2 0 y = v.2 0 y ∧ v'.2 1 y = v.2 1 y ∧ v'.2 3 y = v.2 3 y ∧ v'.2 2 y = (if s.head? = some y then v.2 2 y + 1 else v.2 2 y) ∧ v'.2 4 y = (if y ∈ s then v.2 4 y + z else v.2 4 y)) ∧ v'.2 0 v.1 = k ∧ v'.2 1 v.1 = n ∧ v'.2 3 v.1 = dg ∧ v'.2 4 v.1 = z
/-- and of each in it -/
def KI {α : Type} (K N Z : α → Nat) (v' v : VT) (s : List Nat) (dg k n : Nat) (pre : List (Nat × α)) : Prop := KO v' v s dg k n (1 + sumf (fun q => Z q.2) pre) ∧ v'.2 2 v.1 = pre.length ∧ ∀ (j : Nat) (q : Nat × α), pre[j]? = some q → v.1 + 1 + sumf (fun q => Z q.2) (pre.take j) < v'.1 ∧ v'.2 0 (v.1 + 1 + sumf (fun q => Z q.2) (pre.take j)) = K q.2 ∧ v'.2 1 (v.1 + 1 + sumf (fun q => Z q.2) (pre.take j)) = N q.2 ∧ v'.2 3 (v.1 + 1 + sumf (fun q => Z q.2) (pre.take j)) = q.1 ∧ v'.2 4 (v.1 + 1 + sumf (fun q => Z q.2) (pre.take j)) = Z q.2
theorem KI_one {α : Type} (K N Z : α → Nat) (v : VT) (s : List Nat) (dg k n : Nat) : KI K N Z (addV v s k n dg) v s dg k n [] := by
  refine ⟨⟨rfl, Nat.le_refl _, fun y hy => ?_, ?_, ?_, ?_, ?_⟩, ?_, fun j q h => by simp at h⟩
  · have hn : ¬ y = v.1 := by omega
    rw [aV0, aV1, aV2, aV3, aV4, if_neg hn, if_neg hn, if_neg hn, if_neg hn, if_neg hn]
    exact ⟨rfl, rfl, rfl, rfl, rfl⟩
  · rw [aV0, if_pos rfl]
  · rw [aV1, if_pos rfl]
  · rw [aV3, if_pos rfl]
  · rw [aV4, if_pos rfl]; rfl
  · rw [aV2, if_pos rfl]; rfl
theorem KI_snoc {α : Type} {K N Z : α → Nat} {v' v v0 : VT} {s : List Nat} {dg k n : Nat} {pre : List (Nat × α)} {q : Nat × α} (hs : ∀ y ∈ s, y < v0.1) (h : KI K N Z v v0 s dg k n pre) (g : KO v' v (v0.1 :: s) q.1 (K q.2) (N q.2) (Z q.2)) : KI K N Z v' v0 s dg k n (pre ++ [q]) := by
  obtain ⟨⟨h1, h2, h3, h4, h5, h6, h7⟩, h8, h9⟩ := h
  obtain ⟨g1, g2, g3, g4, g5, g6, g7⟩ := g
  have eS : sumf (fun q => Z q.2) (pre ++ [q]) = sumf (fun q => Z q.2) pre + Z q.2 := by rw [sumf_app]; simp [sumf]
  have hv : v0.1 < v.1 := by omega
  obtain ⟨r1, r2, r3, r4, r5⟩ := g3 v0.1 hv
  refine ⟨⟨by rw [eS]; omega, by omega, fun y hy => ?_, by rw [r1]; exact h4, by rw [r2]; exact h5, by rw [r3]; exact h6, ?_⟩, ?_, fun j q' hj => ?_⟩
  · obtain ⟨a1, a2, a3, a4, a5⟩ := g3 y (by omega)
    obtain ⟨b1, b2, b3, b4, b5⟩ := h3 y hy
    refine ⟨a1.trans b1, a2.trans b2, a3.trans b3, ?_, ?_⟩
    · rw [a4, if_neg (by rw [List.head?_cons]; intro z; have := Option.some.inj z; omega)]; exact b4
    · rw [a5, b5, eS]
      by_cases z : y ∈ s
      · rw [if_pos (List.mem_cons_of_mem _ z), if_pos z, if_pos z]; omega
      · rw [if_neg (by intro w; rcases List.mem_cons.mp w with w | w; · omega
                       · exact z w), if_neg z, if_neg z]
  · rw [r5, if_pos List.mem_cons_self, h7, eS]; omega
  · rw [r4, if_pos (by rw [List.head?_cons]), h8, List.length_append, List.length_singleton]
  · by_cases z : j < pre.length
    · rw [List.getElem?_append_left z] at hj
      obtain ⟨b1, b2, b3, b4, b5⟩ := h9 j q' hj
      obtain ⟨a1, a2, a3, a4, a5⟩ := g3 _ b1
      rw [List.take_append_of_le_length (by omega)]
      refine ⟨by omega, a1.trans b2, a2.trans b3, a3.trans b4, ?_⟩
      rw [a5, if_neg, b5]
      intro w
      rcases List.mem_cons.mp w with w | w
      · omega
      · have := hs _ w; omega
    · have hlt := (List.getElem?_eq_some_iff.mp hj).1
      rw [List.length_append, List.length_singleton] at hlt
      have e : j = pre.length := by omega
      subst e
      have : q = q' := by simpa using hj
      subst this
      rw [List.take_append_of_le_length (Nat.le_refl _), List.take_length, show v0.1 + 1 + sumf (fun q => Z q.2) pre = v.1 by omega]
      exact ⟨by omega, g4, g5, g6, g7⟩
/-- where the j-th stands -/
theorem KI.kch {α : Type} {K N Z : α → Nat} {v' v : VT} {s : List Nat} {dg k n : Nat} {pre : List (Nat × α)} (h : KI K N Z v' v s dg k n pre) : ∀ j, j ≤ pre.length → kch v' v.1 j = v.1 + 1 + sumf (fun q => Z q.2) (pre.take j)
  | 0, _ => by simp [sumf]; rfl
  | j + 1, hj => by
    have ih := KI.kch h j (by omega)
    obtain ⟨q, hq⟩ : ∃ q, pre[j]? = some q := ⟨_, List.getElem?_eq_getElem (by omega)⟩
    obtain ⟨-, -, -, -, b5⟩ := h.2.2 j q hq
    show ch (v'.2 4) v.1 j + v'.2 4 (ch (v'.2 4) v.1 j) = _
    have ih : ch (v'.2 4) v.1 j = v.1 + 1 + sumf (fun q => Z q.2) (pre.take j) := ih
    rw [ih, b5, List.take_succ, hq, sumf_app]
    simp [sumf]
    omega
def KIt : (d : Nat) → VT → VT → List Nat → Nat → Tr d → Prop
  | 0, _, _, _, _, _ => False
  | d + 1, v', v, s, dg, t => KI (trK0 d) (trN0 d) (tsz d) v' v s dg (trK t) (trN t) (trC t)
theorem KIt.out {d : Nat} {v' v : VT} {s : List Nat} {dg : Nat} {t : Tr d} (h : KIt d v' v s dg t) : KO v' v s dg (trK0 d t) (trN0 d t) (tsz d t) := by
  cases d with
  | zero => exact h.elim
  | succ d => exact h.1
theorem notbad {v : VT} {s : List Nat} {d z : Nat} (h20 : v.1 + (1 + z) ≤ 20) (h5 : s.length + (d + 1) ≤ 5) (hl : ∀ q r, s = q :: r → v.2 0 q = 3 → v.2 2 q < 4) : ¬ badQ v s := by
  rintro (h | h | ⟨q, r, e, h3, h4⟩)
  · omega
  · omega
  · have := hl q r e h3; omega
def bspec (L : Nat → Nat) (n d : Nat) (t : Tr d) : Prop := ∀ i (v : VT) s dg, At L i (tlet d t) → i + (tlet d t).length ≤ n → (i + (tlet d t).length = n ∨ isD (L (i + (tlet d t).length)) = false) → v.1 + tsz d t ≤ 20 → s.length + d ≤ 5 → (∀ q ∈ s, q < v.1) → (∀ q r, s = q :: r → v.2 0 q = 3 → v.2 2 q < 4) →
  ∃ v' dg', KIt d v' v s (vdg v s dg) t ∧ bu L n i v s dg = bu L n (i + (tlet d t).length) v' s dg'
theorem bu_kr (L : Nat → Nat) (n d : Nat) {v0 : VT} {s : List Nat} {dg0 nn : Nat} (hs5 : s.length + (d + 1) ≤ 5) (hs : ∀ q ∈ s, q < v0.1) : ∀ (r : List (Nat × Tr d)) (pre : List (Nat × Tr d)) (i j : Nat) (v : VT) (dg : Nat), KI (trK0 d) (trN0 d) (tsz d) v v0 s dg0 2 nn pre → (∀ q ∈ r, 1 ≤ q.1 ∧ q.1 ≤ 5 ∧ bspec L n d q.2) → (∀ (i j : Nat) (p q : Nat × Tr d), (pre ++ r)[i]? = some p → (pre ++ r)[j]? = some q → p.1 = q.1 → i = j) → At L i (kidL 2 (fun x => tlet d x) j r ++ [41]) → i + (kidL 2 (fun x => tlet d x) j r ++ [41]).length ≤ n → v0.1 + (1 + sumf (fun q => tsz d q.2) (pre ++ r)) ≤ 20 →
    ∃ v' dg', KI (trK0 d) (trN0 d) (tsz d) v' v0 s dg0 2 nn (pre ++ r) ∧ bu L n i v (v0.1 :: s) dg = bu L n (i + (kidL 2 (fun x => tlet d x) j r ++ [41]).length) v' s dg'
  | [], pre, i, j, v, dg, hK, _, _, hL, hn, _ => by
    have hn : i + 1 ≤ n := hn
    refine ⟨v, dg, by rw [List.append_nil]; exact hK, ?_⟩
    exact bu_shut (by omega) dg (Or.inl hL.head)
  | q :: r, pre, i, j, v, dg, hK, hr, hd, hL, hn, h20 => by
    obtain ⟨q1, q2, q3⟩ := hr q List.mem_cons_self
    have ek : kidL 2 (fun x => tlet d x) j (q :: r) ++ [41] = (96 + q.1) :: (tlet d q.2 ++ (kidL 2 (fun x => tlet d x) (j + 1) r ++ [41])) := by simp [kidL]
    rw [ek] at hL hn ⊢
    have hlen : ((96 + q.1) :: (tlet d q.2 ++ (kidL 2 (fun x => tlet d x) (j + 1) r ++ [41]))).length = 1 + (tlet d q.2).length + (kidL 2 (fun x => tlet d x) (j + 1) r ++ [41]).length := by simp; omega
    rw [hlen] at hn ⊢
    have h1 := hL.head
    have h3 := hL.tail.left
    have h4 := hL.tail.right
    have hlast : 1 ≤ (kidL 2 (fun x => tlet d x) (j + 1) r ++ [41]).length := by simp
    have hx : isD (L (i + 1 + (tlet d q.2).length)) = false := by
      cases r with
      | nil => have : L (i + 1 + (tlet d q.2).length) = 41 := h4.head
               rw [this]; rfl
      | cons q' r' =>
        have e2 : kidL 2 (fun x => tlet d x) (j + 1) (q' :: r') ++ [41] = (96 + q'.1) :: (tlet d q'.2 ++ (kidL 2 (fun x => tlet d x) (j + 1 + 1) r' ++ [41])) := by simp [kidL]
        have := (hr q' (List.mem_cons_of_mem _ List.mem_cons_self))
        rw [e2] at h4
        rw [h4.head]
        exact isD_not (by omega)
    have eS : sumf (fun q => tsz d q.2) (pre ++ q :: r) = sumf (fun q => tsz d q.2) pre + tsz d q.2 + sumf (fun q => tsz d q.2) r := by rw [sumf_app]; simp [sumf]; omega
    rw [eS] at h20
    obtain ⟨⟨k1, k2, k3, k4, k5, k6, k7⟩, k8, k9⟩ := id hK
    have nd : ¬ dupQ v (v0.1 :: s) q.1 := by
      rintro ⟨q', r', e, jj, hj, hdg⟩
      have e1 : v0.1 = q' := (List.cons.inj e).1
      subst e1
      rw [k8] at hj
      rw [hK.kch jj (by omega)] at hdg
      obtain ⟨p, hp⟩ : ∃ p, pre[jj]? = some p := ⟨_, List.getElem?_eq_getElem hj⟩
      obtain ⟨-, -, -, b4, -⟩ := k9 jj p hp
      have := hd jj pre.length p q (by rw [List.getElem?_append_left hj]; exact hp) (by rw [List.getElem?_append_right (Nat.le_refl _), Nat.sub_self]; rfl) (b4.symm.trans hdg)
      omega
    have hin : ∀ y ∈ v0.1 :: s, y < v.1 := by
      intro y hy
      rcases List.mem_cons.mp hy with rfl | hy
      · omega
      · have := hs y hy; omega
    obtain ⟨v1, dg1, g1, g2⟩ := q3 (i + 1) v (v0.1 :: s) q.1 h3 (by omega) (Or.inr hx) (by omega) (by simp; omega) hin (fun q' r' e hk => by
      have e1 : v0.1 = q' := (List.cons.inj e).1
      subst e1
      rw [k4] at hk
      omega)
    have edg : vdg v (v0.1 :: s) q.1 = q.1 := by
      show (if v.2 0 v0.1 = 3 then 6 + v.2 2 v0.1 else q.1) = q.1
      rw [if_neg (by omega)]
    rw [edg] at g1
    have hK1 := KI_snoc hs hK g1.out
    obtain ⟨v2, dg2, f1, f2⟩ := bu_kr L n d hs5 hs r (pre ++ [q]) (i + 1 + (tlet d q.2).length) (j + 1) v1 dg1 hK1 (fun q' h' => hr q' (List.mem_cons_of_mem _ h')) (by rw [List.append_assoc]; exact hd) h4 (by omega) (by rw [List.append_assoc]; show v0.1 + (1 + sumf (fun q => tsz d q.2) (pre ++ q :: r)) ≤ 20; rw [eS]; omega)
    refine ⟨v2, dg2, ?_, ?_⟩
    · rw [List.append_assoc] at f1; exact f1
    · rw [bu_nam (by omega) dg h1 ⟨q1, q2⟩ nd, g2, f2]
      congr 1
      omega
theorem bu_kl (L : Nat → Nat) (n d : Nat) {v0 : VT} {s : List Nat} {dg0 nn : Nat} (hs5 : s.length + (d + 1) ≤ 5) (hs : ∀ q ∈ s, q < v0.1) : ∀ (r : List (Nat × Tr d)) (pre : List (Nat × Tr d)) (i : Nat) (v : VT) (dg : Nat), KI (trK0 d) (trN0 d) (tsz d) v v0 s dg0 3 nn pre → (pre ++ r).length ≤ 4 → (∀ q ∈ r, bspec L n d q.2) → (∀ (i : Nat) (q : Nat × Tr d), (pre ++ r)[i]? = some q → q.1 = 6 + i) → At L i (kidL 3 (fun x => tlet d x) pre.length r ++ [93]) → i + (kidL 3 (fun x => tlet d x) pre.length r ++ [93]).length ≤ n → v0.1 + (1 + sumf (fun q => tsz d q.2) (pre ++ r)) ≤ 20 →
    ∃ v' dg', KI (trK0 d) (trN0 d) (tsz d) v' v0 s dg0 3 nn (pre ++ r) ∧ bu L n i v (v0.1 :: s) dg = bu L n (i + (kidL 3 (fun x => tlet d x) pre.length r ++ [93]).length) v' s dg'
  | [], pre, i, v, dg, hK, _, _, _, hL, hn, _ => by
    have hn : i + 1 ≤ n := hn
    refine ⟨v, dg, by rw [List.append_nil]; exact hK, ?_⟩
    exact bu_shut (by omega) dg (Or.inr hL.head)
  | q :: r, pre, i, v, dg, hK, hl4, hr, hd, hL, hn, h20 => by
    have q3 := hr q List.mem_cons_self
    obtain ⟨⟨k1, k2, k3, k4, k5, k6, k7⟩, k8, k9⟩ := id hK
    have eS : sumf (fun q => tsz d q.2) (pre ++ q :: r) = sumf (fun q => tsz d q.2) pre + tsz d q.2 + sumf (fun q => tsz d q.2) r := by rw [sumf_app]; simp [sumf]; omega
    rw [eS] at h20
    have hl4' : pre.length + (r.length + 1) ≤ 4 := by simpa using hl4
    have hin : ∀ y ∈ v0.1 :: s, y < v.1 := by
      intro y hy
      rcases List.mem_cons.mp hy with rfl | hy
      · omega
      · have := hs y hy; omega
    have rest : ∀ i' dg', At L i' (tlet d q.2 ++ (kidL 3 (fun x => tlet d x) (pre.length + 1) r ++ [93])) → i' + ((tlet d q.2).length + (kidL 3 (fun x => tlet d x) (pre.length + 1) r ++ [93]).length) ≤ n → ∃ v' dg'', KI (trK0 d) (trN0 d) (tsz d) v' v0 s dg0 3 nn (pre ++ q :: r) ∧ bu L n i' v (v0.1 :: s) dg' = bu L n (i' + ((tlet d q.2).length + (kidL 3 (fun x => tlet d x) (pre.length + 1) r ++ [93]).length)) v' s dg'' := by
      intro i' dg' hL' hn'
      have h3 := hL'.left
      have h4 := hL'.right
      have hx : isD (L (i' + (tlet d q.2).length)) = false := by
        cases r with
        | nil => have : L (i' + (tlet d q.2).length) = 93 := h4.head
                 rw [this]; rfl
        | cons q' r' =>
          have e2 : kidL 3 (fun x => tlet d x) (pre.length + 1) (q' :: r') ++ [93] = 44 :: (tlet d q'.2 ++ (kidL 3 (fun x => tlet d x) (pre.length + 1 + 1) r' ++ [93])) := by simp [kidL]
          rw [e2] at h4
          rw [h4.head]
          rfl
      obtain ⟨v1, dg1, g1, g2⟩ := q3 i' v (v0.1 :: s) dg' h3 (by omega) (Or.inr hx) (by omega) (by simp; omega) hin (fun q' r' e hk => by
        have e1 : v0.1 = q' := (List.cons.inj e).1
        subst e1
        rw [k8]
        omega)
      have edg : vdg v (v0.1 :: s) dg' = q.1 := by
        show (if v.2 0 v0.1 = 3 then 6 + v.2 2 v0.1 else dg') = q.1
        rw [if_pos k4, k8, hd pre.length q (by rw [List.getElem?_append_right (Nat.le_refl _), Nat.sub_self]; rfl)]
      rw [edg] at g1
      have hK1 := KI_snoc hs hK g1.out
      have elp : (pre ++ [q]).length = pre.length + 1 := by simp
      obtain ⟨v2, dg2, f1, f2⟩ := bu_kl L n d hs5 hs r (pre ++ [q]) (i' + (tlet d q.2).length) v1 dg1 hK1 (by rw [List.append_assoc]; exact hl4) (fun q' h' => hr q' (List.mem_cons_of_mem _ h')) (by rw [List.append_assoc]; exact hd) (by rw [elp]; exact h4) (by rw [elp]; omega) (by rw [List.append_assoc]; show v0.1 + (1 + sumf (fun q => tsz d q.2) (pre ++ q :: r)) ≤ 20; rw [eS]; omega)
      rw [elp] at f2
      refine ⟨v2, dg2, ?_, ?_⟩
      · rw [List.append_assoc] at f1; exact f1
      · rw [g2, f2]
        congr 1
        omega
    by_cases z : pre.length = 0
    · have ek : kidL 3 (fun x => tlet d x) pre.length (q :: r) ++ [93] = tlet d q.2 ++ (kidL 3 (fun x => tlet d x) (pre.length + 1) r ++ [93]) := by simp [kidL, z]
      rw [ek] at hL hn ⊢
      rw [List.length_append] at hn ⊢
      exact rest i dg hL hn
    · have ek : kidL 3 (fun x => tlet d x) pre.length (q :: r) ++ [93] = 44 :: (tlet d q.2 ++ (kidL 3 (fun x => tlet d x) (pre.length + 1) r ++ [93])) := by
        have : 0 < pre.length := by omega
        simp [kidL, this]
      rw [ek] at hL hn ⊢
      rw [List.length_cons, List.length_append] at hn ⊢
      obtain ⟨v2, dg2, f1, f2⟩ := rest (i + 1) dg hL.tail (by omega)
      refine ⟨v2, dg2, f1, ?_⟩
      rw [bu_com (by omega) dg hL.head, f2]
      congr 1
      omega
theorem bu_val (L : Nat → Nat) (n : Nat) : ∀ (d : Nat) (t : Tr d), twf d t → bspec L n d t
  | 0, t, hw => hw.elim
  | d + 1, t, hw => by
    obtain ⟨w1, w2, w2b, w3, w4, w5, w6, w7⟩ := hw
    intro i v s dg hL hn hx h20 h5 hs hl
    have el : tlet (d + 1) t = hdL (trK t) (trN t) ++ kidL (trK t) (fun x => tlet d x) 0 (trC t) ++ tlL (trK t) := rfl
    have es : tsz (d + 1) t = 1 + sumf (fun q => tsz d q.2) (trC t) := rfl
    have ks : ∀ q ∈ trC t, bspec L n d q.2 := fun q hq => bu_val L n d q.2 (w7 q hq).2.2.2
    rw [es] at h20
    have nb := notbad h20 h5 hl
    rw [el] at hL hn hx ⊢
    have lone : ∀ k x, trK t = k → trN t = x → trC t = [] → KIt (d + 1) (addV v s k x (vdg v s dg)) v s (vdg v s dg) t := by
      intro k x e1 e2 e3
      show KI _ _ _ _ _ _ _ (trK t) (trN t) (trC t)
      rw [e1, e2, e3]
      exact KI_one _ _ _ _ _ _ _ _
    rcases (show trK t = 0 ∨ trK t = 1 ∨ trK t = 2 ∨ trK t = 3 by omega) with e | e | e | e
    · have e3 := w3 (by omega)
      rw [e, e3] at hL hn hx ⊢
      have hN := w2 e
      by_cases z : 9 < trN t
      · have e2 : hdL 0 (trN t) ++ kidL 0 (fun x => tlet d x) 0 [] ++ tlL 0 = [48 + trN t / 10, 48 + trN t % 10] := by simp [hdL, kidL, tlL, z]
        rw [e2] at hL hn hx ⊢
        have hn : i + 2 ≤ n := hn
        have h1 := hL.head
        have h2 := hL.tail.head
        have en : numP L n i = (trN t, i + 2) := by
          unfold numP
          rw [if_pos ⟨by omega, by rw [h2]; exact isD_of (by omega)⟩, h1, h2]
          congr 1
          omega
        refine ⟨_, vdg v s dg, lone 0 _ e rfl e3, ?_⟩
        rw [bu_num (by omega) dg (by omega) nb, en]
        rfl
      · have e2 : hdL 0 (trN t) ++ kidL 0 (fun x => tlet d x) 0 [] ++ tlL 0 = [48 + trN t % 10] := by simp [hdL, kidL, tlL, z]
        rw [e2] at hL hn hx ⊢
        have hn : i + 1 ≤ n := hn
        have h1 := hL.head
        have hx : i + 1 = n ∨ isD (L (i + 1)) = false := hx
        have en : numP L n i = (trN t, i + 1) := by
          unfold numP
          rw [if_neg (by
            rintro ⟨a, b⟩
            rcases hx with hx | hx
            · omega
            · rw [hx] at b; cases b), h1]
          congr 1
          omega
        refine ⟨_, vdg v s dg, lone 0 _ e rfl e3, ?_⟩
        rw [bu_num (by omega) dg (by omega) nb, en]
        rfl
    · have e3 := w3 (by omega)
      have e4 := w2b (by omega)
      rw [e, e3] at hL hn hx ⊢
      have e2 : hdL 1 (trN t) ++ kidL 1 (fun x => tlet d x) 0 [] ++ tlL 1 = [63] := by simp [hdL, kidL, tlL]
      rw [e2] at hL hn hx ⊢
      have hn : i + 1 ≤ n := hn
      refine ⟨_, vdg v s dg, lone 1 0 e e4 e3, ?_⟩
      rw [bu_non (by omega) dg hL.head nb]
      rfl
    · have e4 := w2b (by omega)
      rw [e] at hL hn hx ⊢
      have e2 : hdL 2 (trN t) ++ kidL 2 (fun x => tlet d x) 0 (trC t) ++ tlL 2 = 40 :: (kidL 2 (fun x => tlet d x) 0 (trC t) ++ [41]) := by simp [hdL, tlL]
      rw [e2] at hL hn hx ⊢
      rw [List.length_cons] at hn ⊢
      obtain ⟨v', dg', g1, g2⟩ := bu_kr L n d (v0 := v) (s := s) (dg0 := vdg v s dg) (nn := 0) h5 hs (trC t) [] (i + 1) 0 _ (vdg v s dg) (KI_one _ _ _ v s (vdg v s dg) 2 0) (fun q hq => ⟨(w7 q hq).1, (w7 q hq).2.2.1 e, ks q hq⟩) (by rw [List.nil_append]; exact w5 e) hL.tail (by omega) (by rw [List.nil_append]; exact h20)
      rw [List.nil_append] at g1
      refine ⟨v', dg', ?_, ?_⟩
      · show KI _ _ _ _ _ _ _ (trK t) (trN t) (trC t)
        rw [e, e4]
        exact g1
      · rw [bu_rec (by omega) dg hL.head nb, g2]
        congr 1
        omega
    · have e4 := w2b (by omega)
      rw [e] at hL hn hx ⊢
      have e2 : hdL 3 (trN t) ++ kidL 3 (fun x => tlet d x) 0 (trC t) ++ tlL 3 = 91 :: (kidL 3 (fun x => tlet d x) 0 (trC t) ++ [93]) := by simp [hdL, tlL]
      rw [e2] at hL hn hx ⊢
      rw [List.length_cons] at hn ⊢
      obtain ⟨v', dg', g1, g2⟩ := bu_kl L n d (v0 := v) (s := s) (dg0 := vdg v s dg) (nn := 0) h5 hs (trC t) [] (i + 1) _ (vdg v s dg) (KI_one _ _ _ v s (vdg v s dg) 3 0) (by rw [List.nil_append]; exact w4) ks (by rw [List.nil_append]; exact w6 e) hL.tail (by show i + 1 + (kidL 3 (fun x => tlet d x) 0 (trC t) ++ [93]).length ≤ n; omega) (by rw [List.nil_append]; exact h20)
      rw [List.nil_append] at g1
      refine ⟨v', dg', ?_, ?_⟩
      · show KI _ _ _ _ _ _ _ (trK t) (trN t) (trC t)
        rw [e, e4]
        exact g1
      · rw [bu_lis (by omega) dg hL.head nb, g2]
        congr 1
        show i + 1 + (kidL 3 (fun x => tlet d x) 0 (trC t) ++ [93]).length = _
        omega
