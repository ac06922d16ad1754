/-! the letters of a value are read back: which can go on -/
def At (L : Nat → Nat) (i : Nat) (l : List Nat) : Prop := ∀ (j x : Nat), l[j]? = some x → L (i + j) = x
theorem At.left {L : Nat → Nat} {i : Nat} {a b : List Nat} (h : At L i (a ++ b)) : At L i a := fun j x hj => h j x (by rw [List.getElem?_append_left (List.getElem?_eq_some_iff.mp hj).1]; exact hj)
theorem At.right {L : Nat → Nat} {i : Nat} {a b : List Nat} (h : At L i (a ++ b)) : At L (i + a.length) b := fun j x hj => by
  have := h (a.length + j) x (by rw [List.getElem?_append_right (by omega), Nat.add_sub_cancel_left]; exact hj)
  rw [Nat.add_assoc]
  exact this
theorem At.head {L : Nat → Nat} {i c : Nat} {r : List Nat} (h : At L i (c :: r)) : L i = c := h 0 c rfl
theorem At.tail {L : Nat → Nat} {i c : Nat} {r : List Nat} (h : At L i (c :: r)) : At L (i + 1) r := fun j x hj => by
  have := h (j + 1) x hj
  rw [Nat.add_assoc, Nat.add_comm 1 j]
  exact this
theorem At.nil (L : Nat → Nat) (i : Nat) : At L i [] := fun j x h => by simp at h
theorem At.app {L : Nat → Nat} {i : Nat} {a b : List Nat} (h : At L i a) (g : At L (i + a.length) b) : At L i (a ++ b) := fun j x hj => by
  by_cases z : j < a.length
  · rw [List.getElem?_append_left z] at hj; exact h j x hj
  · rw [List.getElem?_append_right (by omega)] at hj
    have := g _ x hj
    rw [show i + a.length + (j - a.length) = i + j by omega] at this
    exact this
def trK0 : (d : Nat) → Tr d → Nat
  | 0, _ => 0
  | _ + 1, t => trK t
def trN0 : (d : Nat) → Tr d → Nat
  | 0, _ => 0
  | _ + 1, t => trN t
theorem vst_lo (L : Nat → Nat) (m i s : Nat) (st : List Nat) (lo : Bool) (h : m = 0 ∨ isD (L i) = false) : vst L m i (s, lo, st) = vst L m i (s, false, st) := by
  cases m with
  | zero => rfl
  | succ m =>
    have h : isD (L i) = false := h.resolve_left (by omega)
    have e : vgo (s, lo, st) (L i) = vgo (s, false, st) (L i) := by
      unfold vgo
      rw [h]
      simp
    unfold vst
    rw [e]
theorem vst_go {L : Nat → Nat} {m i : Nat} {a b : VA} (h : vgo a (L i) = some b) : vst L (m + 1) i a = vst L m (i + 1) b := by
  conv => lhs; unfold vst
  rw [h]
theorem isD_of {c : Nat} (h : 48 ≤ c ∧ c ≤ 57) : isD c = true := isD_iff.mpr h
theorem isD_not {c : Nat} (h : ¬ (48 ≤ c ∧ c ≤ 57)) : isD c = false := by
  cases e : isD c with
  | false => rfl
  | true => exact absurd (isD_iff.mp e) h
theorem vgo_num {s0 : Nat} {st : List Nat} {c : Nat} (hs : s0 = 0 ∨ s0 = 3) (hc : 48 ≤ c ∧ c ≤ 57) : vgo (s0, false, st) c = some (vend st, true, st) := by
  have hb : vbeg st c = some (vend st, true, st) := by
    unfold vbeg
    rw [if_neg (by omega), if_neg (by omega), if_pos (isD_of hc)]
  rcases hs with rfl | rfl <;> simp [vgo, hb] <;> omega
theorem vgo_two {s0 : Nat} {st : List Nat} {c : Nat} (hc : 48 ≤ c ∧ c ≤ 57) : vgo (s0, true, st) c = some (s0, false, st) := by
  simp [vgo, isD_of hc]
theorem vgo_non {s0 : Nat} {st : List Nat} (hs : s0 = 0 ∨ s0 = 3) : vgo (s0, false, st) 63 = some (vend st, false, st) := by
  rcases hs with rfl | rfl <;> simp [vgo, vbeg, isD]
theorem vgo_rec {s0 : Nat} {st : List Nat} (hs : s0 = 0 ∨ s0 = 3) : vgo (s0, false, st) 40 = some (2, false, 40 :: st) := by
  rcases hs with rfl | rfl <;> simp [vgo, vbeg]
theorem vgo_lis {s0 : Nat} {st : List Nat} (hs : s0 = 0 ∨ s0 = 3) : vgo (s0, false, st) 91 = some (3, false, 91 :: st) := by
  rcases hs with rfl | rfl <;> simp [vgo, vbeg]
theorem vgo_nam {st : List Nat} {c : Nat} (hc : 97 ≤ c ∧ c ≤ 101) : vgo (2, false, st) c = some (0, false, st) := by
  have : isN c = true := isN_iff.mpr hc
  simp [vgo, this]
  omega
theorem vgo_shr {st : List Nat} : vgo (2, false, 40 :: st) 41 = some (vend st, false, st) := by
  simp [vgo]
theorem vgo_shl {s0 : Nat} {st : List Nat} (hs : s0 = 3 ∨ s0 = 4) : vgo (s0, false, 91 :: st) 93 = some (vend st, false, st) := by
  rcases hs with rfl | rfl <;> simp [vgo]
theorem vgo_com {st : List Nat} : vgo (4, false, st) 44 = some (0, false, st) := by
  simp [vgo]
theorem vst_kr {α : Type} (L : Nat → Nat) (g : α → List Nat) (m : Nat) (st : List Nat) : ∀ (r : List (Nat × α)) (i j : Nat), (∀ q ∈ r, 1 ≤ q.1 ∧ q.1 ≤ 5 ∧ ∀ i m s0 st, At L i (g q.2) → (m = 0 ∨ isD (L (i + (g q.2).length)) = false) → (s0 = 0 ∨ s0 = 3) → vst L ((g q.2).length + m) i (s0, false, st) = vst L m (i + (g q.2).length) (vend st, false, st)) → At L i (kidL 2 g j r ++ [41]) →
    vst L ((kidL 2 g j r ++ [41]).length + m) i (2, false, 40 :: st) = vst L m (i + (kidL 2 g j r ++ [41]).length) (vend st, false, st)
  | [], i, j, _, hL => by
    have e : L i = 41 := hL.head
    show vst L (1 + m) i _ = vst L m (i + 1) _
    rw [Nat.add_comm 1 m]
    exact vst_go (by rw [e]; exact vgo_shr)
  | q :: r, i, j, hr, hL => by
    obtain ⟨q1, q2, q3⟩ := hr q List.mem_cons_self
    have ih := vst_kr L g m st r (i + (1 + (g q.2).length)) (j + 1) (fun q' h' => hr q' (List.mem_cons_of_mem _ h'))
    have ek : kidL 2 g j (q :: r) ++ [41] = (96 + q.1) :: (g q.2 ++ (kidL 2 g (j + 1) r ++ [41])) := by simp [kidL]
    rw [ek] at hL ⊢
    have h1 := hL.head
    have h2 := hL.tail
    have h3 := h2.left
    have h4 := h2.right
    have hx : isD (L (i + 1 + (g q.2).length)) = false := by
      cases r with
      | nil => have : L (i + 1 + (g q.2).length) = 41 := h4.head
               rw [this]; rfl
      | cons q' r' =>
        have e2 : kidL 2 g (j + 1) (q' :: r') ++ [41] = (96 + q'.1) :: (g q'.2 ++ (kidL 2 g (j + 1 + 1) r' ++ [41])) := by simp [kidL]
        rw [e2] at h4
        rw [h4.head]
        exact isD_not (by omega)
    have eL : ((96 + q.1) :: (g q.2 ++ (kidL 2 g (j + 1) r ++ [41]))).length + m = ((g q.2).length + ((kidL 2 g (j + 1) r ++ [41]).length + m)) + 1 := by simp; omega
    rw [eL, vst_go (by rw [h1]; exact vgo_nam (by omega)), q3 (i + 1) _ 0 (40 :: st) h3 (Or.inr hx) (Or.inl rfl)]
    have ei : i + 1 + (g q.2).length = i + (1 + (g q.2).length) := by omega
    rw [ei] at h4 ⊢
    show vst L _ _ (2, false, 40 :: st) = _
    rw [ih h4]
    congr 1
    simp; omega
theorem vst_kl {α : Type} (L : Nat → Nat) (g : α → List Nat) (m : Nat) (st : List Nat) : ∀ (r : List (Nat × α)) (i j : Nat), (∀ q ∈ r, ∀ i m s0 st, At L i (g q.2) → (m = 0 ∨ isD (L (i + (g q.2).length)) = false) → (s0 = 0 ∨ s0 = 3) → vst L ((g q.2).length + m) i (s0, false, st) = vst L m (i + (g q.2).length) (vend st, false, st)) → At L i (kidL 3 g j r ++ [93]) →
    vst L ((kidL 3 g j r ++ [93]).length + m) i (if j = 0 then 3 else 4, false, 91 :: st) = vst L m (i + (kidL 3 g j r ++ [93]).length) (vend st, false, st)
  | [], i, j, _, hL => by
    have e : L i = 93 := hL.head
    show vst L (1 + m) i _ = vst L m (i + 1) _
    rw [Nat.add_comm 1 m]
    refine vst_go ?_
    rw [e]
    exact vgo_shl (by split <;> omega)
  | q :: r, i, j, hr, hL => by
    have q3 := hr q List.mem_cons_self
    have ih := fun i' => vst_kl L g m st r i' (j + 1) (fun q' h' => hr q' (List.mem_cons_of_mem _ h'))
    have rest : ∀ i' s0, (s0 = 0 ∨ s0 = 3) → At L i' (g q.2 ++ (kidL 3 g (j + 1) r ++ [93])) → vst L ((g q.2).length + ((kidL 3 g (j + 1) r ++ [93]).length + m)) i' (s0, false, 91 :: st) = vst L m (i' + (g q.2 ++ (kidL 3 g (j + 1) r ++ [93])).length) (vend st, false, st) := by
      intro i' s0 hs0 h2
      have h3 := h2.left
      have h4 := h2.right
      have hx : isD (L (i' + (g q.2).length)) = false := by
        cases r with
        | nil => have : L (i' + (g q.2).length) = 93 := h4.head
                 rw [this]; rfl
        | cons q' r' =>
          have e2 : kidL 3 g (j + 1) (q' :: r') ++ [93] = 44 :: (g q'.2 ++ (kidL 3 g (j + 1 + 1) r' ++ [93])) := by simp [kidL]
          rw [e2] at h4
          rw [h4.head]
          rfl
      rw [q3 i' _ s0 (91 :: st) h3 (Or.inr hx) hs0]
      have := ih (i' + (g q.2).length) h4
      rw [if_neg (by omega)] at this
      show vst L _ _ (4, false, 91 :: st) = _
      rw [this]
      congr 1
      simp; omega
    by_cases z : j = 0
    · subst z
      have ek : kidL 3 g 0 (q :: r) ++ [93] = g q.2 ++ (kidL 3 g 1 r ++ [93]) := by simp [kidL]
      rw [ek] at hL ⊢
      have eL : (g q.2 ++ (kidL 3 g 1 r ++ [93])).length + m = (g q.2).length + ((kidL 3 g 1 r ++ [93]).length + m) := by simp; omega
      rw [eL]
      exact rest i 3 (Or.inr rfl) hL
    · have ek : kidL 3 g j (q :: r) ++ [93] = 44 :: (g q.2 ++ (kidL 3 g (j + 1) r ++ [93])) := by
        have : 0 < j := by omega
        simp [kidL, this]
      rw [ek] at hL ⊢
      have eL : (44 :: (g q.2 ++ (kidL 3 g (j + 1) r ++ [93]))).length + m = ((g q.2).length + ((kidL 3 g (j + 1) r ++ [93]).length + m)) + 1 := by simp; omega
      rw [eL, if_neg z, vst_go (by rw [hL.head]; exact vgo_com), rest (i + 1) 0 (Or.inl rfl) hL.tail]
      congr 1
      simp; omega
theorem vst_val (L : Nat → Nat) : ∀ (d : Nat) (t : Tr d) (i m s0 : Nat) (st : List Nat), twf d t → At L i (tlet d t) → (m = 0 ∨ isD (L (i + (tlet d t).length)) = false) → (s0 = 0 ∨ s0 = 3) → vst L ((tlet d t).length + m) i (s0, false, st) = vst L m (i + (tlet d t).length) (vend st, false, st)
  | 0, t, i, m, s0, st, hw, _, _, _ => hw.elim
  | d + 1, t, i, m, s0, st, hw, hL, hn, hs => by
    obtain ⟨w1, w2, w2b, w3, w4, w5, w6, w7⟩ := hw
    have el : tlet (d + 1) t = hdL (trK t) (trN t) ++ kidL (trK t) (fun x => tlet d x) 0 (trC t) ++ tlL (trK t) := rfl
    rw [el] at hL hn ⊢
    have ks : ∀ q ∈ trC t, ∀ i m s0 st, At L i (tlet d q.2) → (m = 0 ∨ isD (L (i + (tlet d q.2).length)) = false) → (s0 = 0 ∨ s0 = 3) → vst L ((tlet d q.2).length + m) i (s0, false, st) = vst L m (i + (tlet d q.2).length) (vend st, false, st) := fun q hq i m s0 st a b c => vst_val L d q.2 i m s0 st (w7 q hq).2.2.2 a b c
    rcases (show trK t = 0 ∨ trK t = 1 ∨ trK t = 2 ∨ trK t = 3 by omega) with e | e | e | e
    · rw [e, w3 (by omega)] at hL hn ⊢
      have hN := w2 e
      by_cases z : 9 < trN t
      · have e2 : hdL 0 (trN t) ++ kidL 0 (fun x => tlet d x) 0 [] ++ tlL 0 = [48 + trN t / 10, 48 + trN t % 10] := by simp [hdL, kidL, tlL, z]
        rw [e2] at hL hn ⊢
        have h1 := hL.head
        have h2 := hL.tail.head
        show vst L (2 + m) i _ = vst L m (i + 2) _
        rw [Nat.add_comm 2 m]
        rw [vst_go (m := m + 1) (by rw [h1]; exact vgo_num hs (by omega)), vst_go (by rw [h2]; exact vgo_two (by omega))]
      · have e2 : hdL 0 (trN t) ++ kidL 0 (fun x => tlet d x) 0 [] ++ tlL 0 = [48 + trN t % 10] := by simp [hdL, kidL, tlL, z]
        rw [e2] at hL hn ⊢
        have h1 := hL.head
        show vst L (1 + m) i _ = vst L m (i + 1) _
        rw [Nat.add_comm 1 m, vst_go (by rw [h1]; exact vgo_num hs (by omega))]
        exact vst_lo L m _ _ _ _ hn
    · rw [e, w3 (by omega)] at hL hn ⊢
      have e2 : hdL 1 (trN t) ++ kidL 1 (fun x => tlet d x) 0 [] ++ tlL 1 = [63] := by simp [hdL, kidL, tlL]
      rw [e2] at hL hn ⊢
      have h1 := hL.head
      show vst L (1 + m) i _ = vst L m (i + 1) _
      rw [Nat.add_comm 1 m, vst_go (by rw [h1]; exact vgo_non hs)]
    · rw [e] at hL hn ⊢
      have e2 : hdL 2 (trN t) ++ kidL 2 (fun x => tlet d x) 0 (trC t) ++ tlL 2 = 40 :: (kidL 2 (fun x => tlet d x) 0 (trC t) ++ [41]) := by simp [hdL, tlL]
      rw [e2] at hL hn ⊢
      have h1 := hL.head
      have eL : (40 :: (kidL 2 (fun x => tlet d x) 0 (trC t) ++ [41])).length + m = ((kidL 2 (fun x => tlet d x) 0 (trC t) ++ [41]).length + m) + 1 := by simp; omega
      rw [eL, vst_go (by rw [h1]; exact vgo_rec hs)]
      rw [vst_kr L (fun x => tlet d x) m st (trC t) (i + 1) 0 (fun q hq => ⟨(w7 q hq).1, (w7 q hq).2.2.1 e, ks q hq⟩) hL.tail]
      congr 1
      simp; omega
    · rw [e] at hL hn ⊢
      have e2 : hdL 3 (trN t) ++ kidL 3 (fun x => tlet d x) 0 (trC t) ++ tlL 3 = 91 :: (kidL 3 (fun x => tlet d x) 0 (trC t) ++ [93]) := by simp [hdL, tlL]
      rw [e2] at hL hn ⊢
      have h1 := hL.head
      have eL : (91 :: (kidL 3 (fun x => tlet d x) 0 (trC t) ++ [93])).length + m = ((kidL 3 (fun x => tlet d x) 0 (trC t) ++ [93]).length + m) + 1 := by simp; omega
      rw [eL, vst_go (by rw [h1]; exact vgo_lis hs)]
      have := vst_kl L (fun x => tlet d x) m st (trC t) (i + 1) 0 (fun q hq => ks q hq) hL.tail
      rw [if_pos rfl] at this
      rw [this]
      congr 1
      simp; omega
