/-! the law's checks, as the class made them -/
theorem cu_done {L : Nat → Nat} {n i : Nat} {c : CT} {s : List Nat} {dg fr rt : Nat} (h : n ≤ i) : cu L n i c s dg fr rt = .inr c := by
  show cbu L n n i c s dg fr rt = _
  rw [cbu_any L n n 0 i c s dg fr rt (by omega) (by omega)]
  rfl
theorem cst_fin (L : Nat → Nat) (i : Nat) : cst L 0 i (cend []) = none := rfl
theorem ctold_one {k lo hi : Nat} (hlo : lo ≤ hi) (hhi : hi ≤ 99) : ∃ c, ctold (gdL (xkl k lo hi)) (xkl k lo hi).length = (nI (xkz k), some c) ∧ XKN c 0 0 0 k lo hi := by
  have hA := gdL_at (xkl k lo hi)
  have h1 := cst_body (gdL (xkl k lo hi)) 0 0 [] (k := k) (lo := lo) (hi := hi) (by omega) hhi hA
  have h1 : cst (gdL (xkl k lo hi)) (xkl k lo hi).length 0 (0, 0, false, []) = none := h1.trans (cst_fin _ _)
  obtain ⟨c', o, kn, e⟩ := cu_body (L := gdL (xkl k lo hi)) (n := (xkl k lo hi).length) (i := 0) (c := c00) (s := []) (dg := 0) (fr := 0) (rt := 0) hlo hhi hA (by omega) (by show 0 + xkz k ≤ 24; unfold xkz; split <;> omega) (fun y hy => by cases hy)
  have e2 : cbu (gdL (xkl k lo hi)) (xkl k lo hi).length (xkl k lo hi).length 0 c00 [] 0 0 0 = .inr c' := e.trans (cu_done (by omega))
  have em : cM c' = xkz k := o.1.trans (Nat.zero_add _)
  exact ⟨c', by rw [ctold_ok h1 e2, em], kn⟩
theorem ctold_rec {fs : List XD} {w : List Nat} (hx : ∀ x ∈ fs, xok x) (hd : ∀ (i j : Nat) (p q : XD), fs[i]? = some p → fs[j]? = some q → xdN p = xdN q → i = j) (hw : dIn fs w) (hM : sumf xfz fs ≤ 20) (hl : fs.length ≤ 20) : ∃ c, ctold (gdL (xrl fs w)) (xrl fs w).length = (nI (1 + sumf xfz fs), some c) ∧ RQ c 0 fs ∧ CE c 0 w := by
  have hA := gdL_at (xrl fs w)
  have h1 := cst_rec (gdL (xrl fs w)) 0 0 [] fs w (fun x h => ⟨(hx x h).1, (hx x h).2.1, by have := hx x h; unfold xok at this; omega, (hx x h).2.2.2.2⟩) (hw.ok hx) hA
  have h1 : cst (gdL (xrl fs w)) (xrl fs w).length 0 (0, 0, false, []) = none := h1.trans (cst_fin _ _)
  obtain ⟨c', I, E, e⟩ := cu_rec (L := gdL (xrl fs w)) (n := (xrl fs w).length) (i := 0) (c0 := c00) (s0 := []) (dg := 0) (fr := 0) (rt := 0) (fun y hy => by cases hy) hx hd hw hA (by omega) (by show 0 + (1 + sumf xfz fs) ≤ 24; omega) hl
  have e2 : cbu (gdL (xrl fs w)) (xrl fs w).length (xrl fs w).length 0 c00 [] 0 0 0 = .inr c' := e.trans (cu_done (by omega))
  have em : cM c' = 1 + sumf xfz fs := I.1.trans (Nat.zero_add _)
  exact ⟨c', by rw [ctold_ok h1 e2, em], I.2.1, E⟩
/-- the letters of "this one, or any number" -/
def xol (fs : List XD) (w : List Nat) : List Nat := 47 :: (xrl fs w ++ [35, 48, 48, 57, 57])
theorem ctold_or {fs : List XD} {w : List Nat} (hx : ∀ x ∈ fs, xok x) (hd : ∀ (i j : Nat) (p q : XD), fs[i]? = some p → fs[j]? = some q → xdN p = xdN q → i = j) (hw : dIn fs w) (hM : sumf xfz fs ≤ 20) (hl : fs.length ≤ 20) : ∃ c, ctold (gdL (xol fs w)) (xol fs w).length = (nI (3 + sumf xfz fs), some c) ∧ RQ c 1 fs ∧ CE c 1 w ∧ cF c 0 0 = 47 ∧ cF c 0 (2 + sumf xfz fs) = 35 := by
  have hA := gdL_at (xol fs w)
  have hlen : (xol fs w).length = 1 + (xrl fs w).length + 5 := by simp [xol]; omega
  obtain ⟨n, en⟩ : ∃ n, n = (xol fs w).length := ⟨_, rfl⟩
  obtain ⟨L, eL⟩ : ∃ L, L = gdL (xol fs w) := ⟨_, rfl⟩
  rw [← eL] at hA ⊢
  rw [← en] at hlen ⊢
  have a0 := hA.head
  have a1 : At L 1 (xrl fs w) := hA.tail.left
  have a2 : At L (1 + (xrl fs w).length) [35, 48 + 0 / 10, 48 + 0 % 10, 48 + 99 / 10, 48 + 99 % 10] := hA.tail.right
  have h1 : cst L n 0 (0, 0, false, []) = none := by
    rw [hlen, show 1 + (xrl fs w).length + 5 = (xrl fs w).length + 5 + 1 by omega, cst_go (by rw [a0]; rfl : cgo (0, 0, false, []) (L 0) = some (0, 0, false, [47]))]
    rw [Nat.zero_add, cst_rec L 5 1 [47] fs w (fun x h => ⟨(hx x h).1, (hx x h).2.1, by have := hx x h; unfold xok at this; omega, (hx x h).2.2.2.2⟩) (hw.ok hx) a1]
    exact (cst_num4 L 0 _ [] (lo := 0) (hi := 99) (by omega) (by omega) a2).trans (cst_fin _ _)
  obtain ⟨c1, e1⟩ : ∃ c1, addC c00 [] 47 0 0 0 0 (clv c00 []) = c1 := ⟨_, rfl⟩
  have o1 : XCO c1 c00 [] 1 := by rw [← e1]; exact XCO_add _ _ _ _ _ _ _ _
  obtain ⟨b0, b1, b2, b3, b4, b5, b10, -⟩ := aC0 c00 [] 47 0 0 0 0 (clv c00 [])
  rw [e1] at b0 b10
  have b0 : cF c1 0 0 = 47 := b0
  have b10 : cF c1 10 0 = 0 := b10
  have m1 : cM c1 = 1 := o1.1
  obtain ⟨c2, I, E, e2⟩ := cu_rec (L := L) (n := n) (i := 1) (c0 := c1) (s0 := [0]) (fs := fs) (w := w) (dg := 0) (fr := 0) (rt := 0) (fun y hy => by rw [List.mem_singleton] at hy; omega) hx hd hw a1 (by omega) (by omega) hl
  rw [m1] at E
  obtain ⟨i1, i2, i3⟩ := I
  rw [m1] at i1 i2 i3
  obtain ⟨t0, t3, t10⟩ := i3 0 (by omega)
  rw [if_pos (show ([0] : List Nat).head? = some 0 from rfl), b10] at t10
  rw [b0] at t0
  have hq : 1 < cM c2 := by omega
  obtain ⟨c3, e3⟩ : ∃ c3, addC c2 [0] 35 0 99 0 0 (clv c2 [0]) = c3 := ⟨_, rfl⟩
  have o3 : XCO c3 c2 [0] 1 := by rw [← e3]; exact XCO_add _ _ _ _ _ _ _ _
  obtain ⟨d0, -⟩ := aC0 c2 [0] 35 0 99 0 0 (clv c2 [0])
  rw [e3] at d0
  obtain ⟨p0, p1, p2, p4, p5, p7, p8, p9, p3, p10⟩ := o3.2.2.2 0 (by omega)
  have e : cu L n 0 c00 [] 0 0 0 = .inr c3 := by
    rw [cu_open (sg := 47) a0 (Or.inr (Or.inl rfl)) (by omega) (by show 0 < 24; omega), e1]
    have e2 : cu L n (0 + 1) c1 (cM c00 :: []) 0 0 0 = cu L n (1 + (xrl fs w).length) c2 (cset c2 [0]) 0 0 0 := e2
    rw [e2, cset_stay (by rw [t10, t0]; decide), cu_num4 (lo := 0) (hi := 99) (by omega) (by omega) a2 (by omega) (by omega), e3]
    exact cu_done (by omega)
  have em : cM c3 = 3 + sumf xfz fs := by rw [o3.1, i1]; omega
  refine ⟨c3, by rw [ctold_ok h1 e, em], i2.co o3 (fun y hy => by rw [List.mem_singleton] at hy; omega), E.co o3 hq, p0.trans t0, ?_⟩
  rw [show 2 + sumf xfz fs = cM c2 by omega]
  exact d0
