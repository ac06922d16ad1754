/-! leaving a part out -/
def mq (r s y : Nat) : Nat := if y < r then y else y + s
theorem mq_lt {r s y : Nat} (h : y < r) : mq r s y = y := by unfold mq; rw [if_pos h]
theorem mq_ge {r s y : Nat} (h : r ≤ y) : mq r s y = y + s := by unfold mq; rw [if_neg (by omega)]
theorem um_mq {r s y : Nat} (hs : 1 ≤ s) : um r s (mq r s y) = y := by
  rcases Nat.lt_or_ge y r with h | h
  · rw [mq_lt h, um_le (by omega)]
  · rw [mq_ge h, um_gt (by omega)]; omega
theorem mq_um {r s x : Nat} (h : ¬ (r < x ∧ x < r + s)) (hne : x ≠ r) : mq r s (um r s x) = x := by
  rcases Nat.lt_or_ge r x with h1 | h1
  · rw [um_gt h1, mq_ge (by omega)]; omega
  · rw [um_le h1, mq_lt (by omega)]
def oS (S : Nat → Nat) (r y : Nat) : Nat := let s := S r; let x := mq r s y; if x < r ∧ r < x + S x then S x - s else S x
def oK (K S : Nat → Nat) (r P y : Nat) : Nat := if y = P then K P - 1 else K (mq r (S r) y)
theorem oS_um {S : Nat → Nat} {r x : Nat} (h : ¬ (r < x ∧ x < r + S r)) (hne : x ≠ r) : oS S r (um r (S r) x) = if x < r ∧ r < x + S x then S x - S r else S x := by
  unfold oS
  simp only [mq_um h hne]
theorem oS_end {n : Nat} {K S : Nat → Nat} (h : T1 n K S) {r : Nat} (hr : r < n) {x : Nat} (hx : x < n) (hin : ¬ (r < x ∧ x < r + S r)) (hne : x ≠ r) : um r (S r) x + oS S r (um r (S r) x) = um r (S r) (x + S x) := by
  have hs := (h r hr).1
  rw [oS_um hin hne]
  by_cases hh : x < r ∧ r < x + S x
  · rw [if_pos hh]
    have := lam' h hx hh.1 hh.2
    rw [um_le (by omega), um_gt hh.2]
    omega
  · rw [if_neg hh]
    rcases Nat.lt_or_ge r x with z | z
    · rw [um_gt z, um_gt (by omega)]
      omega
    · rw [um_le z, um_le (by omega)]
/-- the children of a part that isn't the one's own holder -/
theorem out_ch {n : Nat} {K S : Nat → Nat} (h : T1 n K S) {r P j : Nat} (hr : r < n) (hP : P < n) (hj : j < K P) (hPr : ch S P j = r) {x : Nat} (hx : x < n) (hin : ¬ (r < x ∧ x < r + S r)) (hne : x ≠ r) (hxP : x ≠ P) : ∀ k, k ≤ K x → ch (oS S r) (um r (S r) x) k = um r (S r) (ch S x k) := by
  have hs := (h r hr).1
  intro k
  induction k with
  | zero =>
    intro _
    simp only [ch]
    rcases Nat.lt_or_ge r x with z | z
    · rw [um_gt z, um_gt (by omega)]; omega
    · rw [um_le z, um_le (by omega)]
  | succ k ih =>
    intro hk
    have e := ih (by omega)
    have hout := ch_out h hx hr hin hne k (by omega)
    have hcn := ch_part h hx (show k < K x by omega)
    have hcr : ch S x k ≠ r := fun z => hxP (par1 h hx hP (by omega) hj (z.trans hPr.symm)).1
    show ch (oS S r) (um r (S r) x) k + oS S r (ch (oS S r) (um r (S r) x) k) = um r (S r) (ch S x k + S (ch S x k))
    rw [e]
    exact oS_end h hr hcn hout hcr
/-- the children of its holder: ahead of it, and behind it -/
theorem out_chP {n : Nat} {K S : Nat → Nat} (h : T1 n K S) {r P j : Nat} (hr : r < n) (hP : P < n) (hj : j < K P) (hPr : ch S P j = r) : (∀ k, k ≤ j → ch (oS S r) P k = ch S P k) ∧ ∀ k, j < k → k ≤ K P → ch (oS S r) P (k - 1) = um r (S r) (ch S P k) := by
  have hs := (h r hr).1
  have hPlt : P < r := by have := ch_gt S P j; omega
  have hPe := (h P hP).2.2.2 j hj
  have h1 : ∀ k, k ≤ j → ch (oS S r) P k = ch S P k := by
    intro k
    induction k with
    | zero => intro _; rfl
    | succ k ih =>
      intro hk
      have e := ih (by omega)
      have hlt : ch S P k < r := by rw [← hPr]; exact ch_smono h hP (by omega) (by omega)
      have hle : ch S P k + S (ch S P k) ≤ r := by
        rw [← hPr]
        exact ch_mono S P (show k + 1 ≤ j by omega)
      show ch (oS S r) P k + oS S r (ch (oS S r) P k) = ch S P k + S (ch S P k)
      rw [e]
      have := oS_end h hr (ch_part h hP (show k < K P by omega)) (by omega) (by omega)
      rw [um_le (by omega), um_le hle] at this
      exact this
  refine ⟨h1, ?_⟩
  intro k
  induction k with
  | zero => intro hk; omega
  | succ k ih =>
    intro hk hkK
    rcases Nat.lt_or_ge j k with z | z
    · have e := ih z (by omega)
      have hgt : r < ch S P k := by rw [← hPr]; exact ch_smono h hP z (by omega)
      have hge : r + S r ≤ ch S P k := by
        have : ch S P (j + 1) ≤ ch S P k := ch_mono S P (by omega)
        have e2 : ch S P (j + 1) = ch S P j + S (ch S P j) := rfl
        rw [hPr] at e2
        omega
      have := oS_end h hr (ch_part h hP (show k < K P by omega)) (by omega) (by omega)
      have hk1 : k + 1 - 1 = (k - 1) + 1 := by omega
      rw [hk1]
      show ch (oS S r) P (k - 1) + oS S r (ch (oS S r) P (k - 1)) = um r (S r) (ch S P k + S (ch S P k))
      rw [e]
      exact this
    · have : k = j := by omega
      subst this
      have e2 : ch S P (k + 1) = r + S r := by
        show ch S P k + S (ch S P k) = r + S r
        rw [hPr]
      rw [Nat.add_sub_cancel, h1 k (Nat.le_refl _), hPr, e2, um_gt (by omega)]
      omega
theorem out_T1 {n : Nat} {K S : Nat → Nat} (h : T1 n K S) {r P j : Nat} (hr : r < n) (hP : P < n) (hj : j < K P) (hPr : ch S P j = r) : T1 (n - S r) (oK K S r P) (oS S r) := by
  have hs := h r hr
  have hPlt : P < r := by have := ch_gt S P j; omega
  have hPe := (h P hP).2.2.2 j hj
  rw [hPr] at hPe
  have hPl := lam' h hP hPlt hPe
  intro y hy
  by_cases e : y = P
  · subst e
    obtain ⟨c1, c2⟩ := out_chP h hr hP hj hPr
    have eK : oK K S r y y = K y - 1 := by unfold oK; rw [if_pos rfl]
    have eS : oS S r y = S y - S r := by
      have := oS_um (S := S) (r := r) (x := y) (by omega) (by omega)
      rw [um_le (by omega)] at this
      rw [this, if_pos ⟨hPlt, hPe⟩]
    have hy3 := h y hP
    have hend : ch (oS S r) y (K y - 1) = y + (S y - S r) := by
      rw [c2 (K y) (by omega) (Nat.le_refl _), hy3.2.1, um_gt (by omega)]
      omega
    refine ⟨by rw [eS]; omega, by rw [eK, eS]; exact hend, by rw [eS]; omega, ?_⟩
    rw [eK, eS]
    intro k hk
    rcases Nat.lt_or_ge k j with z | z
    · rw [c1 k (by omega)]
      have : ch S y k < r := by rw [← hPr]; exact ch_smono h hP z (by omega)
      omega
    · have e3 : k = (k + 1) - 1 := by omega
      have hgt : r < ch S y (k + 1) := by rw [← hPr]; exact ch_smono h hP (by omega) (by omega)
      have hge : r + S r ≤ ch S y (k + 1) := by
        have a : ch S y (j + 1) ≤ ch S y (k + 1) := ch_mono S y (by omega)
        have e2 : ch S y (j + 1) = ch S y j + S (ch S y j) := rfl
        rw [hPr] at e2
        omega
      have hlt := hy3.2.2.2 (k + 1) (by omega)
      rw [e3, c2 (k + 1) (by omega) (by omega), um_gt hgt]
      omega
  · obtain ⟨x, hx⟩ : ∃ x, x = mq r (S r) y := ⟨_, rfl⟩
    have hy2 : um r (S r) x = y := by rw [hx, um_mq hs.1]
    have hcase : (y < r ∧ x = y) ∨ (r ≤ y ∧ x = y + S r) := by
      rcases Nat.lt_or_ge y r with z | z
      · exact Or.inl ⟨z, by rw [hx, mq_lt z]⟩
      · exact Or.inr ⟨z, by rw [hx, mq_ge z]⟩
    have hxn : x < n := by omega
    have hxin : ¬ (r < x ∧ x < r + S r) := by omega
    have hxr : x ≠ r := by omega
    have hxP : x ≠ P := by omega
    have hxs := h x hxn
    have eK : oK K S r P y = K x := by unfold oK; rw [if_neg e, ← hx]
    have hch := out_ch h hr hP hj hPr hxn hxin hxr hxP
    have hend : y + oS S r y = um r (S r) (x + S x) := by
      have := oS_end h hr hxn hxin hxr
      rw [hy2] at this
      exact this
    have hpos : 1 ≤ oS S r y := by
      have := oS_um hxin hxr
      rw [hy2] at this
      rw [this]
      split
      · rename_i hh
        have := lam' h hxn hh.1 hh.2
        omega
      · exact hxs.1
    refine ⟨hpos, ?_, ?_, ?_⟩
    · rw [eK, ← hy2, hch (K x) (Nat.le_refl _), hxs.2.1, hy2, hend]
    · rw [hend]
      rcases Nat.lt_or_ge r (x + S x) with z | z
      · rw [um_gt z]; omega
      · rw [um_le z]; omega
    · rw [eK]
      intro k hk
      rw [hend, ← hy2, hch k (by omega)]
      have h1 := hxs.2.2.2 k hk
      have h2 := ch_out h hxn hr hxin hxr k (by omega)
      have h3 : ¬ (r < x + S x ∧ x + S x < r + S r) := by
        have := ch_out h hxn hr hxin hxr (K x) (Nat.le_refl _)
        rw [hxs.2.1] at this
        exact this
      have h4 : ch S x k ≠ r := fun z => hxP (par1 h hxn hP hk hj (z.trans hPr.symm)).1
      rcases Nat.lt_or_ge r (ch S x k) with g1 | g1
      · rw [um_gt g1, um_gt (by omega)]; omega
      · rw [um_le g1]
        rcases Nat.lt_or_ge r (x + S x) with g2 | g2
        · rw [um_gt g2]; omega
        · rw [um_le g2]; omega
