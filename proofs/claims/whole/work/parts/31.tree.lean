/-! trees as rows in order: children by spans -/
/-- the k-th part in p, by spans -/
def ch (S : Nat → Nat) (p : Nat) : Nat → Nat
  | 0 => p + 1
  | k + 1 => ch S p k + S (ch S p k)
/-- n parts with so many in each (K) and so long spans (S) -/
def T1 (n : Nat) (K S : Nat → Nat) : Prop := ∀ p, p < n → 1 ≤ S p ∧ ch S p (K p) = p + S p ∧ p + S p ≤ n ∧ ∀ k, k < K p → ch S p k < p + S p
theorem ch_gt (S : Nat → Nat) (p : Nat) : ∀ k, p < ch S p k
  | 0 => Nat.lt_succ_self p
  | k + 1 => Nat.lt_of_lt_of_le (ch_gt S p k) (Nat.le_add_right _ _)
theorem ch_step (S : Nat → Nat) (p k : Nat) : ch S p k ≤ ch S p (k + 1) := Nat.le_add_right _ _
theorem ch_mono (S : Nat → Nat) (p : Nat) {j k : Nat} (h : j ≤ k) : ch S p j ≤ ch S p k := by
  induction k with
  | zero =>
    have : j = 0 := by omega
    subst this
    exact Nat.le_refl _
  | succ k ih =>
    by_cases e : j = k + 1
    · subst e; exact Nat.le_refl _
    · exact Nat.le_trans (ih (by omega)) (ch_step S p k)
theorem ch_in {n : Nat} {K S : Nat → Nat} (h : T1 n K S) {p k : Nat} (hp : p < n) (hk : k ≤ K p) : ch S p k ≤ p + S p := by
  rw [← (h p hp).2.1]
  exact ch_mono S p hk
theorem ch_part {n : Nat} {K S : Nat → Nat} (h : T1 n K S) {p j : Nat} (hp : p < n) (hj : j < K p) : ch S p j < n := by
  have h1 := (h p hp).2.2.1
  have h2 := (h p hp).2.2.2 j hj
  omega
theorem ch_inc {n : Nat} {K S : Nat → Nat} (h : T1 n K S) {p j : Nat} (hp : p < n) (hj : j < K p) : ch S p j < ch S p (j + 1) := by
  have := (h _ (ch_part h hp hj)).1
  show ch S p j < ch S p j + S (ch S p j)
  omega
theorem ch_smono {n : Nat} {K S : Nat → Nat} (h : T1 n K S) {p i j : Nat} (hp : p < n) (hij : i < j) (hj : j ≤ K p) : ch S p i < ch S p j := Nat.lt_of_lt_of_le (ch_inc h hp (by omega)) (ch_mono S p hij)
theorem ch_inj {n : Nat} {K S : Nat → Nat} (h : T1 n K S) {p i j : Nat} (hp : p < n) (hi : i ≤ K p) (hj : j ≤ K p) (e : ch S p i = ch S p j) : i = j := by
  rcases Nat.lt_trichotomy i j with q | q | q
  · have := ch_smono h hp q hj; omega
  · exact q
  · have := ch_smono h hp q hi; omega
/-- which part of p a place is in -/
theorem ch_find (S : Nat → Nat) (p x : Nat) : ∀ k, p + 1 ≤ x → x < ch S p k → ∃ j, j < k ∧ ch S p j ≤ x ∧ x < ch S p (j + 1)
  | 0, h1, h2 => by simp only [ch] at h2; omega
  | k + 1, h1, h2 => by
    rcases Nat.lt_or_ge x (ch S p k) with q | q
    · obtain ⟨j, a, b, c⟩ := ch_find S p x k h1 q
      exact ⟨j, by omega, b, c⟩
    · exact ⟨k, by omega, q, h2⟩
theorem ch_find1 {n : Nat} {K S : Nat → Nat} (h : T1 n K S) {p x : Nat} (hp : p < n) (h1 : p < x) (h2 : x < p + S p) : ∃ j, j < K p ∧ ch S p j ≤ x ∧ x < ch S p j + S (ch S p j) := by
  rw [← (h p hp).2.1] at h2
  obtain ⟨j, a, b, c⟩ := ch_find S p x (K p) h1 h2
  exact ⟨j, a, b, c⟩
/-- spans lie in one another or apart -/
theorem lam {n : Nat} {K S : Nat → Nat} (h : T1 n K S) : ∀ (d q r : Nat), S q ≤ d → q < n → q < r → r < q + S q → r + S r ≤ q + S q
  | 0, q, r, hd, hq, h1, h2 => by omega
  | d + 1, q, r, hd, hq, h1, h2 => by
    obtain ⟨j, hj, a, b⟩ := ch_find1 h hq h1 h2
    have hc := ch_in h hq (k := j + 1) (by omega)
    have hc' : ch S q j + S (ch S q j) ≤ q + S q := hc
    have hg := ch_gt S q j
    rcases Nat.lt_or_ge (ch S q j) r with e | e
    · have := lam h d (ch S q j) r (by omega) (ch_part h hq hj) e b
      omega
    · have : r = ch S q j := by omega
      subst this
      exact hc'
theorem lam' {n : Nat} {K S : Nat → Nat} (h : T1 n K S) {q r : Nat} (hq : q < n) (h1 : q < r) (h2 : r < q + S q) : r + S r ≤ q + S q := lam h _ q r (Nat.le_refl _) hq h1 h2
/-- children of another part aren't inside p -/
theorem ch_out {n : Nat} {K S : Nat → Nat} (h : T1 n K S) {x p : Nat} (hx : x < n) (hp : p < n) (hxp : ¬ (p < x ∧ x < p + S p)) (hne : x ≠ p) : ∀ k, k ≤ K x → ¬ (p < ch S x k ∧ ch S x k < p + S p) := by
  intro k hk
  rintro ⟨h1, h2⟩
  have hg := ch_gt S x k
  have hxlt : x < p := by omega
  have key : ∀ k, k ≤ K x → p < ch S x k → p + S p ≤ ch S x k := by
    intro k
    induction k with
    | zero =>
      intro _ h3
      simp only [ch] at h3
      omega
    | succ k ih =>
      intro h4 h5
      have h5' : p < ch S x k + S (ch S x k) := h5
      rcases Nat.lt_or_ge p (ch S x k) with q | q
      · exact Nat.le_trans (ih (by omega) q) (ch_step S x k)
      · rcases Nat.lt_or_ge (ch S x k) p with q2 | q2
        · exact lam' h (ch_part h hx (by omega)) q2 h5'
        · have e : p = ch S x k := by omega
          show p + S p ≤ ch S x k + S (ch S x k)
          rw [← e]
          exact Nat.le_refl _
  have := key k hk h1
  omega
/-- every part but the first is a part of one ahead of it -/
theorem par {n : Nat} {K S : Nat → Nat} (h : T1 n K S) (h0 : 0 + S 0 = n) {j : Nat} (hj : j < n) (hj0 : 0 < j) : ∃ q k, q < j ∧ k < K q ∧ ch S q k = j := by
  have key : ∀ (d q : Nat), S q ≤ d → q < n → q < j → j < q + S q → ∃ q k, q < j ∧ k < K q ∧ ch S q k = j := by
    intro d
    induction d with
    | zero => intro q h1 h2 h3 h4; omega
    | succ d ih =>
      intro q h1 h2 h3 h4
      obtain ⟨i, hi, a, b⟩ := ch_find1 h h2 h3 h4
      have hg := ch_gt S q i
      have hc : ch S q i + S (ch S q i) ≤ q + S q := ch_in h h2 (k := i + 1) (by omega)
      rcases Nat.lt_or_ge (ch S q i) j with e | e
      · exact ih (ch S q i) (by omega) (ch_part h h2 hi) e b
      · exact ⟨q, i, h3, hi, by omega⟩
  exact key _ 0 (Nat.le_refl _) (by omega) hj0 (by omega)
/-- and of one alone -/
theorem par1 {n : Nat} {K S : Nat → Nat} (h : T1 n K S) {q r k j : Nat} (hq : q < n) (hr : r < n) (hk : k < K q) (hj : j < K r) (e : ch S q k = ch S r j) : q = r ∧ k = j := by
  have hqr : q = r := by
    rcases Nat.lt_trichotomy q r with z | z | z
    · exfalso
      have g1 := ch_gt S r j
      have g2 := (h r hr).2.2.2 j hj
      by_cases hin : r < q ∧ q < r + S r
      · omega
      · exact ch_out h hq hr hin (by omega) k (by omega) ⟨by omega, by omega⟩
    · exact z
    · exfalso
      have g1 := ch_gt S q k
      have g2 := (h q hq).2.2.2 k hk
      by_cases hin : q < r ∧ r < q + S q
      · omega
      · exact ch_out h hr hq hin (by omega) j (by omega) ⟨by omega, by omega⟩
  subst hqr
  exact ⟨rfl, ch_inj h hq (by omega) (by omega) e⟩
/-! taking out what is in p (its own row stays) -/
def um (p s x : Nat) : Nat := if x ≤ p then x else x - s
def mp (p s y : Nat) : Nat := if y ≤ p then y else y + s
theorem um_le {p s x : Nat} (h : x ≤ p) : um p s x = x := by unfold um; rw [if_pos h]
theorem um_gt {p s x : Nat} (h : p < x) : um p s x = x - s := by unfold um; rw [if_neg (by omega)]
theorem mp_le {p s x : Nat} (h : x ≤ p) : mp p s x = x := by unfold mp; rw [if_pos h]
theorem mp_gt {p s x : Nat} (h : p < x) : mp p s x = x + s := by unfold mp; rw [if_neg (by omega)]
theorem um_mp (p s y : Nat) : um p s (mp p s y) = y := by
  rcases Nat.lt_or_ge p y with h | h
  · rw [mp_gt h, um_gt (by omega)]; omega
  · rw [mp_le h, um_le h]
theorem mp_um {p s x : Nat} (h : ¬ (p < x ∧ x < p + s + 1)) : mp p s (um p s x) = x := by
  rcases Nat.lt_or_ge p x with h1 | h1
  · rw [um_gt h1, mp_gt (by omega)]; omega
  · rw [um_le h1, mp_le h1]
/-- the spans and the numbers behind it -/
def fS (S : Nat → Nat) (p y : Nat) : Nat := let s := S p - 1; let x := mp p s y; if x ≤ p ∧ p < x + S x then S x - s else S x
def fK (K S : Nat → Nat) (p y : Nat) : Nat := if y = p then 0 else K (mp p (S p - 1) y)
theorem fill_ch {n : Nat} {K S : Nat → Nat} (h : T1 n K S) {p : Nat} (hp : p < n) {x : Nat} (hx : x < n) (hin : ¬ (p < x ∧ x < p + S p)) (hne : x ≠ p) : ∀ k, k ≤ K x → ch (fS S p) (um p (S p - 1) x) k = um p (S p - 1) (ch S x k) := by
  have hs := (h p hp).1
  intro k
  induction k with
  | zero =>
    intro _
    simp only [ch]
    unfold um
    split <;> rename_i h1 <;> split <;> omega
  | succ k ih =>
    intro hk
    have e := ih (by omega)
    have hout := ch_out h hx hp hin hne k (by omega)
    have hmp : mp p (S p - 1) (um p (S p - 1) (ch S x k)) = ch S x k := mp_um (by omega)
    show ch (fS S p) (um p (S p - 1) x) k + fS S p (ch (fS S p) (um p (S p - 1) x) k) = um p (S p - 1) (ch S x k + S (ch S x k))
    rw [e]
    unfold fS
    simp only [hmp]
    have hc := ch_part h hx (show k < K x by omega)
    have hc1 := (h _ hc).1
    split
    · rename_i hh
      rcases Nat.lt_or_ge (ch S x k) p with z | z
      · have := lam' h hc z hh.2
        unfold um
        rw [if_pos hh.1, if_neg (by omega)]
        omega
      · have z2 : ch S x k = p := by omega
        rw [z2]
        unfold um
        rw [if_pos (Nat.le_refl _)]
        split
        · omega
        · omega
    · rename_i hh
      unfold um
      rcases Nat.lt_or_ge p (ch S x k) with z | z
      · rw [if_neg (by omega), if_neg (by omega)]
        omega
      · rw [if_pos z, if_pos (by omega)]
theorem fill_T1 {n : Nat} {K S : Nat → Nat} (h : T1 n K S) {p : Nat} (hp : p < n) : T1 (n - (S p - 1)) (fK K S p) (fS S p) := by
  have hs := h p hp
  intro y hy
  by_cases e : y = p
  · subst e
    have e1 : fS S y y = 1 := by
      unfold fS
      simp only [mp_le (Nat.le_refl y)]
      rw [if_pos ⟨Nat.le_refl _, by omega⟩]
      omega
    have e2 : fK K S y y = 0 := by unfold fK; rw [if_pos rfl]
    rw [e1, e2]
    refine ⟨Nat.le_refl _, rfl, by omega, fun k hk => absurd hk (Nat.not_lt_zero k)⟩
  · obtain ⟨x, hx⟩ : ∃ x, x = mp p (S p - 1) y := ⟨_, rfl⟩
    have hy2 : um p (S p - 1) x = y := by rw [hx, um_mp]
    have hxn : x < n := by
      rw [hx]; unfold mp
      split <;> omega
    have hxin : ¬ (p < x ∧ x < p + S p) := by
      rw [hx]; unfold mp
      split <;> omega
    have hxp : x ≠ p := by
      rw [hx]; unfold mp
      split <;> omega
    have hxs := h x hxn
    have eK : fK K S p y = K x := by unfold fK; rw [if_neg e, ← hx]
    have eS : fS S p y = if x ≤ p ∧ p < x + S x then S x - (S p - 1) else S x := by unfold fS; simp only [← hx]
    have hch := fill_ch h hp hxn hxin hxp
    have hend : um p (S p - 1) (x + S x) = y + fS S p y := by
      rw [eS, ← hy2]
      by_cases hh : x ≤ p ∧ p < x + S x
      · rw [if_pos hh]
        rcases Nat.lt_or_ge x p with z | z
        · have := lam' h hxn z hh.2
          rw [um_gt hh.2, um_le hh.1]
          omega
        · omega
      · rw [if_neg hh]
        rcases Nat.lt_or_ge p x with z | z
        · rw [um_gt (by omega), um_gt z]
          omega
        · rw [um_le (by omega), um_le z]
    refine ⟨?_, ?_, ?_, ?_⟩
    · rw [eS]
      split
      · rename_i hh
        rcases Nat.lt_or_ge x p with z | z
        · have := lam' h hxn z hh.2
          omega
        · omega
      · exact hxs.1
    · rw [eK, ← hy2, hch (K x) (Nat.le_refl _), hxs.2.1, hend, hy2]
    · rw [← hend]
      rcases Nat.lt_or_ge p (x + S x) with z | z
      · rw [um_gt z]; omega
      · rw [um_le z]; omega
    · rw [eK]
      intro k hk
      rw [← hend, ← hy2, hch k (by omega)]
      have h1 := hxs.2.2.2 k hk
      have h2 := ch_out h hxn hp hxin hxp k (by omega)
      have h3 : ¬ (p < x + S x ∧ x + S x < p + S p) := by
        have := ch_out h hxn hp hxin hxp (K x) (Nat.le_refl _)
        rw [hxs.2.1] at this
        exact this
      unfold um
      split <;> rename_i g1 <;> split <;> rename_i g2 <;> omega
