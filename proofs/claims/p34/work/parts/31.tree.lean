/-! trees as rows in order: children by spans -/
/-- the k-th part in p, by spans -/
def ch (S : Nat → Nat) (p : Nat) : Nat → Nat
  | 0 => p + 1
  | k + 1 => ch S p k + S (ch S p k)
/-- n parts with so many in each (K) and so long spans (S) -/
def T1 (n : Nat) (K S : Nat → Nat) : Prop := ∀ p, p < n → 1 ≤ S p ∧ ch S p (K p) = p + S p ∧ p + S p ≤ n ∧ ∀ k, k < K p → ch S p k < p + S p
theorem ch_gt (S : Nat → Nat) (p : Nat) : ∀ k, p < ch S p k
  | 0 => Nat.lt_succ_self p
  | k + 1 => Nat.lt_of_lt_of_le (ch_gt S p k) (Nat.le_add_right _ _)
theorem ch_step (S : Nat → Nat) (p k : Nat) : ch S p k ≤ ch S p (k + 1) := Nat.le_add_right _ _
theorem ch_mono (S : Nat → Nat) (p : Nat) {j k : Nat} (h : j ≤ k) : ch S p j ≤ ch S p k := by
  induction k with
  | zero =>
    have : j = 0 := by omega
    subst this
    exact Nat.le_refl _
  | succ k ih =>
    by_cases e : j = k + 1
    · subst e; exact Nat.le_refl _
    · exact Nat.le_trans (ih (by omega)) (ch_step S p k)
theorem ch_in {n : Nat} {K S : Nat → Nat} (h : T1 n K S) {p k : Nat} (hp : p < n) (hk : k ≤ K p) : ch S p k ≤ p + S p := by
  rw [← (h p hp).2.1]
  exact ch_mono S p hk
theorem ch_part {n : Nat} {K S : Nat → Nat} (h : T1 n K S) {p j : Nat} (hp : p < n) (hj : j < K p) : ch S p j < n := by
  have h1 := (h p hp).2.2.1
  have h2 := (h p hp).2.2.2 j hj
  omega
theorem ch_inc {n : Nat} {K S : Nat → Nat} (h : T1 n K S) {p j : Nat} (hp : p < n) (hj : j < K p) : ch S p j < ch S p (j + 1) := by
  have := (h _ (ch_part h hp hj)).1
  show ch S p j < ch S p j + S (ch S p j)
  omega
theorem ch_smono {n : Nat} {K S : Nat → Nat} (h : T1 n K S) {p i j : Nat} (hp : p < n) (hij : i < j) (hj : j ≤ K p) : ch S p i < ch S p j := Nat.lt_of_lt_of_le (ch_inc h hp (by omega)) (ch_mono S p hij)
theorem ch_inj {n : Nat} {K S : Nat → Nat} (h : T1 n K S) {p i j : Nat} (hp : p < n) (hi : i ≤ K p) (hj : j ≤ K p) (e : ch S p i = ch S p j) : i = j := by
  rcases Nat.lt_trichotomy i j with q | q | q
  · have := ch_smono h hp q hj; omega
  · exact q
  · have := ch_smono h hp q hi; omega
/-- which part of p a place is in -/
theorem ch_find (S : Nat → Nat) (p x : Nat) : ∀ k, p + 1 ≤ x → x < ch S p k → ∃ j, j < k ∧ ch S p j ≤ x ∧ x < ch S p (j + 1)
  | 0, h1, h2 => by simp only [ch] at h2; omega
  | k + 1, h1, h2 => by
    rcases Nat.lt_or_ge x (ch S p k) with q | q
    · obtain ⟨j, a, b, c⟩ := ch_find S p x k h1 q
      exact ⟨j, by omega, b, c⟩
    · exact ⟨k, by omega, q, h2⟩
theorem ch_find1 {n : Nat} {K S : Nat → Nat} (h : T1 n K S) {p x : Nat} (hp : p < n) (h1 : p < x) (h2 : x < p + S p) : ∃ j, j < K p ∧ ch S p j ≤ x ∧ x < ch S p j + S (ch S p j) := by
  rw [← (h p hp).2.1] at h2
  obtain ⟨j, a, b, c⟩ := ch_find S p x (K p) h1 h2
  exact ⟨j, a, b, c⟩
/-- spans lie in one another or apart -/
theorem lam {n : Nat} {K S : Nat → Nat} (h : T1 n K S) : ∀ (d q r : Nat), S q ≤ d → q < n → q < r → r < q + S q → r + S r ≤ q + S q
  | 0, q, r, hd, hq, h1, h2 => by omega
  | d + 1, q, r, hd, hq, h1, h2 => by
    obtain ⟨j, hj, a, b⟩ := ch_find1 h hq h1 h2
    have hc := ch_in h hq (k := j + 1) (by omega)
    have hc' : ch S q j + S (ch S q j) ≤ q + S q := hc
    have hg := ch_gt S q j
    rcases Nat.lt_or_ge (ch S q j) r with e | e
    · have := lam h d (ch S q j) r (by omega) (ch_part h hq hj) e b
      omega
    · have : r = ch S q j := by omega
      subst this
      exact hc'
theorem lam' {n : Nat} {K S : Nat → Nat} (h : T1 n K S) {q r : Nat} (hq : q < n) (h1 : q < r) (h2 : r < q + S q) : r + S r ≤ q + S q := lam h _ q r (Nat.le_refl _) hq h1 h2
/-- children of another part aren't inside p -/
theorem ch_out {n : Nat} {K S : Nat → Nat} (h : T1 n K S) {x p : Nat} (hx : x < n) (hp : p < n) (hxp : ¬ (p < x ∧ x < p + S p)) (hne : x ≠ p) : ∀ k, k ≤ K x → ¬ (p < ch S x k ∧ ch S x k < p + S p) := by
  intro k hk
  rintro ⟨h1, h2⟩
  have hg := ch_gt S x k
  have hxlt : x < p := by omega
  have key : ∀ k, k ≤ K x → p < ch S x k → p + S p ≤ ch S x k := by
    intro k
    induction k with
    | zero =>
      intro _ h3
      simp only [ch] at h3
      omega
    | succ k ih =>
      intro h4 h5
      have h5' : p < ch S x k + S (ch S x k) := h5
      rcases Nat.lt_or_ge p (ch S x k) with q | q
      · exact Nat.le_trans (ih (by omega) q) (ch_step S x k)
      · rcases Nat.lt_or_ge (ch S x k) p with q2 | q2
        · exact lam' h (ch_part h hx (by omega)) q2 h5'
        · have e : p = ch S x k := by omega
          show p + S p ≤ ch S x k + S (ch S x k)
          rw [← e]
          exact Nat.le_refl _
  have := key k hk h1
  omega
/-- every part but the first is a part of one ahead of it -/
theorem par {n : Nat} {K S : Nat → Nat} (h : T1 n K S) (h0 : 0 + S 0 = n) {j : Nat} (hj : j < n) (hj0 : 0 < j) : ∃ q k, q < j ∧ k < K q ∧ ch S q k = j := by
  have key : ∀ (d q : Nat), S q ≤ d → q < n → q < j → j < q + S q → ∃ q k, q < j ∧ k < K q ∧ ch S q k = j := by
    intro d
    induction d with
    | zero => intro q h1 h2 h3 h4; omega
    | succ d ih =>
      intro q h1 h2 h3 h4
      obtain ⟨i, hi, a, b⟩ := ch_find1 h h2 h3 h4
      have hg := ch_gt S q i
      have hc : ch S q i + S (ch S q i) ≤ q + S q := ch_in h h2 (k := i + 1) (by omega)
      rcases Nat.lt_or_ge (ch S q i) j with e | e
      · exact ih (ch S q i) (by omega) (ch_part h h2 hi) e b
      · exact ⟨q, i, h3, hi, by omega⟩
  exact key _ 0 (Nat.le_refl _) (by omega) hj0 (by omega)
/-- and of one alone -/
theorem par1 {n : Nat} {K S : Nat → Nat} (h : T1 n K S) {q r k j : Nat} (hq : q < n) (hr : r < n) (hk : k < K q) (hj : j < K r) (e : ch S q k = ch S r j) : q = r ∧ k = j := by
  have hqr : q = r := by
    rcases Nat.lt_trichotomy q r with z | z | z
    · exfalso
      have g1 := ch_gt S r j
      have g2 := (h r hr).2.2.2 j hj
      by_cases hin : r < q ∧ q < r + S r
      · omega
      · exact ch_out h hq hr hin (by omega) k (by omega) ⟨by omega, by omega⟩
    · exact z
    · exfalso
      have g1 := ch_gt S q k
      have g2 := (h q hq).2.2.2 k hk
      by_cases hin : q < r ∧ r < q + S q
      · omega
      · exact ch_out h hr hq hin (by omega) j (by omega) ⟨by omega, by omega⟩
  subst hqr
  exact ⟨rfl, ch_inj h hq (by omega) (by omega) e⟩
def mp (p s y : Nat) : Nat := if y ≤ p then y else y + s
def fK (K S : Nat → Nat) (p y : Nat) : Nat := if y = p then 0 else K (mp p (S p - 1) y)
