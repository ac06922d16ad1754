/-! small facts for the pure side -/
theorem lit (n : Nat) : (OfNat.ofNat n : Int32) = nI n := rfl
theorem up_self (σ : sS) (a k : Nat) (x : Int32) : up σ a k x a k = x := by simp [up, upd]
theorem up_other (σ : sS) {a k c i : Nat} (x : Int32) (h : c ≠ a ∨ i ≠ k) : up σ a k x c i = σ c i := by
  unfold up
  by_cases hc : c = a
  · subst hc
    rcases h with h | h
    · exact absurd rfl h
    · simp [upd, h]
  · simp [hc]
theorem up_cell (σ : sS) {a k c : Nat} (x : Int32) (h : c ≠ a) : up σ a k x c = σ c := by simp [up, h]
theorem upA_cell (σ : sS) {a c : Nat} (f : Nat → Int32) (h : c ≠ a) : upA σ a f c = σ c := by simp [upA, h]
theorem upA_self (σ : sS) (a : Nat) (f : Nat → Int32) : upA σ a f a = f := by simp [upA]
theorem rd_nI {σ : sS} {a n i : Nat} (h : i < n) (hn : n < 2 ^ 31) : rd σ a n (nI i) = σ a i := by
  unfold rd
  have h1 : ¬ nI i < 0 := nI_pos (by omega)
  have h2 : (nI i).toNatClampNeg = i := nI_clamp (by omega)
  rw [if_neg h1, h2, if_neg (by omega)]
theorem wr_nI {σ : sS} {a n i : Nat} {v : Int32} (h : i < n) (hn : n < 2 ^ 31) : wr σ a n (nI i) v = up σ a i v := by
  unfold wr
  have h1 : ¬ nI i < 0 := nI_pos (by omega)
  have h2 : (nI i).toNatClampNeg = i := nI_clamp (by omega)
  rw [if_neg h1, h2, if_neg (by omega)]
theorem i32_eq {a b : Nat} (ha : a < 2 ^ 31) (hb : b < 2 ^ 31) : nI a = nI b ↔ a = b := nI_eq ha hb
theorem i32_lt {a b : Nat} (ha : a < 2 ^ 31) (hb : b < 2 ^ 31) : nI a < nI b ↔ a < b := nI_ltI ha hb
theorem nI_s1 (a : Nat) : nI a + 1 = nI (a + 1) := nI_1 a
theorem nI_inj' {a b : Nat} (h : nI a = nI b) (ha : a < 2 ^ 31) (hb : b < 2 ^ 31) : a = b := (nI_eq ha hb).mp h
theorem nI_subm {a b : Nat} (h : b ≤ a) : nI a - nI b = nI (a - b) := pk_sub h
/-- the first place of a kind, below an end; the end if there is none -/
def fst_ (p : Nat → Bool) : Nat → Nat → Nat
  | 0, i => i
  | n + 1, i => if p i then i else fst_ p n (i + 1)
theorem fst_at (p : Nat → Bool) : ∀ n i, fst_ p n i < i + n → p (fst_ p n i) = true
  | 0, i, h => by simp [fst_] at h
  | n + 1, i, h => by
    unfold fst_ at h ⊢
    split
    · assumption
    · rename_i hp
      rw [if_neg hp] at h
      exact fst_at p n (i + 1) (by omega)
theorem fst_no (p : Nat → Bool) : ∀ n i j, i ≤ j → j < fst_ p n i → p j = false
  | 0, i, j, h1, h2 => by simp [fst_] at h2; omega
  | n + 1, i, j, h1, h2 => by
    unfold fst_ at h2
    split at h2
    · omega
    · rename_i hp
      by_cases e : j = i
      · subst e
        simpa using hp
      · exact fst_no p n (i + 1) j (by omega) h2
/-- different places in a small room are few -/
theorem fb_holes' : ∀ (m n : Nat) (f : Nat → Nat), (∀ i, i < n → f i < m) → (∀ i j, i < n → j < n → i < j → f i ≠ f j) → n ≤ m
  | 0, n, f, h, _ => by
    rcases Nat.eq_zero_or_pos n with q | q
    · omega
    · exact absurd (h 0 q) (Nat.not_lt_zero _)
  | m + 1, 0, f, _, _ => Nat.zero_le _
  | m + 1, n + 1, f, h, hi => by
    have := fb_holes' m n (fun i => if f i < f n then f i else f i - 1) (fun i hn => by
      have h1 := h i (by omega)
      have h2 := h n (by omega)
      have h3 := hi i n (by omega) (by omega) hn
      show (if f i < f n then f i else f i - 1) < m
      split <;> omega) (fun i j hi1 hj1 hij => by
      have h1 := hi i j (by omega) (by omega) hij
      have h3 := hi i n (by omega) (by omega) hi1
      have h4 := hi j n (by omega) (by omega) hj1
      show (if f i < f n then f i else f i - 1) ≠ (if f j < f n then f j else f j - 1)
      split <;> split <;> omega)
    omega
