/-! how many faults there can be -/
def sumN (f : Nat → Nat) : Nat → Nat
  | 0 => 0
  | n + 1 => sumN f n + f n
theorem sumN_le {f g : Nat → Nat} : ∀ n, (∀ i, i < n → f i ≤ g i) → sumN f n ≤ sumN g n
  | 0, _ => Nat.le_refl _
  | n + 1, h => Nat.add_le_add (sumN_le n fun i hi => h i (by omega)) (h n (by omega))
theorem sumN_eq {f g : Nat → Nat} : ∀ n, (∀ i, i < n → f i = g i) → sumN f n = sumN g n
  | 0, _ => rfl
  | n + 1, h => by
    show sumN f n + f n = sumN g n + g n
    rw [sumN_eq n fun i hi => h i (by omega), h n (by omega)]
theorem sumN_add (f g : Nat → Nat) : ∀ n, sumN (fun i => f i + g i) n = sumN f n + sumN g n
  | 0 => rfl
  | n + 1 => by
    show sumN (fun i => f i + g i) n + (f n + g n) = sumN f n + f n + (sumN g n + g n)
    rw [sumN_add f g n]
    omega
theorem sumN_0 : ∀ n, sumN (fun _ => 0) n = 0
  | 0 => rfl
  | n + 1 => sumN_0 n
theorem sumN_1 : ∀ n, sumN (fun _ => 1) n = n
  | 0 => rfl
  | n + 1 => by show sumN (fun _ => 1) n + 1 = n + 1; rw [sumN_1 n]
theorem sumN_mono (f : Nat → Nat) {a b : Nat} (h : a ≤ b) : sumN f a ≤ sumN f b := by
  induction b with
  | zero =>
    have : a = 0 := by omega
    subst this
    exact Nat.le_refl _
  | succ b ih =>
    by_cases e : a = b + 1
    · subst e; exact Nat.le_refl _
    · exact Nat.le_trans (ih (by omega)) (Nat.le_add_right _ _)
theorem sumN_one (f : Nat → Nat) {x n : Nat} (h : x < n) : f x ≤ sumN f n := by
  have h1 := sumN_mono f (show x + 1 ≤ n by omega)
  have h2 : sumN f (x + 1) = sumN f x + f x := rfl
  omega
theorem sumN_take (f : Nat → Nat) {x : Nat} : ∀ n, x < n → sumN (fun j => if j = x then 0 else f j) n + f x = sumN f n
  | 0, h => absurd h (Nat.not_lt_zero _)
  | n + 1, h => by
    show sumN (fun j => if j = x then 0 else f j) n + (if n = x then 0 else f n) + f x = sumN f n + f n
    by_cases e : n = x
    · subst e
      rw [if_pos rfl, sumN_eq (g := f) n (fun i hi => if_neg (by omega))]
      omega
    · rw [if_neg e]
      have := sumN_take (x := x) f n (by omega)
      omega
theorem sumN_inj : ∀ (K : Nat) (F : Nat → Nat) (g : Nat → Nat) (m : Nat), (∀ i, i < K → g i < m) → (∀ i j, i < K → j < K → g i = g j → i = j) → sumN (fun i => F (g i)) K ≤ sumN F m
  | 0, F, g, m, _, _ => Nat.zero_le _
  | K + 1, F, g, m, h, hi => by
    have h1 := sumN_inj K (fun j => if j = g K then 0 else F j) g m (fun i hi => h i (by omega)) (fun i j a b e => hi i j (by omega) (by omega) e)
    have h2 := sumN_take F m (h K (by omega))
    have h1 : sumN (fun i => if g i = g K then 0 else F (g i)) K ≤ sumN (fun j => if j = g K then 0 else F j) m := h1
    have h3 : sumN (fun i => F (g i)) K = sumN (fun i => if g i = g K then 0 else F (g i)) K := sumN_eq K (fun i hi2 => by
      show F (g i) = if g i = g K then 0 else F (g i)
      rw [if_neg (fun e => by have := hi i K (by omega) (by omega) e; omega)])
    show sumN (fun i => F (g i)) K + F (g K) ≤ sumN F m
    rw [h3]
    omega
theorem sumN_swap (a : Nat → Nat → Nat) (K : Nat) : ∀ m, sumN (fun d => sumN (fun j => a d j) K) m = sumN (fun j => sumN (fun d => a d j) m) K
  | 0 => (sumN_0 K).symm
  | m + 1 => by
    show sumN (fun d => sumN (fun j => a d j) K) m + sumN (fun j => a m j) K = sumN (fun j => sumN (fun d => a d j) m + a m j) K
    rw [sumN_swap a K m, sumN_add]
theorem sumN_pick (x b : Nat) : ∀ m, x < m → sumN (fun d => if x = d then b else 0) m = b
  | 0, h => absurd h (Nat.not_lt_zero _)
  | m + 1, h => by
    show sumN (fun d => if x = d then b else 0) m + (if x = m then b else 0) = b
    by_cases e : x = m
    · subst e
      rw [if_pos rfl, sumN_eq (g := fun _ => 0) x (fun i hi => if_neg (by omega)), sumN_0]
      omega
    · rw [if_neg e, sumN_pick x b m (by omega)]
      rfl
theorem sumN_most1 (f : Nat → Nat) (d : Nat) : ∀ K, (∀ i j, i < K → j < K → f i = f j → i = j) → sumN (fun j => if f j = d then 1 else 0) K ≤ 1
  | 0, _ => Nat.zero_le _
  | K + 1, h => by
    show sumN (fun j => if f j = d then 1 else 0) K + (if f K = d then 1 else 0) ≤ 1
    by_cases e : f K = d
    · rw [if_pos e, sumN_eq (g := fun _ => 0) K (fun i hi => if_neg (fun z => by have := h i K (by omega) (by omega) (by omega); omega)), sumN_0]
      omega
    · rw [if_neg e]
      exact sumN_most1 f d K (fun i j a b => h i j (by omega) (by omega))
theorem sumN_less {f g : Nat → Nat} {n j : Nat} (hj : j < n) (h : ∀ i, i < n → f i ≤ g i) (h1 : f j + 1 ≤ g j) : sumN f n + 1 ≤ sumN g n := by
  have a := sumN_take f n hj
  have b := sumN_take g n hj
  have c : sumN (fun i => if i = j then 0 else f i) n ≤ sumN (fun i => if i = j then 0 else g i) n := sumN_le n (fun i hi => by
    show (if i = j then 0 else f i) ≤ (if i = j then 0 else g i)
    split
    · exact Nat.le_refl _
    · exact h i hi)
  omega
theorem sumN_span {v : VT} (w : WFV v) {p : Nat} (hp : p < v.1) : sumN (fun j => v.2 4 (kch v p j)) (v.2 2 p) + 1 = v.2 4 p := by
  have key : ∀ k, k ≤ v.2 2 p → sumN (fun j => v.2 4 (kch v p j)) k + (p + 1) = kch v p k := by
    intro k
    induction k with
    | zero => intro _; show 0 + (p + 1) = p + 1; omega
    | succ k ih =>
      intro hk
      have := ih (by omega)
      show sumN (fun j => v.2 4 (kch v p j)) k + v.2 4 (kch v p k) + (p + 1) = kch v p k + v.2 4 (kch v p k)
      omega
  have h1 := key _ (Nat.le_refl _)
  have h2 : kch v p (v.2 2 p) = p + v.2 4 p := (w.2.2.1 p hp).2.1
  omega
theorem sumN_mul (a : Nat) (f : Nat → Nat) : ∀ n, sumN (fun j => a * f j) n = a * sumN f n
  | 0 => rfl
  | n + 1 => by
    show sumN (fun j => a * f j) n + a * f n = a * (sumN f n + f n)
    rw [sumN_mul a f n, Nat.mul_add]
theorem foldR_len (g : Nat → List Nat × Nat) : ∀ n, (foldR g n).1.length = sumN (fun k => (g k).1.length) n
  | 0 => rfl
  | n + 1 => by
    show ((foldR g n).1 ++ (g n).1).length = _
    rw [List.length_append, foldR_len g n]
    rfl
/-- of a digit of a record: what its part may have in faults; 1 if there is none -/
def dgF (v : VT) (p d : Nat) : Nat := match kidO v p d with
  | some x => 6 * v.2 4 x
  | none => if 1 ≤ d then 1 else 0
theorem dgF_sum {v : VT} (w : WFV v) {p : Nat} (hp : p < v.1) (h2 : v.2 0 p = 2) : sumN (dgF v p) 6 + v.2 2 p ≤ 6 * (v.2 4 p - 1) + 5 := by
  have kd := fun k (hk : k < v.2 2 p) => ((w.2.2.2.2.2.2.2 p hp).2.2.2.2.2.2 k hk).2.1 h2
  have hone : ∀ i j, i < v.2 2 p → j < v.2 2 p → v.2 3 (kch v p i) = v.2 3 (kch v p j) → i = j := fun i j hi hj e => w.dig1 hp hi hj e
  have pt : ∀ d, d < 6 → dgF v p d + sumN (fun j => if v.2 3 (kch v p j) = d then 1 else 0) (v.2 2 p) ≤ sumN (fun j => if v.2 3 (kch v p j) = d then 6 * v.2 4 (kch v p j) else 0) (v.2 2 p) + (if 1 ≤ d then 1 else 0) := by
    intro d hd
    have c1 := sumN_most1 (fun j => v.2 3 (kch v p j)) d (v.2 2 p) hone
    unfold dgF
    cases hk : kidO v p d with
    | some x =>
      obtain ⟨k, hk1, rfl, e⟩ := kidO_some w hp (by omega) hk
      have := sumN_one (fun j => if v.2 3 (kch v p j) = d then 6 * v.2 4 (kch v p j) else 0) hk1
      simp only [if_pos e] at this
      have hd1 := kd k hk1
      rw [if_pos (by omega)]
      show 6 * v.2 4 (kch v p k) + _ ≤ _
      omega
    | none =>
      have c0 : sumN (fun j => if v.2 3 (kch v p j) = d then 1 else 0) (v.2 2 p) = 0 := by
        rw [sumN_eq (g := fun _ => 0) (v.2 2 p) (fun i hi => if_neg (fun z => by
          have := kidO_eq w hp hi
          rw [z, hk] at this
          cases this)), sumN_0]
      rw [c0]
      show (if 1 ≤ d then 1 else 0) + 0 ≤ _
      omega
  have s1 := sumN_le (f := fun d => dgF v p d + sumN (fun j => if v.2 3 (kch v p j) = d then 1 else 0) (v.2 2 p)) (g := fun d => sumN (fun j => if v.2 3 (kch v p j) = d then 6 * v.2 4 (kch v p j) else 0) (v.2 2 p) + (if 1 ≤ d then 1 else 0)) 6 pt
  rw [sumN_add, sumN_add, sumN_swap (fun d j => if v.2 3 (kch v p j) = d then 1 else 0), sumN_swap (fun d j => if v.2 3 (kch v p j) = d then 6 * v.2 4 (kch v p j) else 0)] at s1
  rw [sumN_eq (f := fun j => sumN (fun d => if v.2 3 (kch v p j) = d then 1 else 0) 6) (g := fun _ => 1) (v.2 2 p) (fun i hi => sumN_pick _ _ 6 (by have := kd i hi; omega)), sumN_1] at s1
  rw [sumN_eq (f := fun j => sumN (fun d => if v.2 3 (kch v p j) = d then 6 * v.2 4 (kch v p j) else 0) 6) (g := fun j => 6 * v.2 4 (kch v p j)) (v.2 2 p) (fun i hi => sumN_pick _ _ 6 (by have := kd i hi; omega)), sumN_mul] at s1
  have s2 := sumN_span w hp
  have s3 : sumN (fun d => if 1 ≤ d then 1 else 0) 6 = 5 := rfl
  have s4 : sumN (dgF v p) 6 = sumN (fun d => dgF v p d) 6 := rfl
  omega
/-! the dependent ones find one for each part at most -/
theorem anyB_app (L M : List Nat) (b : Nat) : anyB (L ++ M) b = (anyB L b || anyB M b) := by
  unfold anyB
  rw [List.any_append]
theorem blw_self (n b : Nat) : blw n b b = true := by
  cases n with
  | zero => show decide (b = b) = true; simp
  | succ n =>
    show (if b < b then _ else decide (b = b)) = true
    rw [if_neg (Nat.lt_irrefl b)]
    simp
theorem anyB_one {x b : Nat} (h : x / 100 = b) : anyB [x] b = true := by
  unfold anyB
  rw [List.any_cons, h, blw_self]
  rfl
def psi (v : VT) (p : Nat) (L : List Nat) : Nat := sumN (fun j => if anyB L (v.2 5 (kch v p j)) then 0 else 1) (v.2 2 p)
theorem psi_le (v : VT) (p : Nat) (L : List Nat) : psi v p L ≤ v.2 2 p := by
  have := sumN_le (f := fun j => if anyB L (v.2 5 (kch v p j)) then 0 else 1) (g := fun _ => 1) (v.2 2 p) (fun i _ => by
    show (if _ then 0 else 1) ≤ 1
    split <;> omega)
  rw [sumN_1] at this
  exact this
theorem psi_app {v : VT} {p : Nat} {L : List Nat} {j x : Nat} (hj : j < v.2 2 p) (hx : x / 100 = v.2 5 (kch v p j)) (h : anyB L (v.2 5 (kch v p j)) = false) : psi v p (L ++ [x]) + 1 ≤ psi v p L := by
  refine sumN_less hj (fun i _ => ?_) ?_
  · rw [anyB_app]
    cases anyB L (v.2 5 (kch v p i)) with
    | true => exact Nat.le_refl _
    | false =>
      cases anyB [x] (v.2 5 (kch v p i)) with
      | true => exact Nat.zero_le _
      | false => exact Nat.le_refl _
  · rw [anyB_app, h, anyB_one hx]
    exact Nat.le_refl _
theorem dep1_len {c : CT} {v : VT} (w : WFV v) {p : Nat} (hp : p < v.1) (s : List Nat × Nat) (u : Nat) : (dep1 c v p s u).1.length + psi v p (dep1 c v p s u).1 ≤ s.1.length + psi v p s.1 := by
  unfold dep1
  split
  · rename_i a b ha hb
    obtain ⟨k, hk, rfl, e⟩ := kidO_nI w hp hb
    split
    · exact Nat.le_refl _
    · rename_i hn
      have hn : (anyB s.1 (v.2 5 a) || anyB s.1 (v.2 5 (kch v p k))) = false := by simpa using hn
      have hn2 : anyB s.1 (v.2 5 (kch v p k)) = false := (Bool.or_eq_false_iff.mp hn).2
      split
      · split
        · exact Nat.le_refl _
        · have := psi_app (x := 100 * v.2 5 (kch v p k) + 8) hk (by omega) hn2
          show (s.1 ++ [100 * v.2 5 (kch v p k) + 8]).length + psi v p (s.1 ++ [100 * v.2 5 (kch v p k) + 8]) ≤ _
          rw [List.length_append]
          show s.1.length + 1 + _ ≤ _
          omega
      · split
        · exact Nat.le_refl _
        · have := psi_app (x := 100 * v.2 5 (kch v p k) + 9) hk (by omega) hn2
          show (s.1 ++ [100 * v.2 5 (kch v p k) + 9]).length + psi v p (s.1 ++ [100 * v.2 5 (kch v p k) + 9]) ≤ _
          rw [List.length_append]
          show s.1.length + 1 + _ ≤ _
          omega
  · exact Nat.le_refl _
theorem depK_len {c : CT} {v : VT} (w : WFV v) {p : Nat} (hp : p < v.1) (f : Nat) (s : List Nat × Nat) : ∀ k, (depK c v p f s k).1.length + psi v p (depK c v p f s k).1 ≤ s.1.length + psi v p s.1
  | 0 => Nat.le_refl _
  | k + 1 => Nat.le_trans (dep1_len w hp _ _) (depK_len w hp f s k)
/-! the fields of a record by a check of a record -/
theorem fld_sum {c : CT} (wc : WFC c) {v : VT} (w : WFV v) {q p : Nat} (hq : q < cM c) (hs : cF c 0 q = 123) (hp : p < v.1) (h2 : v.2 0 p = 2) (look : Nat → Nat → List Nat × Nat) (hl : ∀ r x, r < cM c → x < v.1 → (look r x).1.length ≤ 6 * v.2 4 x) :
    ((∀ k, k ≤ cF c 10 q → (foldR (fldK look c v q p) k).1.length + (strL c v q p (v.2 2 p)).1.length + v.2 2 p ≤ 6 * (v.2 4 p - 1) + 5) ∧ ∀ k x, k < cF c 10 q → kidO v p (cF c 4 (cch c q k)) = some x → (foldR (fldK look c v q p) k).1.length + 6 * v.2 4 x ≤ 6 * (v.2 4 p - 1) + 5) := by
  obtain ⟨f1, f2, f3, f4, f5, f6, f7, f8, f9, f10⟩ := wc.2.2.2.2.2.2.2.1 q hq
  have dgk := fun k (hk : k < cF c 10 q) => (f10 k hk).2 hs
  have dg5 : ∀ k, k < cF c 10 q → cF c 4 (cch c q k) < 6 := fun k hk => by
    have := (wc.2.2.2.2.2.2.2.1 _ (ch_part wc.2.2.2.2.1 hq hk)).2.2.2.1
    show cF c 4 (ch (cF c 3) q k) < 6
    omega
  have kd := fun k (hk : k < v.2 2 p) => ((w.2.2.2.2.2.2.2 p hp).2.2.2.2.2.2 k hk).2.1 h2
  have hd := dgF_sum w hp h2
  have fl : ∀ k, k < cF c 10 q → (fldK look c v q p k).1.length ≤ dgF v p (cF c 4 (cch c q k)) := by
    intro k hk
    unfold fldK dgF
    cases hx : kidO v p (cF c 4 (cch c q k)) with
    | some x =>
      obtain ⟨j, hj, rfl, -⟩ := kidO_nI w hp hx
      exact hl _ _ (ch_part wc.2.2.2.2.1 hq hk) (w.kchlt hp hj).2
    | none =>
      have := (dgk k hk).1
      show (if cF c 5 (cch c q k) = 0 then _ else _ : List Nat × Nat).1.length ≤ if 1 ≤ cF c 4 (cch c q k) then 1 else 0
      rw [if_pos this]
      split
      · exact Nat.le_refl _
      · exact Nat.zero_le _
  have known : ∀ k, k < cF c 10 q → kno c q (cF c 4 (cch c q k)) = true := fun k hk => pB_t ⟨k, hk, rfl⟩
  have a1 : ∀ k, k ≤ cF c 10 q → sumN (fun i => dgF v p (cF c 4 (cch c q i))) k ≤ sumN (fun d => if kno c q d then dgF v p d else 0) 6 := by
    intro k hk
    have := sumN_inj k (fun d => if kno c q d then dgF v p d else 0) (fun i => cF c 4 (cch c q i)) 6 (fun i hi => dg5 i (by omega)) (fun i j hi hj e => (dgk j (by omega)).2 i (by omega) e)
    rw [sumN_eq (f := fun i => dgF v p (cF c 4 (cch c q i))) (g := fun i => if kno c q (cF c 4 (cch c q i)) then dgF v p (cF c 4 (cch c q i)) else 0) k (fun i hi => by rw [known i (by omega)]; rfl)]
    exact this
  have a2 : (strL c v q p (v.2 2 p)).1.length ≤ sumN (fun d => if kno c q d then 0 else dgF v p d) 6 := by
    unfold strL
    rw [foldR_len]
    have := sumN_inj (v.2 2 p) (fun d => if kno c q d then 0 else dgF v p d) (fun j => v.2 3 (kch v p j)) 6 (fun i hi => by have := kd i hi; omega) (fun i j hi hj e => w.dig1 hp hi hj e)
    refine Nat.le_trans (sumN_le _ (fun j hj => ?_)) this
    show (if kno c q (v.2 3 (kch v p j)) then _ else _ : List Nat × Nat).1.length ≤ if kno c q (v.2 3 (kch v p j)) then 0 else dgF v p (v.2 3 (kch v p j))
    cases kno c q (v.2 3 (kch v p j)) with
    | true => exact Nat.le_refl _
    | false =>
      show 1 ≤ dgF v p (v.2 3 (kch v p j))
      unfold dgF
      rw [kidO_eq w hp hj]
      have := (w.2.2.1 _ (w.kchlt hp hj).2).1
      show 1 ≤ 6 * v.2 4 (kch v p j)
      omega
  have a3 : sumN (fun d => if kno c q d then dgF v p d else 0) 6 + sumN (fun d => if kno c q d then 0 else dgF v p d) 6 = sumN (dgF v p) 6 := by
    rw [← sumN_add]
    refine sumN_eq 6 (fun d _ => ?_)
    cases kno c q d with
    | true => show dgF v p d + 0 = _; omega
    | false => show 0 + dgF v p d = _; omega
  have a4 : ∀ k, k ≤ cF c 10 q → (foldR (fldK look c v q p) k).1.length ≤ sumN (fun i => dgF v p (cF c 4 (cch c q i))) k := by
    intro k hk
    rw [foldR_len]
    exact sumN_le k (fun i hi => fl i (by omega))
  refine ⟨fun k hk => ?_, fun k x hk hx => ?_⟩
  · have := a1 k hk
    have := a4 k hk
    omega
  · have h1 := a1 (k + 1) (by omega)
    have h2 := a4 k (by omega)
    have h3 : sumN (fun i => dgF v p (cF c 4 (cch c q i))) (k + 1) = sumN (fun i => dgF v p (cF c 4 (cch c q i))) k + dgF v p (cF c 4 (cch c q k)) := rfl
    have h4 : dgF v p (cF c 4 (cch c q k)) = 6 * v.2 4 x := by unfold dgF; rw [hx]
    omega
/-- six faults for each part at most -/
theorem lk_len {c : CT} (wc : WFC c) {v : VT} (w : WFV v) : ∀ n q p, q < cM c → p < v.1 → (lk c v n q p).1.length ≤ 6 * v.2 4 p := by
  intro n
  induction n with
  | zero => intro q p _ _; exact Nat.zero_le _
  | succ n ih =>
    intro q p hq hp
    obtain ⟨f1, f2, f3, f4, f5, f6, f7, f8, f9, f10⟩ := wc.2.2.2.2.2.2.2.1 q hq
    have sp := (w.2.2.1 p hp).1
    have hk5 := w.kids5 hp
    have ch1 : cF c 0 q = 33 ∨ cF c 0 q = 126 ∨ cF c 0 q = 64 ∨ cF c 0 q = 38 ∨ cF c 0 q = 47 → q + 1 < cM c := by
      intro z
      have : 0 < cF c 10 q := by
        rw [f7]
        unfold inMany
        rcases z with z | z | z | z | z <;> rw [z] <;> simp
      exact ch_part wc.2.2.2.2.1 hq this
    have ch2 : cF c 0 q = 47 → q + 1 + cF c 3 (q + 1) < cM c := by
      intro z
      have : 1 < cF c 10 q := by
        rw [f7]
        unfold inMany
        rw [z]
        simp
      exact ch_part wc.2.2.2.2.1 hq this
    show (if cF c 0 q = 35 then _ else _ : List Nat × Nat).1.length ≤ _
    split
    · show (numL c v q p).length ≤ _
      unfold numL
      split
      · show 1 ≤ _; omega
      · split
        · show 1 ≤ _; omega
        · split
          · show 1 ≤ _; omega
          · exact Nat.zero_le _
    · split
      · rename_i z
        split
        · show 1 ≤ _; omega
        · exact ih _ _ (ch1 (Or.inl z)) hp
      · split
        · rename_i z
          split
          · exact Nat.zero_le _
          · exact ih _ _ (ch1 (Or.inr (Or.inl z))) hp
        · split
          · exact ih _ _ (by have := wc.1; omega) hp
          · split
            · rename_i z
              split
              · rename_i h2
                have h1 := (fld_sum wc w hq z hp h2 (lk c v n) (fun r x hr hx => ih r x hr hx)).1 _ (Nat.le_refl _)
                have h3 := depK_len (c := c) w hp (cF c 8 q) ((foldR (fldK (lk c v n) c v q p) (cF c 10 q)).1 ++ (strL c v q p (v.2 2 p)).1, (foldR (fldK (lk c v n) c v q p) (cF c 10 q)).2) (cF c 9 q)
                have h4 := psi_le v p ((foldR (fldK (lk c v n) c v q p) (cF c 10 q)).1 ++ (strL c v q p (v.2 2 p)).1)
                have h5 : ((foldR (fldK (lk c v n) c v q p) (cF c 10 q)).1 ++ (strL c v q p (v.2 2 p)).1).length = (foldR (fldK (lk c v n) c v q p) (cF c 10 q)).1.length + (strL c v q p (v.2 2 p)).1.length := List.length_append
                have h3' : (depK c v p (cF c 8 q) ((foldR (fldK (lk c v n) c v q p) (cF c 10 q)).1 ++ (strL c v q p (v.2 2 p)).1, (foldR (fldK (lk c v n) c v q p) (cF c 10 q)).2) (cF c 9 q)).1.length ≤ ((foldR (fldK (lk c v n) c v q p) (cF c 10 q)).1 ++ (strL c v q p (v.2 2 p)).1).length + psi v p ((foldR (fldK (lk c v n) c v q p) (cF c 10 q)).1 ++ (strL c v q p (v.2 2 p)).1) := Nat.le_trans (Nat.le_add_right _ _) h3
                omega
              · show 1 ≤ _; omega
            · split
              · rename_i z
                split
                · have hs := sumN_span w hp
                  have hl : (foldR (fun k => lk c v n (q + 1) (kch v p k)) (v.2 2 p)).1.length ≤ 6 * sumN (fun j => v.2 4 (kch v p j)) (v.2 2 p) := by
                    rw [foldR_len, ← sumN_mul]
                    exact sumN_le _ (fun k hk => ih _ _ (ch1 (Or.inr (Or.inr (Or.inl z)))) (w.kchlt hp hk).2)
                  have hl1 : (lenL c v q p).length ≤ 1 := by
                    unfold lenL
                    split
                    · exact Nat.le_refl _
                    · exact Nat.zero_le _
                  show (lenL c v q p ++ _).length ≤ _
                  rw [List.length_append]
                  omega
                · show 1 ≤ _; omega
              · split
                · rename_i z
                  split
                  · show (if v.2 0 p = 3 then (twL v p (v.2 2 p)).1 else []).length ≤ _
                    split
                    · have : (twL v p (v.2 2 p)).1.length ≤ v.2 2 p := by
                        unfold twL
                        rw [foldR_len]
                        have := sumN_le (f := fun k => (if pB (∃ e, e < k ∧ sameV v (kch v p e) (kch v p k)) then ([100 * v.2 5 (kch v p k) + 12], 0) else ([], 0) : List Nat × Nat).1.length) (g := fun _ => 1) (v.2 2 p) (fun k _ => by
                          show (if _ then _ else _ : List Nat × Nat).1.length ≤ 1
                          split
                          · exact Nat.le_refl _
                          · exact Nat.zero_le _)
                        rw [sumN_1] at this
                        exact this
                      omega
                    · exact Nat.zero_le _
                  · exact ih _ _ (ch1 (Or.inr (Or.inr (Or.inr (Or.inl z))))) hp
                · split
                  · rename_i z
                    split
                    · exact ih _ _ (ch1 (Or.inr (Or.inr (Or.inr (Or.inr z))))) hp
                    · split
                      · exact ih _ _ (ch2 z) hp
                      · exact ih _ _ (ch1 (Or.inr (Or.inr (Or.inr (Or.inr z))))) hp
                  · exact Nat.zero_le _
