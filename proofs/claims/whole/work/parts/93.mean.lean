/-! the greatest common divisor, and the mean -/
def euN : Nat → Nat → Nat → Nat
  | 0, a, _ => a
  | r + 1, a, b => if b = 0 then a else euN r b (a % b)
def enN : Nat → Nat → Nat → Prop
  | 0, _, b => b = 0
  | r + 1, a, b => b = 0 ∨ enN r b (a % b)
theorem enN_z (r a : Nat) : enN r a 0 := by
  cases r with
  | zero => exact rfl
  | succ r => exact Or.inl rfl
theorem euN_z (r a : Nat) : euN r a 0 = a := by
  cases r with
  | zero => rfl
  | succ r => exact if_pos rfl
theorem enN_of : ∀ (k r a b : Nat), 2 * k ≤ r → b < 2 ^ k → enN r a b := by
  intro k
  induction k with
  | zero =>
    intro r a b _ hb
    have : b = 0 := by simpa using hb
    subst this
    exact enN_z r a
  | succ k ih =>
    intro r a b hr hb
    obtain ⟨s, rfl⟩ : ∃ s, r = s + 2 := ⟨r - 2, by omega⟩
    by_cases h0 : b = 0
    · exact Or.inl h0
    · refine Or.inr ?_
      by_cases h1 : a % b = 0
      · exact Or.inl h1
      · refine Or.inr (ih s _ _ (by omega) ?_)
        have l1 : a % b < b := Nat.mod_lt _ (by omega)
        have l2 : b % (a % b) < a % b := Nat.mod_lt _ (by omega)
        have l3 : b % (a % b) ≤ b - a % b := by
          rw [Nat.mod_eq_sub_mod (Nat.le_of_lt l1)]
          exact Nat.mod_le _ _
        rw [Nat.pow_succ] at hb
        omega
theorem euN_pos : ∀ (r a b : Nat), 0 < b → enN r a b → 0 < euN r a b := by
  intro r
  induction r with
  | zero =>
    intro a b h0 h
    have : b = 0 := h
    omega
  | succ r ih =>
    intro a b h0 h
    show 0 < if b = 0 then a else euN r b (a % b)
    rw [if_neg (by omega)]
    rcases h with h | h
    · omega
    · by_cases h1 : a % b = 0
      · rw [h1, euN_z]; exact h0
      · exact ih _ _ (by omega) h
theorem euN_lt : ∀ (r a b : Nat), a < 2 ^ 63 → b < 2 ^ 63 → euN r a b < 2 ^ 63 := by
  intro r
  induction r with
  | zero => intro a b ha _; exact ha
  | succ r ih =>
    intro a b ha hb
    show (if b = 0 then a else euN r b (a % b)) < 2 ^ 63
    split
    · exact ha
    · next z => exact ih _ _ hb (Nat.lt_trans (Nat.mod_lt _ (by omega)) hb)
theorem lN_z {b : Nat} (hb : b < 2 ^ 63) : lN b = 0 ↔ b = 0 := pk_lEQ hb (b := 0) (by omega)
theorem lN_c {b : Nat} (hb : b < 2 ^ 63) : lg_cmp (lN b) 0 = 0 ↔ b = 0 := (lg_cmp_eq _ _).trans (lN_z hb)
def frN (w : Int32) (a b : Nat) : Int64 := (if w = 0 then lN a else lN b) / lN (euN 200 a b)
theorem X_fraction (d : Nat) {a b : Nat} (ha : a < 2 ^ 63) (hb : b < 2 ^ 63) (h0 : 0 < b) (w : Int32) (σ : sS) (k : Int64 → sS → Prop) (hk : k (frN w a b) σ) : CJ LX d y_GF_fraction [sJ (lN a), sJ (lN b), sI w] σ (rJ k) := by
  refine s_GF_fraction_0 LX d _ _ _ σ (rJ k) ?_
  have en := enN_of 63 200 a b (by omega) hb
  have key : ∀ r x y, r ≤ 200 → x < 2 ^ 63 → y < 2 ^ 63 → enN r x y → Jd LX d y_GF_fraction 45 [(0, sJ (lN a)), (2, sJ (lN b)), (4, sI w), (5, sJ (lN (euN r x y)))] [] σ (rJ k) → Jd LX d y_GF_fraction 9 [(0, sJ (lN a)), (2, sJ (lN b)), (4, sI w), (5, sJ (lN x)), (7, sJ (lN y)), (9, sI (nI (200 - r)))] [] σ (rJ k) := by
    intro r
    induction r with
    | zero =>
      intro x y _ _ _ _ hq
      exact s_GF_fraction_9 LX d _ _ _ _ _ _ σ (rJ k) ⟨fun _ => hq, fun z => absurd z (by decide)⟩
    | succ r ih =>
      intro x y hr hx hy e hq
      refine s_GF_fraction_9 LX d _ _ _ _ _ _ σ (rJ k) ⟨fun z => ?_, fun _ => ⟨fun z => ?_, fun z => ?_⟩⟩
      · rw [lit 200, i32_lt (by omega) (by omega)] at z; omega
      · rw [lN_c hy] at z
        subst z
        rw [euN_z] at hq
        exact hq
      · rw [lN_c hy] at z
        refine ⟨fun q => z ((lN_z hy).mp q), ?_⟩
        rw [pk_lRem hx (by omega) hy, nI_s1, show 200 - (r + 1) + 1 = 200 - r from by omega]
        refine ih y (x % y) (by omega) hy (Nat.lt_trans (Nat.mod_lt _ (by omega)) hy) (e.resolve_left z) ?_
        have eq : euN (r + 1) x y = euN r y (x % y) := if_neg z
        rw [eq] at hq
        exact hq
  refine key 200 a b (Nat.le_refl _) ha hb en ?_
  have gp := euN_pos 200 a b h0 en
  have gl := euN_lt 200 a b ha hb
  have go : ∀ s0 : Int64, k (s0 / lN (euN 200 a b)) σ → Jd LX d y_GF_fraction 55 [(5, sJ (lN (euN 200 a b)))] [sJ s0] σ (rJ k) := by
    intro s0 hs
    refine s_GF_fraction_55 LX d _ _ σ (rJ k) ⟨fun z => ?_, fun _ => ⟨fun z => ?_, hs⟩⟩
    · rw [lg_cmp_gt] at z
      exact absurd ((pk_lLT (a := 0) (by omega) gl).mpr gp) z
    · have := (lN_z gl).mp z
      omega
  refine s_GF_fraction_45 LX d _ _ _ _ σ (rJ k) ⟨fun z => go _ ?_, fun z => go _ ?_⟩
  · unfold frN at hk
    rw [if_neg z] at hk; exact hk
  · unfold frN at hk
    rw [if_pos z] at hk; exact hk
theorem M_partOf (d : Nat) {a b : Nat} (ha : a < 2 ^ 63) (hb : b < 2 ^ 63) (h0 : 0 < b) (w : Int32) (σ : sS) (k : Int64 → sS → Prop) (hk : k (frN w a b) σ) : CJ LM (d + 1) y_MO_partOf [sJ (lN a), sJ (lN b), sI w] σ (rJ k) := by
  have en := enN_of 63 200 a b (by omega) hb
  have gp := euN_pos 200 a b h0 en
  have gl := euN_lt 200 a b ha hb
  have dv : ∀ (Q : Int64 → sS → Prop), Q (lN (euN 200 a b)) σ → CJ LM d y_MO_divisor [sJ (lN a), sJ (lN b)] σ (rJ Q) := by
    intro Q hQ
    refine s_MO_divisor_0 LM d _ _ σ (rJ Q) ?_
    have key : ∀ r x y, x < 2 ^ 63 → y < 2 ^ 63 → enN r x y → Q (lN (euN r x y)) σ → Jd LM d y_MO_divisor 6 [(4, sJ (lN x)), (6, sJ (lN y))] [] σ (rJ Q) := by
      intro r
      induction r with
      | zero =>
        intro x y hx hy e hq
        have e0 : y = 0 := e
        refine s_MO_divisor_6 LM d _ _ σ (rJ Q) ⟨fun _ => hq, fun z => absurd ((lN_c hy).mpr e0) z⟩
      | succ r ih =>
        intro x y hx hy e hq
        refine s_MO_divisor_6 LM d _ _ σ (rJ Q) ⟨fun z => ?_, fun z => ?_⟩
        · rw [lN_c hy] at z
          subst z
          rw [euN_z] at hq
          exact hq
        · rw [lN_c hy] at z
          refine ⟨fun q => z ((lN_z hy).mp q), ?_⟩
          rw [pk_lRem hx (by omega) hy]
          refine ih y (x % y) hy (Nat.lt_trans (Nat.mod_lt _ (by omega)) hy) (e.resolve_left z) ?_
          have eq : euN (r + 1) x y = euN r y (x % y) := if_neg z
          rw [eq] at hq
          exact hq
    exact key 200 a b ha hb en hQ
  have go : ∀ s0 : Int64, k (s0 / lN (euN 200 a b)) σ → Jd LM (d + 1) y_MO_partOf 10 [(0, sJ (lN a)), (2, sJ (lN b))] [sJ s0] σ (rJ k) := by
    intro s0 hs
    refine s_MO_partOf_10 LM d _ _ _ σ (rJ k) (dv _ ⟨fun z => ?_, hs⟩)
    have := (lN_z gl).mp z
    omega
  refine s_MO_partOf_0 LM d _ _ _ σ (rJ k) ⟨fun z => go _ ?_, fun z => go _ ?_⟩
  · unfold frN at hk
    rw [if_neg z] at hk; exact hk
  · unfold frN at hk
    rw [if_pos z] at hk; exact hk
theorem X_refuseLong (d : Nat) {σ : sS} {v : VT} {c : CT} {n : Nat} {L : Nat → Nat} {m : Nat} {T : Nat → Nat} {rf : Nat → Int32} {im : Option (VT × CT)} (h : AX σ v c n L m T rf im) (w : Int32) (j : Nat) (hw : -w = nI j) (hj : j ≤ 6) (k : Int64 → sS → Prop) (hk : ∀ σ', AX σ' v c n L m T (rfU rf j) im → k (4000000000000000000 - w.toInt64) σ') : CJ LX (d + 2) y_GF_refuseLong [sR 0 (.inl 5), sI w] σ (rJ k) :=
  s_GF_refuseLong_0 LX (d + 1) 0 _ σ (rJ k) (X_refuse d h w j hw hj _ hk)
theorem M_lowestOf (d : Nat) {σ : sS} {v : VT} {c : CT} {n : Nat} {L : Nat → Nat} {m : Nat} {T : Nat → Nat} {rf : Nat → Int32} {im : Option (VT × CT)} (wc : WFC c) (h : AM σ v c n L m T rf im) (w : Int32) (j : Nat) (hw : -w = nI j) (hj : j ≤ 6) (k : Int64 → sS → Prop) (hk : ∀ σ', AM σ' v c n L m T (rfU rf j) im → k (4000000000000000000 - w.toInt64) σ') : CJ LM d y_MO_lowestOf [sR 0 (.inl 6), sI w] σ (rJ k) := by
  refine s_MO_lowestOf_0 LM d 0 _ σ (rJ k) ?_
  rw [hw]
  refine ⟨vinI (by omega) (by omega), vinI (by omega) (by omega), ?_⟩
  simp only [Nat.zero_add, cl_nI (show j < 2 ^ 31 by omega)]
  exact hk _ (h.no wc hj)
theorem st_mean (a : Int32) : stJ RelS y_GF_mean y_MO_mean [sI a] := by
  refine stJ_mk (fun σx σm v c n L m T rf im ok hx hm => ?_)
  have wc := ok.wc
  have w := ok.wv
  have h20 := w.2.1
  have h1 : 1 ≤ v.1 := w.1
  have hl := fl_len wc w
  by_cases h01 : a = 0 ∨ a = 1
  · refine ⟨frN a (fl c v).1.length v.1, v, c, n, L, m, T, rf, im, ok, fun k hk => ?_, fun k hk => ?_⟩
    · have go : Jd LX 300 y_GF_mean 16 [(0, sR 0 (.inl 5)), (1, sI a)] [] σx (rJ k) := by
        refine s_GF_mean_16 LX 299 0 _ σx (rJ k) (X_gather 299 (by omega) w wc hx _ (fun σ' g1 g2 g3 => ?_))
        rw [show σ' (0 + 1) 6 = nI v.1 from g2.1.1, nI_l (by omega), nI_l (by omega)]
        exact X_fraction 299 (by omega) (by omega) (by omega) a σ' _ (hk _ g2)
      refine s_GF_mean_0 LX 299 0 _ σx (rJ k) ⟨fun _ => go, fun z => ⟨fun _ => go, fun y => ?_⟩⟩
      rcases h01 with e | e
      · exact absurd e z
      · exact absurd e y
    · refine s_MO_mean_0 LM 299 0 _ σm (rJ k) ⟨fun _ => ?_, fun z => absurd z (by rw [(iIn01 a).1 h01]; decide)⟩
      refine M_many 291 w wc hm _ (fun σ' g1 g2 g3 => ?_)
      rw [show σ' 0 6 = nI v.1 from g2.1.1, nI_l (by omega), nI_l (by omega)]
      exact M_partOf 298 (by omega) (by omega) (by omega) a σ' _ (hk _ g2)
  · refine ⟨4000000000000000000 - Int32.toInt64 (-2), v, c, n, L, m, T, rfU rf 2, im, ok, fun k hk => ?_, fun k hk => ?_⟩
    · exact s_GF_mean_0 LX 299 0 _ σx (rJ k) ⟨fun z => absurd (Or.inl z) h01, fun _ => ⟨fun z => absurd (Or.inr z) h01, fun _ => X_refuseLong 297 hx (-2) 2 rfl (by omega) _ hk⟩⟩
    · refine s_MO_mean_0 LM 299 0 _ σm (rJ k) ⟨fun z => absurd ((iIn01 a).2 h01) z, fun _ => M_lowestOf 299 wc hm (-2) 2 rfl (by omega) _ hk⟩
