/-! alike parts: same, different, often -/
theorem grt {P : Nat → Prop} : ∀ {n : Nat}, (∃ q, q < n ∧ P q) → ∃ q, q < n ∧ P q ∧ ∀ r, q < r → r < n → ¬ P r
  | 0, ⟨q, h, _⟩ => absurd h (Nat.not_lt_zero q)
  | n + 1, ⟨q, h, hq⟩ => by
    by_cases z : P n
    · exact ⟨n, Nat.lt_succ_self n, z, fun r h1 h2 => by omega⟩
    · have hne : q ≠ n := fun e => z (by rw [← e]; exact hq)
      obtain ⟨x, x1, x2, x3⟩ := grt ⟨q, (show q < n by omega), hq⟩
      exact ⟨x, by omega, x2, fun r h1 h2 => by
        by_cases e : r = n
        · rw [e]; exact z
        · exact x3 r h1 (by omega)⟩
theorem cnt_split (p q : Nat → Bool) : ∀ n, cnt p n = cnt (fun i => p i && q i) n + cnt (fun i => p i && !q i) n
  | 0 => rfl
  | n + 1 => by
    show cnt p n + (if p n then 1 else 0) = (cnt (fun i => p i && q i) n + (if p n && q n then 1 else 0)) + (cnt (fun i => p i && !q i) n + (if p n && !q n then 1 else 0))
    have := cnt_split p q n
    cases p n <;> cases q n <;> simp <;> omega
theorem cnt_uniq {p : Nat → Bool} {i0 : Nat} (h1 : p i0 = true) : ∀ {n : Nat}, i0 < n → (∀ i, i < n → p i = true → i = i0) → cnt p n = 1
  | 0, h, _ => absurd h (Nat.not_lt_zero _)
  | n + 1, h, hu => by
    show cnt p n + (if p n then 1 else 0) = 1
    by_cases e : i0 = n
    · rw [← e, h1, cnt_none (fun g hg => by
        cases z : p g with
        | false => rfl
        | true => have := hu g (by omega) z; omega)]
      rfl
    · have hn : p n = false := by
        cases z : p n with
        | false => rfl
        | true => have := hu n (Nat.lt_succ_self n) z; omega
      rw [hn, cnt_uniq h1 (n := n) (by omega) (fun i hi => hu i (by omega))]
      rfl
theorem firsts_lasts (E : Nat → Nat → Prop) (N : Nat) (hs : ∀ a b, a < N → b < N → E a b → E b a) (ht : ∀ a b c, a < N → b < N → c < N → E a b → E b c → E a c) : ∀ n, n ≤ N → cnt (fun p => pB (∀ q, q < p → ¬ E q p)) n = cnt (fun p => pB (∀ q, p < q → q < n → ¬ E p q)) n
  | 0, _ => rfl
  | n + 1, hn => by
    have ih := firsts_lasts E N hs ht n (by omega)
    show cnt (fun p => pB (∀ q, q < p → ¬ E q p)) n + (if pB (∀ q, q < n → ¬ E q n) then 1 else 0) = cnt (fun p => pB (∀ q, p < q → q < n + 1 → ¬ E p q)) n + (if pB (∀ q, n < q → q < n + 1 → ¬ E n q) then 1 else 0)
    have hl : pB (∀ q, n < q → q < n + 1 → ¬ E n q) = true := pB_t (fun q h1 h2 => by omega)
    have sp := cnt_split (fun p => pB (∀ q, p < q → q < n → ¬ E p q)) (fun p => pB (E p n)) n
    have e2 : cnt (fun i => pB (∀ q, i < q → q < n → ¬ E i q) && !pB (E i n)) n = cnt (fun p => pB (∀ q, p < q → q < n + 1 → ¬ E p q)) n := by
      refine cnt_congr2 (fun g hg => ?_)
      by_cases z : ∀ q, g < q → q < n + 1 → ¬ E g q
      · rw [pB_t z, pB_t (fun q h1 h2 => z q h1 (by omega)), pB_f (z n hg (Nat.lt_succ_self n))]
        rfl
      · rw [pB_f z]
        by_cases y : ∀ q, g < q → q < n → ¬ E g q
        · have hE : E g n := by
            by_cases u : E g n
            · exact u
            · exact absurd (fun q h1 h2 => by
                by_cases eq : q = n
                · rw [eq]; exact u
                · exact y q h1 (by omega)) z
          rw [pB_t hE]
          simp
        · rw [pB_f y]
          rfl
    rw [hl, if_pos rfl, ← e2, ih, sp]
    by_cases z : ∃ q, q < n ∧ E q n
    · obtain ⟨x, x1, x2, x3⟩ := grt z
      have hone : cnt (fun i => pB (∀ q, i < q → q < n → ¬ E i q) && pB (E i n)) n = 1 := by
        refine cnt_uniq (i0 := x) ?_ x1 (fun i hi hp => ?_)
        · rw [pB_t (fun q h1 h2 u => x3 q h1 h2 (ht q x n (by omega) (by omega) (by omega) (hs x q (by omega) (by omega) u) x2)), pB_t x2]
          rfl
        · rw [Bool.and_eq_true] at hp
          have a1 := pB_iff.mp hp.1
          have a2 := pB_iff.mp hp.2
          rcases Nat.lt_trichotomy i x with y | y | y
          · exact absurd (ht i n x (by omega) (by omega) (by omega) a2 (hs x n (by omega) (by omega) x2)) (a1 x y x1)
          · exact y
          · exact absurd a2 (x3 i y hi)
      rw [hone, pB_f (fun y => by obtain ⟨q, q1, q2⟩ := z; exact y q q1 q2)]
      simp
      omega
    · have hz : cnt (fun i => pB (∀ q, i < q → q < n → ¬ E i q) && pB (E i n)) n = 0 := cnt_none (fun g hg => by
        rw [pB_f (fun y => z ⟨g, hg, y⟩)]
        simp)
      rw [hz, pB_t (fun q h1 h2 => z ⟨q, h1, h2⟩)]
      simp
noncomputable def cA (v : VT) (p : Nat) : Nat := cnt (fun q => pB (sameV v q p)) v.1
noncomputable def fS1 (v : VT) (p : Nat) : Nat := fst_ (fun q => pB (sameV v q p)) p 0
noncomputable def alk (v : VT) (i fr n : Nat) : Nat := cnt (fun k => pB (fr ≤ k ∧ sameV v i k)) n
theorem cnt_le (p : Nat → Bool) : ∀ n, cnt p n ≤ n
  | 0 => Nat.le_refl _
  | n + 1 => by
    have := cnt_le p n
    show cnt p n + (if p n then 1 else 0) ≤ n + 1
    split <;> omega
theorem cnt_zero {p : Nat → Bool} : ∀ {n : Nat}, cnt p n = 0 → ∀ i, i < n → p i = false
  | 0, _, i, hi => absurd hi (Nat.not_lt_zero _)
  | n + 1, h, i, hi => by
    have h' : cnt p n + (if p n then 1 else 0) = 0 := h
    by_cases e : i = n
    · rw [e]
      cases z : p n with
      | false => rfl
      | true => rw [z, if_pos rfl] at h'; omega
    · exact cnt_zero (n := n) (by omega) i (by omega)
theorem X_alike {σ : sS} {v : VT} {a b : Nat} (w : WFV v) (hv : XV σ 1 v) (ha : a < v.1) (hb : b < v.1) (D : Nat) (hD : 7 ≤ D) (k : Int32 → sS → Prop) (h1 : sameV v a b → k 1 σ) (h0 : ¬ sameV v a b → k 0 σ) : CJ LX D y_TR_alike [sR (0 + 1) (.inl 3), sI (nI a), sI (nI b)] σ (rI k) := CJ.mono (c_TR_alike LX 0 1 w hv 5 a b (by omega) ha hb k h1 h0) hD
theorem st_same (a b : Int32) : stI RelS y_GF_same y_MO_same [sI a, sI b] := by
  refine stI_mk (fun σx σm v c n L m T rf im ok hx hm => ?_)
  have wc := ok.wc
  have w := ok.wv
  have h20 := w.2.1
  have go28 : ∀ k : Int32 → sS → Prop, (∀ σ', AX σ' v c n L m T (rfU rf 1) im → k (-1) σ') → Jd LX 300 y_GF_same 28 [(0, sR 0 (.inl 5))] [] σx (rI k) := fun k hk => s_GF_same_28 LX 299 0 σx (rI k) (X_refuse 298 hx (-1) 1 rfl (by omega) _ hk)
  have go16 : ∀ k : Int32 → sS → Prop, (∀ σ', AM σ' v c n L m T (rfU rf 1) im → k (-1) σ') → Jd LM 300 y_MO_same 16 [(0, sR 0 (.inl 6))] [] σm (rI k) := fun k hk => s_MO_same_16 LM 299 0 σm (rI k) (M_no 299 wc hm (-1) 1 rfl (by omega) _ hk)
  by_cases hp0 : findV v a < v.1
  · obtain ⟨p, ep⟩ : ∃ p, findV v a = p := ⟨_, rfl⟩
    have hp := hp0
    rw [ep] at hp
    have hnp : ¬ nI p < 0 := nI_pos (by omega)
    by_cases hq0 : findV v b < v.1
    · obtain ⟨q, eq⟩ : ∃ q, findV v b = q := ⟨_, rfl⟩
      have hq := hq0
      rw [eq] at hq
      have hnq : ¬ nI q < 0 := nI_pos (by omega)
      have X : ∀ k : Int32 → sS → Prop, (sameV v p q → k 1 σx) → (¬ sameV v p q → k 0 σx) → CJ LX 300 y_GF_same (sR 0 (.inl 5) :: [sI a, sI b]) σx (rI k) := by
        intro k k1 k0
        refine s_GF_same_0 LX 299 0 _ _ σx (rI k) (X_find 298 w hx a _ (fun _ => ?_) (fun z => absurd hp0 z))
        refine X_find 298 w hx b _ (fun _ => ?_) (fun z => absurd hq0 z)
        rw [ep, eq]
        refine ⟨fun z => absurd z hnp, fun _ => ⟨fun _ => ?_, fun z => absurd z hnq⟩⟩
        exact X_alike w hx.1 hp hq 299 (by omega) _ (fun z => ⟨fun y => absurd y (by decide), fun _ => k1 z⟩) (fun z => ⟨fun _ => k0 z, fun y => absurd rfl y⟩)
      have M : ∀ k : Int32 → sS → Prop, (sameV v p q → k 1 σm) → (¬ sameV v p q → k 0 σm) → CJ LM 300 y_MO_same (sR 0 (.inl 6) :: [sI a, sI b]) σm (rI k) := by
        intro k k1 k0
        refine s_MO_same_0 LM 299 0 _ _ σm (rI k) (M_find 299 w hm a _ (fun _ => ?_) (fun z => absurd hp0 z))
        refine ⟨fun z => absurd z (by rw [ep]; exact hnp), fun _ => M_find 299 w hm b _ (fun _ => ?_) (fun z => absurd hq0 z)⟩
        refine ⟨fun _ => ?_, fun z => absurd z (by rw [eq]; exact hnq)⟩
        refine M_find 299 w hm a _ (fun _ => ?_) (fun z => absurd hp0 z)
        refine M_find 299 w hm b _ (fun _ => ?_) (fun z => absurd hq0 z)
        rw [ep, eq]
        exact c_MO_areSame LM 297 w hm.1 hp hq _ (fun z => ⟨fun y => absurd y (by decide), fun _ => k1 z⟩) (fun z => ⟨fun _ => k0 z, fun y => absurd rfl y⟩)
      by_cases hs : sameV v p q
      · exact ⟨1, v, c, n, L, m, T, rf, im, ok, fun k hk => X k (fun _ => hk _ hx) (fun z => absurd hs z), fun k hk => M k (fun _ => hk _ hm) (fun z => absurd hs z)⟩
      · exact ⟨0, v, c, n, L, m, T, rf, im, ok, fun k hk => X k (fun z => absurd z hs) (fun _ => hk _ hx), fun k hk => M k (fun z => absurd z hs) (fun _ => hk _ hm)⟩
    · refine ⟨-1, v, c, n, L, m, T, rfU rf 1, im, ok, fun k hk => ?_, fun k hk => ?_⟩
      · refine s_GF_same_0 LX 299 0 _ _ σx (rI k) (X_find 298 w hx a _ (fun _ => ?_) (fun z => absurd hp0 z))
        refine X_find 298 w hx b _ (fun z => absurd z hq0) (fun _ => ?_)
        rw [ep]
        exact ⟨fun z => absurd z hnp, fun _ => ⟨fun z => absurd (by decide) z, fun _ => go28 k hk⟩⟩
      · refine s_MO_same_0 LM 299 0 _ _ σm (rI k) (M_find 299 w hm a _ (fun _ => ?_) (fun z => absurd hp0 z))
        refine ⟨fun z => absurd z (by rw [ep]; exact hnp), fun _ => M_find 299 w hm b _ (fun z => absurd z hq0) (fun _ => ?_)⟩
        exact ⟨fun z => absurd (by decide) z, fun _ => go16 k hk⟩
  · refine ⟨-1, v, c, n, L, m, T, rfU rf 1, im, ok, fun k hk => ?_, fun k hk => ?_⟩
    · refine s_GF_same_0 LX 299 0 _ _ σx (rI k) (X_find 298 w hx a _ (fun z => absurd z hp0) (fun _ => ?_))
      exact X_find 298 w hx b _ (fun _ => ⟨fun _ => go28 k hk, fun z => absurd (by decide) z⟩) (fun _ => ⟨fun _ => go28 k hk, fun z => absurd (by decide) z⟩)
    · refine s_MO_same_0 LM 299 0 _ _ σm (rI k) (M_find 299 w hm a _ (fun z => absurd z hp0) (fun _ => ?_))
      exact ⟨fun _ => go16 k hk, fun z => absurd (by decide) z⟩
theorem X_firstAlike (d : Nat) (hd : 7 ≤ d) {σ : sS} {v : VT} (w : WFV v) (hv : XV σ 1 v) {p : Nat} (hp : p < v.1) (k : Int32 → sS → Prop) (hk : k (nI (fS1 v p)) σ) : CJ LX (d + 1) y_GF_firstAlike [sR 0 (.inl 5), sI (nI p)] σ (rI k) := by
  have h20 := w.2.1
  refine s_GF_firstAlike_0 LX d 0 _ σ (rI k) ?_
  have key : ∀ r i, i + r = p → k (nI (fst_ (fun q => pB (sameV v q p)) r i)) σ → Jd LX (d + 1) y_GF_firstAlike 2 [(0, sR 0 (.inl 5)), (1, sI (nI p)), (2, sI (nI i))] [] σ (rI k) := by
    intro r
    induction r with
    | zero =>
      intro i hi hk
      have ei : i = p := by omega
      subst ei
      refine s_GF_firstAlike_2 LX d 0 _ _ σ (rI k) ⟨fun _ => hk, fun z => ?_⟩
      rw [i32_lt (by omega) (by omega)] at z; omega
    | succ r ih =>
      intro i hi hk
      have e : fst_ (fun q => pB (sameV v q p)) (r + 1) i = if pB (sameV v i p) = true then i else fst_ (fun q => pB (sameV v q p)) r (i + 1) := rfl
      refine s_GF_firstAlike_2 LX d 0 _ _ σ (rI k) ⟨fun z => ?_, fun _ => ?_⟩
      · rw [i32_lt (by omega) (by omega)] at z; omega
      · refine X_alike w hv (by omega) hp d hd _ (fun hs => ⟨fun z => absurd z (by decide), fun _ => ?_⟩) (fun hs => ⟨fun _ => ?_, fun z => absurd rfl z⟩)
        · rw [e, if_pos (pB_t hs)] at hk; exact hk
        · rw [e, if_neg (by rw [pB_f hs]; decide)] at hk
          rw [nI_s1]
          exact ih (i + 1) (by omega) hk
  exact key p 0 (by omega) hk
theorem X_countAlike (d : Nat) (hd : 7 ≤ d) {σ : sS} {v : VT} (w : WFV v) (hv : XV σ 1 v) {p : Nat} (hp : p < v.1) (k : Int32 → sS → Prop) (hk : k (nI (cA v p)) σ) : CJ LX (d + 1) y_GF_countAlike [sR 0 (.inl 5), sI (nI p)] σ (rI k) := by
  have h20 := w.2.1
  refine s_GF_countAlike_0 LX d 0 _ σ (rI k) ?_
  have key : ∀ r i, i + r = v.1 → Jd LX (d + 1) y_GF_countAlike 4 [(0, sR 0 (.inl 5)), (1, sI (nI p)), (2, sI (nI (cnt (fun q => pB (sameV v q p)) i))), (3, sI (nI i))] [] σ (rI k) := by
    intro r
    induction r with
    | zero =>
      intro i hi
      have ei : i = v.1 := by omega
      subst ei
      refine s_GF_countAlike_4 LX d 0 _ _ _ σ (rI k) ⟨fun _ => hk, fun z => ?_⟩
      rw [show σ (0 + 1) 6 = nI v.1 from hv.1, i32_lt (by omega) (by omega)] at z; omega
    | succ r ih =>
      intro i hi
      have nx := ih (i + 1) (by omega)
      have e : cnt (fun q => pB (sameV v q p)) (i + 1) = cnt (fun q => pB (sameV v q p)) i + (if pB (sameV v i p) = true then 1 else 0) := rfl
      rw [e] at nx
      refine s_GF_countAlike_4 LX d 0 _ _ _ σ (rI k) ⟨fun z => ?_, fun _ => ?_⟩
      · rw [show σ (0 + 1) 6 = nI v.1 from hv.1, i32_lt (by omega) (by omega)] at z; omega
      · refine X_alike w hv (by omega) hp d hd _ (fun hs => ⟨fun z => absurd z (by decide), fun _ => ?_⟩) (fun hs => ⟨fun _ => ?_, fun z => absurd rfl z⟩)
        · refine s_GF_countAlike_30 LX d 0 _ _ _ σ (rI k) ?_
          rw [if_pos (pB_t hs)] at nx
          rw [nI_s1, nI_s1]; exact nx
        · refine s_GF_countAlike_30 LX d 0 _ _ _ σ (rI k) ?_
          rw [if_neg (by rw [pB_f hs]; decide), Nat.add_zero] at nx
          rw [nI_s1]; exact nx
  exact key v.1 0 (by omega)
theorem M_alike (d : Nat) {σ : sS} {v : VT} (w : WFV v) (hv : MV σ v) {p fr : Nat} (hp : p < v.1) (hf : fr ≤ v.1) (k : Int32 → sS → Prop) (hk : k (nI (alk v p fr v.1)) σ) : CJ LM (d + 3) y_MO_alike [sR 0 (.inl 6), sI (nI p), sI (nI fr)] σ (rI k) := by
  have h20 := w.2.1
  refine s_MO_alike_0 LM (d + 2) 0 _ _ σ (rI k) ?_
  have key : ∀ r i, i + r = v.1 → fr ≤ i → Jd LM (d + 3) y_MO_alike 5 [(0, sR 0 (.inl 6)), (1, sI (nI p)), (3, sI (nI (alk v p fr i))), (4, sI (nI i))] [] σ (rI k) := by
    intro r
    induction r with
    | zero =>
      intro i hi _
      have ei : i = v.1 := by omega
      subst ei
      refine s_MO_alike_5 LM (d + 2) 0 _ _ _ σ (rI k) ⟨fun _ => hk, fun z => ?_⟩
      rw [show σ 0 6 = nI v.1 from hv.1, i32_lt (by omega) (by omega)] at z; omega
    | succ r ih =>
      intro i hi hfi
      have nx := ih (i + 1) (by omega) (by omega)
      have e : alk v p fr (i + 1) = alk v p fr i + (if pB (fr ≤ i ∧ sameV v p i) = true then 1 else 0) := rfl
      rw [e] at nx
      refine s_MO_alike_5 LM (d + 2) 0 _ _ _ σ (rI k) ⟨fun z => ?_, fun _ => ?_⟩
      · rw [show σ 0 6 = nI v.1 from hv.1, i32_lt (by omega) (by omega)] at z; omega
      · refine c_MO_areSame LM d w hv hp (by omega) _ (fun hs => ⟨fun z => absurd z (by decide), fun _ => ?_⟩) (fun hs => ⟨fun _ => ?_, fun z => absurd rfl z⟩)
        · refine s_MO_alike_30 LM (d + 2) 0 _ _ _ _ σ (rI k) ?_
          rw [if_pos (pB_t ⟨hfi, hs⟩)] at nx
          rw [nI_s1, nI_s1]; exact nx
        · refine s_MO_alike_30 LM (d + 2) 0 _ _ _ _ σ (rI k) ?_
          rw [if_neg (by rw [pB_f (fun y => hs y.2)]; decide), Nat.add_zero] at nx
          rw [nI_s1, show nI (alk v p fr i) + 0 = nI (alk v p fr i) from nI_add _ 0]; exact nx
  have h0 : alk v p fr fr = 0 := cnt_none (fun g hg => pB_f (fun y => by omega))
  have := key (v.1 - fr) fr (by omega) (Nat.le_refl _)
  rw [h0] at this
  exact this
theorem st_different : stI RelS y_GF_different y_MO_different [] := by
  refine stI_mk (fun σx σm v c n L m T rf im ok hx hm => ?_)
  have wc := ok.wc
  have w := ok.wv
  have h20 := w.2.1
  have eAB : cnt (fun p => decide (fS1 v p = p)) v.1 = cnt (fun p => decide (alk v p (p + 1) v.1 = 0)) v.1 := by
    have h := firsts_lasts (sameV v) v.1 (fun a b ha hb => sameV_sym w ha hb) (fun a b c _ _ _ h g => sameV_trans h g) v.1 (Nat.le_refl _)
    refine Eq.trans (cnt_congr2 (fun g hg => ?_)) (Eq.trans h (cnt_congr2 (fun g hg => ?_)))
    · have hle := fst_le (fun q => pB (sameV v q g)) g 0
      by_cases z : ∀ q, q < g → ¬ sameV v q g
      · rw [pB_t z]
        refine decide_eq_true ?_
        rcases Nat.lt_or_ge (fS1 v g) g with y | y
        · have := fst_at (fun q => pB (sameV v q g)) g 0 (by rw [Nat.zero_add]; exact y)
          exact absurd (pB_iff.mp this) (z _ y)
        · have : fS1 v g ≤ 0 + g := hle.2
          omega
      · rw [pB_f z]
        refine decide_eq_false (fun y => z (fun q hq u => ?_))
        have := fst_no (fun q => pB (sameV v q g)) g 0 q (Nat.zero_le _) (by show q < fS1 v g; omega)
        rw [pB_t u] at this
        cases this
    · by_cases z : ∀ q, g < q → q < v.1 → ¬ sameV v g q
      · rw [pB_t z]
        refine (decide_eq_true ?_).symm
        exact cnt_none (fun k hk => pB_f (fun y => z k (by omega) hk y.2))
      · rw [pB_f z]
        refine (decide_eq_false (fun y => z (fun q h1 h2 u => ?_))).symm
        have := cnt_zero y q h2
        rw [pB_t ⟨by omega, u⟩] at this
        cases this
  refine ⟨nI (cnt (fun p => decide (fS1 v p = p)) v.1), v, c, n, L, m, T, rf, im, ok, fun k hk => ?_, fun k hk => ?_⟩
  · refine s_GF_different_0 LX 299 0 σx (rI k) ?_
    have hv := hx.1
    have key : ∀ r i, i + r = v.1 → Jd LX 300 y_GF_different 4 [(0, sR 0 (.inl 5)), (1, sI (nI (cnt (fun p => decide (fS1 v p = p)) i))), (2, sI (nI i))] [] σx (rI k) := by
      intro r
      induction r with
      | zero =>
        intro i hi
        have ei : i = v.1 := by omega
        subst ei
        refine s_GF_different_4 LX 299 0 _ _ σx (rI k) ⟨fun _ => hk _ hx, fun z => ?_⟩
        rw [show σx (0 + 1) 6 = nI v.1 from hv.1, i32_lt (by omega) (by omega)] at z; omega
      | succ r ih =>
        intro i hi
        have nx := ih (i + 1) (by omega)
        have e : cnt (fun p => decide (fS1 v p = p)) (i + 1) = cnt (fun p => decide (fS1 v p = p)) i + (if decide (fS1 v i = i) = true then 1 else 0) := rfl
        rw [e] at nx
        have hfl : fS1 v i ≤ 0 + i := (fst_le (fun q => pB (sameV v q i)) i 0).2
        refine s_GF_different_4 LX 299 0 _ _ σx (rI k) ⟨fun z => ?_, fun _ => ?_⟩
        · rw [show σx (0 + 1) 6 = nI v.1 from hv.1, i32_lt (by omega) (by omega)] at z; omega
        · refine X_firstAlike 298 (by omega) w hv (by omega) _ ?_
          rw [i32_eq (by omega) (by omega)]
          refine ⟨fun z => ?_, fun z => ?_⟩
          · refine s_GF_different_27 LX 299 0 _ _ σx (rI k) ?_
            rw [decide_eq_false z] at nx
            rw [nI_s1]; exact nx
          · refine s_GF_different_27 LX 299 0 _ _ σx (rI k) ?_
            rw [decide_eq_true z, if_pos rfl] at nx
            rw [nI_s1, nI_s1]; exact nx
    exact key v.1 0 (by omega)
  · rw [eAB] at hk
    refine s_MO_different_0 LM 299 0 σm (rI k) ?_
    have hv := hm.1
    have key : ∀ r i, i + r = v.1 → Jd LM 300 y_MO_different 4 [(0, sR 0 (.inl 6)), (1, sI (nI (cnt (fun p => decide (alk v p (p + 1) v.1 = 0)) i))), (2, sI (nI i))] [] σm (rI k) := by
      intro r
      induction r with
      | zero =>
        intro i hi
        have ei : i = v.1 := by omega
        subst ei
        refine s_MO_different_4 LM 299 0 _ _ σm (rI k) ⟨fun _ => hk _ hm, fun z => ?_⟩
        rw [show σm 0 6 = nI v.1 from hv.1, i32_lt (by omega) (by omega)] at z; omega
      | succ r ih =>
        intro i hi
        have nx := ih (i + 1) (by omega)
        have e : cnt (fun p => decide (alk v p (p + 1) v.1 = 0)) (i + 1) = cnt (fun p => decide (alk v p (p + 1) v.1 = 0)) i + (if decide (alk v i (i + 1) v.1 = 0) = true then 1 else 0) := rfl
        rw [e] at nx
        have hfl : alk v i (i + 1) v.1 ≤ v.1 := cnt_le _ _
        refine s_MO_different_4 LM 299 0 _ _ σm (rI k) ⟨fun z => ?_, fun _ => ?_⟩
        · rw [show σm 0 6 = nI v.1 from hv.1, i32_lt (by omega) (by omega)] at z; omega
        · rw [nI_s1]
          refine M_alike 296 w hv (by omega) (by omega) _ ?_
          rw [z_eq (by omega) 0 (by omega)]
          refine ⟨fun z => ?_, fun z => ?_⟩
          · refine s_MO_different_29 LM 299 0 _ _ _ σm (rI k) ?_
            rw [decide_eq_false z] at nx
            rw [nI_s1, show nI (cnt (fun p => decide (alk v p (p + 1) v.1 = 0)) i) + 0 = nI (cnt (fun p => decide (alk v p (p + 1) v.1 = 0)) i) from nI_add _ 0]; exact nx
          · refine s_MO_different_29 LM 299 0 _ _ _ σm (rI k) ?_
            rw [decide_eq_true z, if_pos rfl] at nx
            rw [nI_s1, nI_s1]; exact nx
    exact key v.1 0 (by omega)
noncomputable def bO (v : VT) : Nat → Nat
  | 0 => 0
  | i + 1 => if cA v (bO v i) < cA v i then i else bO v i
theorem bO_lt (v : VT) (h : 1 ≤ v.1) : ∀ i, i ≤ v.1 → bO v i < v.1
  | 0, _ => h
  | i + 1, hi => by
    have := bO_lt v h i (by omega)
    show (if cA v (bO v i) < cA v i then i else bO v i) < v.1
    split <;> omega
theorem alk_cA {v : VT} (w : WFV v) {p : Nat} (hp : p < v.1) : alk v p 0 v.1 = cA v p := by
  refine cnt_congr2 (fun g hg => ?_)
  by_cases z : sameV v g p
  · rw [pB_t z, pB_t ⟨Nat.zero_le _, sameV_sym w hg hp z⟩]
  · rw [pB_f z, pB_f (fun y => z (sameV_sym w hp hg y.2))]
theorem cA_pos {v : VT} {p : Nat} (hp : p < v.1) : 0 < cA v p := by
  rcases Nat.eq_zero_or_pos (cA v p) with z | z
  · have := cnt_zero z p hp
    rw [pB_t (sameV_refl v p)] at this
    cases this
  · exact z
theorem st_often (a : Int32) : stI RelS y_GF_often y_MO_often [sI a] := by
  refine stI_mk (fun σx σm v c n L m T rf im ok hx hm => ?_)
  have wc := ok.wc
  have w := ok.wv
  have h20 := w.2.1
  have h1 := w.1
  by_cases hb : a = 0 ∨ a = 1
  · have e1 : iIn a 0 1 = 1 := (iIn01 a).1 hb
    have hbl := bO_lt v h1 v.1 (Nat.le_refl _)
    have hcle : ∀ p, cA v p ≤ v.1 := fun p => cnt_le _ _
    refine ⟨if a = 0 then nI (v.2 5 (bO v v.1)) else nI (cA v (bO v v.1)), v, c, n, L, m, T, rf, im, ok, fun k hk => ?_, fun k hk => ?_⟩
    · have hv := hx.1
      have step : ∀ i wh mo, i < v.1 → wh < v.1 → mo ≤ v.1 → (mo < cA v i → Jd LX 300 y_GF_often 23 [(0, sR 0 (.inl 5)), (1, sI a), (2, sI (nI (cA v i))), (3, sI (nI i)), (4, sI (nI (i + 1)))] [] σx (rI k)) → (¬ mo < cA v i → Jd LX 300 y_GF_often 23 [(0, sR 0 (.inl 5)), (1, sI a), (2, sI (nI mo)), (3, sI (nI wh)), (4, sI (nI (i + 1)))] [] σx (rI k)) → Jd LX 300 y_GF_often 23 [(0, sR 0 (.inl 5)), (1, sI a), (2, sI (nI mo)), (3, sI (nI wh)), (4, sI (nI i))] [] σx (rI k) := by
        intro i wh mo hi hw hmo g1 g0
        have := hcle i
        refine s_GF_often_23 LX 299 0 _ _ _ _ σx (rI k) ⟨fun z => ?_, fun _ => ?_⟩
        · rw [show σx (0 + 1) 6 = nI v.1 from hv.1, i32_lt (by omega) (by omega)] at z; omega
        · refine X_countAlike 298 (by omega) w hv hi _ ?_
          rw [i32_lt (by omega) (by omega)]
          refine ⟨fun z => ?_, fun z => ?_⟩
          · refine s_GF_often_55 LX 299 0 _ _ _ _ σx (rI k) ?_
            rw [nI_s1]; exact g0 z
          · refine s_GF_often_55 LX 299 0 _ _ _ _ σx (rI k) ?_
            rw [nI_s1]; exact g1 z
      have key : ∀ r i, i + r = v.1 → 1 ≤ i → Jd LX 300 y_GF_often 23 [(0, sR 0 (.inl 5)), (1, sI a), (2, sI (nI (cA v (bO v i)))), (3, sI (nI (bO v i))), (4, sI (nI i))] [] σx (rI k) := by
        intro r
        induction r with
        | zero =>
          intro i hi _
          have ei : i = v.1 := by omega
          subst ei
          refine s_GF_often_23 LX 299 0 _ _ _ _ σx (rI k) ⟨fun _ => ⟨fun z => ?_, fun z => ?_⟩, fun z => ?_⟩
          · rw [if_neg z] at hk; exact hk _ hx
          · rw [if_pos z] at hk
            rw [hv.rd h20 (f := 5) (by omega) hbl (a := 0 + 7) rfl]
            exact hk _ hx
          · rw [show σx (0 + 1) 6 = nI v.1 from hv.1, i32_lt (by omega) (by omega)] at z; omega
        | succ r ih =>
          intro i hi h1i
          have nx := ih (i + 1) (by omega) (by omega)
          have e : bO v (i + 1) = if cA v (bO v i) < cA v i then i else bO v i := rfl
          refine step i _ _ (by omega) (bO_lt v h1 i (by omega)) (hcle _) (fun z => ?_) (fun z => ?_)
          · rw [e, if_pos z] at nx; exact nx
          · rw [e, if_neg z] at nx; exact nx
      have go16 : Jd LX 300 y_GF_often 16 [(0, sR 0 (.inl 5)), (1, sI a)] [] σx (rI k) := by
        refine s_GF_often_16 LX 299 0 _ σx (rI k) ?_
        refine step 0 0 0 (by omega) (by omega) (by omega) (fun _ => ?_) (fun z => absurd (cA_pos h1) z)
        have e : bO v 1 = 0 := by
          show (if cA v 0 < cA v 0 then 0 else 0) = 0
          split <;> rfl
        have := key (v.1 - 1) 1 (by omega) (by omega)
        rw [e] at this
        exact this
      refine s_GF_often_0 LX 299 0 _ σx (rI k) ⟨fun _ => go16, fun n0 => ⟨fun _ => go16, fun n1 => ?_⟩⟩
      rcases hb with z | z
      · exact absurd z n0
      · exact absurd z n1
    · have hv := hm.1
      refine s_MO_often_0 LM 299 0 _ σm (rI k) ⟨fun _ => ?_, fun z => by rw [e1] at z; exact absurd z (by decide)⟩
      have key : ∀ r i, i + r = v.1 → 1 ≤ i → Jd LM 300 y_MO_often 20 [(0, sR 0 (.inl 6)), (1, sI a), (2, sI (nI (bO v i))), (3, sI (nI i))] [] σm (rI k) := by
        intro r
        induction r with
        | zero =>
          intro i hi _
          have ei : i = v.1 := by omega
          subst ei
          refine s_MO_often_20 LM 299 0 _ _ _ σm (rI k) ⟨fun _ => ⟨fun z => ?_, fun z => ⟨vinI (by omega) (by omega), ?_⟩⟩, fun z => ?_⟩
          · refine M_alike 296 w hv hbl (Nat.zero_le _) _ ?_
            rw [alk_cA w hbl]
            rw [if_neg z] at hk; exact hk _ hm
          · rw [if_pos z] at hk
            rw [cl_nI (by omega), show σm (0 + 6) (bO v v.1) = _ from (hv.2.1 _ hbl).2.2.2]
            exact hk _ hm
          · rw [show σm 0 6 = nI v.1 from hv.1, i32_lt (by omega) (by omega)] at z; omega
        | succ r ih =>
          intro i hi h1i
          have nx := ih (i + 1) (by omega) (by omega)
          have e : bO v (i + 1) = if cA v (bO v i) < cA v i then i else bO v i := rfl
          have hb2 := bO_lt v h1 i (by omega)
          have l1 := hcle i
          have l2 := hcle (bO v i)
          refine s_MO_often_20 LM 299 0 _ _ _ σm (rI k) ⟨fun z => ?_, fun _ => ?_⟩
          · rw [show σm 0 6 = nI v.1 from hv.1, i32_lt (by omega) (by omega)] at z; omega
          · refine M_alike 296 w hv (by omega) (Nat.zero_le _) _ ?_
            refine M_alike 296 w hv hb2 (Nat.zero_le _) _ ?_
            rw [alk_cA w (show i < v.1 by omega), alk_cA w hb2, i32_lt (by omega) (by omega)]
            refine ⟨fun z => ?_, fun z => ?_⟩
            · refine s_MO_often_48 LM 299 0 _ _ _ σm (rI k) ?_
              rw [e, if_neg z] at nx
              rw [nI_s1]; exact nx
            · refine s_MO_often_48 LM 299 0 _ _ _ σm (rI k) ?_
              rw [e, if_pos z] at nx
              rw [nI_s1]; exact nx
      have e : bO v 1 = 0 := by
        show (if cA v 0 < cA v 0 then 0 else 0) = 0
        split <;> rfl
      have := key (v.1 - 1) 1 (by omega) (by omega)
      rw [e] at this
      exact this
  · have e0 : iIn a 0 1 = 0 := (iIn01 a).2 hb
    refine ⟨-2, v, c, n, L, m, T, rfU rf 2, im, ok, fun k hk => ?_, fun k hk => ?_⟩
    · exact s_GF_often_0 LX 299 0 _ σx (rI k) ⟨fun z => absurd (Or.inl z) hb, fun _ => ⟨fun z => absurd (Or.inr z) hb, fun _ => X_refuse 298 hx (-2) 2 rfl (by omega) _ hk⟩⟩
    · exact s_MO_often_0 LM 299 0 _ σm (rI k) ⟨fun z => absurd e0 z, fun _ => M_no 299 wc hm (-2) 2 rfl (by omega) _ hk⟩
