/-! the relation of the two worlds -/
theorem i32_nI {x : Int32} (h0 : ¬ x < 0) : ∃ j, j < 2 ^ 31 ∧ x = nI j := by
  have h1 : x.toInt < 2 ^ 31 := Int32.toInt_lt x
  rw [Int32.lt_iff_toInt_lt, Int32.toInt_zero] at h0
  refine ⟨x.toInt.toNat, by omega, ?_⟩
  apply Int32.toInt_inj.mp
  rw [nI_toInt (by omega)]
  omega
theorem neg_lt {x : Int32} (h : x < 0) {n : Nat} (hn : n < 2 ^ 31) : x < nI n := by
  rw [Int32.lt_iff_toInt_lt, Int32.toInt_zero] at h
  rw [Int32.lt_iff_toInt_lt, nI_toInt hn]
  omega
theorem neg_nlt {x : Int32} (h : x < 0) {n : Nat} (hn : n < 2 ^ 31) : ¬ nI n < x := by
  rw [Int32.lt_iff_toInt_lt, Int32.toInt_zero] at h
  rw [Int32.lt_iff_toInt_lt, nI_toInt hn]
  omega
theorem iBd_nI {j lo hi : Nat} (hj : j < 2 ^ 31) (hl : lo < 2 ^ 31) (hh : hi < 2 ^ 31) : iBd (nI j) (nI lo) (nI hi) = if j < lo then -4 else if hi < j then -6 else 0 := by
  unfold iBd
  simp only [i32_lt hj hl, i32_lt hh hj]
theorem iIn_nI {j lo hi : Nat} (hj : j < 2 ^ 31) (hl : lo < 2 ^ 31) (hh : hi < 2 ^ 31) : iIn (nI j) (nI lo) (nI hi) = if j < lo then 0 else if hi < j then 0 else 1 := by
  unfold iIn
  simp only [i32_lt hj hl, i32_lt hh hj]
theorem iBd_neg {x hi : Int32} (h : x < 0) {lo : Nat} (hl : lo < 2 ^ 31) : iBd x (nI lo) hi = -4 := by
  unfold iBd
  rw [if_pos (neg_lt h hl)]
theorem iIn_neg {x hi : Int32} (h : x < 0) {lo : Nat} (hl : lo < 2 ^ 31) : iIn x (nI lo) hi = 0 := by
  unfold iIn
  rw [if_pos (neg_lt h hl)]
def AX (σ : sS) (v : VT) (c : CT) (n : Nat) (L : Nat → Nat) (m : Nat) (T : Nat → Nat) (rf : Nat → Int32) (im : Option (VT × CT)) : Prop :=
  XV σ 1 v ∧ XC σ 16 c ∧ σ 0 6 = nI n ∧ (∀ i, i < n → σ 64 i = nI (L i)) ∧ σ 0 8 = nI m ∧ (∀ i, i < m → σ 65 i = nI (T i)) ∧ (∀ i, i ≤ 6 → σ 66 i = rf i) ∧ (im = none → σ 0 12 = 0) ∧ ∀ v' c', im = some (v', c') → σ 0 12 = 1 ∧ XV σ 67 v' ∧ XC σ 74 c'
def AM (σ : sS) (v : VT) (c : CT) (n : Nat) (L : Nat → Nat) (m : Nat) (T : Nat → Nat) (rf : Nat → Int32) (im : Option (VT × CT)) : Prop :=
  MV σ v ∧ MC σ c ∧ σ 0 42 = nI n ∧ (∀ i, i < n → σ 29 i = nI (L i)) ∧ σ 0 52 = nI m ∧ (∀ i, i < m → σ 36 i = nI (T i)) ∧ (∀ i, i ≤ 6 → σ 1 i = rf i) ∧ (im = none → σ 0 48 = 0) ∧ ∀ v' c', im = some (v', c') → σ 0 48 = 1 ∧ (∃ R, KV σ 0 R ∧ MB R v') ∧ ∃ R, KC σ 0 R ∧ MC R c'
def OKS (v : VT) (c : CT) (n : Nat) (L : Nat → Nat) (m : Nat) (T : Nat → Nat) (im : Option (VT × CT)) : Prop :=
  WFV v ∧ WFC c ∧ n ≤ 96 ∧ (∀ i, i < n → L i < 256) ∧ m ≤ 32 ∧ (∀ i, i < m → T i ≤ 99) ∧ ∀ v' c', im = some (v', c') → WFV v' ∧ WFC c'
def RelS (σx σm : sS) : Prop := ∃ v c n L m T rf im, OKS v c n L m T im ∧ AX σx v c n L m T rf im ∧ AM σm v c n L m T rf im
def stI (Rel : sS → sS → Prop) (yx ym : sY) (as : List sv) : Prop := ∀ σx σm, Rel σx σm → ∃ (r : Int32) (Px Pm : sS → Prop), CJ LX 300 yx (sR 0 (.inl 5) :: as) σx (rI fun r0 σ0 => r0 = r ∧ Px σ0) ∧ CJ LM 300 ym (sR 0 (.inl 6) :: as) σm (rI fun r0 σ0 => r0 = r ∧ Pm σ0) ∧ ∀ σ σ', Px σ → Pm σ' → Rel σ σ'
def stJ (Rel : sS → sS → Prop) (yx ym : sY) (as : List sv) : Prop := ∀ σx σm, Rel σx σm → ∃ (r : Int64) (Px Pm : sS → Prop), CJ LX 300 yx (sR 0 (.inl 5) :: as) σx (rJ fun r0 σ0 => r0 = r ∧ Px σ0) ∧ CJ LM 300 ym (sR 0 (.inl 6) :: as) σm (rJ fun r0 σ0 => r0 = r ∧ Pm σ0) ∧ ∀ σ σ', Px σ → Pm σ' → Rel σ σ'
def OUT (yx ym : sY) (as : List sv) (σx σm : sS) : Prop := ∃ (r : Int32), ∃ v' c' n' L' m' T' rf' im', OKS v' c' n' L' m' T' im' ∧ (∀ k : Int32 → sS → Prop, (∀ σ', AX σ' v' c' n' L' m' T' rf' im' → k r σ') → CJ LX 300 yx (sR 0 (.inl 5) :: as) σx (rI k)) ∧ (∀ k : Int32 → sS → Prop, (∀ σ', AM σ' v' c' n' L' m' T' rf' im' → k r σ') → CJ LM 300 ym (sR 0 (.inl 6) :: as) σm (rI k))
/-- one call of both -/
theorem stI_mk {yx ym : sY} {as : List sv} (h : ∀ σx σm v c n L m T rf im, OKS v c n L m T im → AX σx v c n L m T rf im → AM σm v c n L m T rf im → OUT yx ym as σx σm) : stI RelS yx ym as := by
  rintro σx σm ⟨v, c, n, L, m, T, rf, im, ok, hx, hm⟩
  obtain ⟨r, v', c', n', L', m', T', rf', im', ok', h1, h2⟩ := h σx σm v c n L m T rf im ok hx hm
  exact ⟨r, fun σ => AX σ v' c' n' L' m' T' rf' im', fun σ => AM σ v' c' n' L' m' T' rf' im', h1 _ (fun σ' g => ⟨rfl, g⟩), h2 _ (fun σ' g => ⟨rfl, g⟩), fun σ σ' p q => ⟨v', c', n', L', m', T', rf', im', ok', p, q⟩⟩
theorem stJ_mk {yx ym : sY} {as : List sv} (h : ∀ σx σm v c n L m T rf im, OKS v c n L m T im → AX σx v c n L m T rf im → AM σm v c n L m T rf im → ∃ (r : Int64), ∃ v' c' n' L' m' T' rf' im', OKS v' c' n' L' m' T' im' ∧ (∀ k : Int64 → sS → Prop, (∀ σ', AX σ' v' c' n' L' m' T' rf' im' → k r σ') → CJ LX 300 yx (sR 0 (.inl 5) :: as) σx (rJ k)) ∧ (∀ k : Int64 → sS → Prop, (∀ σ', AM σ' v' c' n' L' m' T' rf' im' → k r σ') → CJ LM 300 ym (sR 0 (.inl 6) :: as) σm (rJ k))) : stJ RelS yx ym as := by
  rintro σx σm ⟨v, c, n, L, m, T, rf, im, ok, hx, hm⟩
  obtain ⟨r, v', c', n', L', m', T', rf', im', ok', h1, h2⟩ := h σx σm v c n L m T rf im ok hx hm
  exact ⟨r, fun σ => AX σ v' c' n' L' m' T' rf' im', fun σ => AM σ v' c' n' L' m' T' rf' im', h1 _ (fun σ' g => ⟨rfl, g⟩), h2 _ (fun σ' g => ⟨rfl, g⟩), fun σ σ' p q => ⟨v', c', n', L', m', T', rf', im', ok', p, q⟩⟩
/-- scratch cells change alone -/
def xF (σ σ' : sS) : Prop := (∀ x, x ≠ 0 → (x < 8 ∨ 15 < x) → (x < 30 ∨ 63 < x) → σ' x = σ x) ∧ ∀ i, i ≠ 13 → σ' 0 i = σ 0 i
theorem xF.refl (σ : sS) : xF σ σ := ⟨fun _ _ _ _ => rfl, fun _ _ => rfl⟩
theorem xF.trans {σ σ1 σ2 : sS} (h : xF σ σ1) (g : xF σ1 σ2) : xF σ σ2 := ⟨fun x a b c => by rw [g.1 x a b c, h.1 x a b c], fun i a => by rw [g.2 i a, h.2 i a]⟩
theorem AX.kept {σ σ' : sS} {v : VT} {c : CT} {n : Nat} {L : Nat → Nat} {m : Nat} {T : Nat → Nat} {rf : Nat → Int32} {im : Option (VT × CT)} (h : AX σ v c n L m T rf im) (k : xF σ σ') : AX σ' v c n L m T rf im := by
  obtain ⟨h1, h2, h3, h4, h5, h6, h7, h8, h9⟩ := h
  refine ⟨h1.kept (fun x a b => k.1 x (by omega) (by omega) (by omega)), h2.kept (fun x a b => k.1 x (by omega) (by omega) (by omega)), by rw [k.2 6 (by omega)]; exact h3, fun i hi => by rw [k.1 64 (by omega) (by omega) (by omega)]; exact h4 i hi, by rw [k.2 8 (by omega)]; exact h5, fun i hi => by rw [k.1 65 (by omega) (by omega) (by omega)]; exact h6 i hi, fun i hi => by rw [k.1 66 (by omega) (by omega) (by omega)]; exact h7 i hi, fun e => by rw [k.2 12 (by omega)]; exact h8 e, fun v' c' e => ?_⟩
  obtain ⟨a1, a2, a3⟩ := h9 v' c' e
  exact ⟨by rw [k.2 12 (by omega)]; exact a1, a2.kept (fun x a b => k.1 x (by omega) (by omega) (by omega)), a3.kept (fun x a b => k.1 x (by omega) (by omega) (by omega))⟩
def mS (σ σ' : sS) : Prop := (∀ x, x ≠ 0 → (x < 20 ∨ 28 < x) → (x < 30 ∨ 35 < x) → σ' x = σ x) ∧ (∀ j, j < 460 → σ' 35 j = σ 35 j) ∧ ∀ i, i ≠ 23 → (i < 33 ∨ 35 < i) → (i < 43 ∨ 46 < i) → i ≠ 49 → i ≠ 50 → i ≠ 53 → σ' 0 i = σ 0 i
theorem mS.refl (σ : sS) : mS σ σ := ⟨fun _ _ _ _ => rfl, fun _ _ => rfl, fun _ _ _ _ _ _ _ => rfl⟩
theorem mS.trans {σ σ1 σ2 : sS} (h : mS σ σ1) (g : mS σ1 σ2) : mS σ σ2 := ⟨fun x a b c => by rw [g.1 x a b c, h.1 x a b c], fun j hj => by rw [g.2.1 j hj, h.2.1 j hj], fun i a b c d e f => by rw [g.2.2 i a b c d e f, h.2.2 i a b c d e f]⟩
theorem AM.kept {σ σ' : sS} {v : VT} {c : CT} {n : Nat} {L : Nat → Nat} {m : Nat} {T : Nat → Nat} {rf : Nat → Int32} {im : Option (VT × CT)} (wc : WFC c) (h : AM σ v c n L m T rf im) (k : mS σ σ') : AM σ' v c n L m T rf im := by
  obtain ⟨h1, h2, h3, h4, h5, h6, h7, h8, h9⟩ := h
  refine ⟨h1.kept (k.2.2 6 (by omega) (by omega) (by omega) (by omega) (by omega) (by omega)) (fun x a b => k.1 x (by omega) (by omega) (by omega)), h2.kept wc (fun i a b => k.2.2 i (by omega) (by omega) (by omega) (by omega) (by omega) (by omega)) (fun x a b => k.1 x (by omega) (by omega) (by omega)), by rw [k.2.2 42 (by omega) (by omega) (by omega) (by omega) (by omega) (by omega)]; exact h3, fun i hi => by rw [k.1 29 (by omega) (by omega) (by omega)]; exact h4 i hi, by rw [k.2.2 52 (by omega) (by omega) (by omega) (by omega) (by omega) (by omega)]; exact h5, fun i hi => by rw [k.1 36 (by omega) (by omega) (by omega)]; exact h6 i hi, fun i hi => by rw [k.1 1 (by omega) (by omega) (by omega)]; exact h7 i hi, fun e => by rw [k.2.2 48 (by omega) (by omega) (by omega) (by omega) (by omega) (by omega)]; exact h8 e, fun v' c' e => ?_⟩
  obtain ⟨a1, ⟨R, a2, a4⟩, R2, a3, a5⟩ := h9 v' c' e
  exact ⟨by rw [k.2.2 48 (by omega) (by omega) (by omega) (by omega) (by omega) (by omega)]; exact a1, ⟨R, a2.same (fun j _ hj => k.2.1 j (by omega)), a4⟩, R2, a3.same (fun j _ hj => k.2.1 j (by omega)), a5⟩
def rfU (rf : Nat → Int32) (j : Nat) : Nat → Int32 := fun i => if i = j then rf i + 1 else rf i
theorem X_refuse (d : Nat) {σ : sS} {v : VT} {c : CT} {n : Nat} {L : Nat → Nat} {m : Nat} {T : Nat → Nat} {rf : Nat → Int32} {im : Option (VT × CT)} (h : AX σ v c n L m T rf im) (w : Int32) (j : Nat) (hw : -w = nI j) (hj : j ≤ 6) (k : Int32 → sS → Prop) (hk : ∀ σ', AX σ' v c n L m T (rfU rf j) im → k w σ') : CJ LX (d + 1) y_GF_refuse [sR 0 (.inl 5), sI w] σ (rI k) := by
  refine s_GF_refuse_0 LX d 0 _ σ (rI k) ?_
  rw [hw, rd_nI (by omega) (by omega), wr_nI (by omega) (by omega)]
  obtain ⟨h1, h2, h3, h4, h5, h6, h7, h8, h9⟩ := h
  have u : ∀ x, x ≠ 66 → (up σ 66 j (σ 66 j + 1)) x = σ x := fun x hx => up_cell _ _ hx
  refine hk _ ⟨h1.kept (fun x a b => u x (by omega)), h2.kept (fun x a b => u x (by omega)), by rw [u 0 (by omega)]; exact h3, fun i hi => by rw [u 64 (by omega)]; exact h4 i hi, by rw [u 0 (by omega)]; exact h5, fun i hi => by rw [u 65 (by omega)]; exact h6 i hi, fun i hi => ?_, fun e => by rw [u 0 (by omega)]; exact h8 e, fun v' c' e => ?_⟩
  · unfold rfU
    by_cases z : i = j
    · rw [if_pos z, z]
      show (up σ 66 j (σ 66 j + 1)) 66 j = _
      rw [up_self, h7 j hj]
    · rw [if_neg z]
      show (up σ 66 j (σ 66 j + 1)) 66 i = _
      rw [up_other _ _ (Or.inr z)]
      exact h7 i hi
  · obtain ⟨a1, a2, a3⟩ := h9 v' c' e
    exact ⟨by rw [u 0 (by omega)]; exact a1, a2.kept (fun x a b => u x (by omega)), a3.kept (fun x a b => u x (by omega))⟩
theorem AM.no {σ : sS} {v : VT} {c : CT} {n : Nat} {L : Nat → Nat} {m : Nat} {T : Nat → Nat} {rf : Nat → Int32} {im : Option (VT × CT)} (wc : WFC c) (h : AM σ v c n L m T rf im) {j : Nat} (hj : j ≤ 6) : AM (up σ 1 j (σ 1 j + 1)) v c n L m T (rfU rf j) im := by
  obtain ⟨h1, h2, h3, h4, h5, h6, h7, h8, h9⟩ := h
  have u : ∀ x, x ≠ 1 → (up σ 1 j (σ 1 j + 1)) x = σ x := fun x hx => up_cell _ _ hx
  refine ⟨h1.kept (by rw [u 0 (by omega)]) (fun x a b => u x (by omega)), h2.kept wc (fun i a b => by rw [u 0 (by omega)]) (fun x a b => u x (by omega)), by rw [u 0 (by omega)]; exact h3, fun i hi => by rw [u 29 (by omega)]; exact h4 i hi, by rw [u 0 (by omega)]; exact h5, fun i hi => by rw [u 36 (by omega)]; exact h6 i hi, fun i hi => ?_, fun e => by rw [u 0 (by omega)]; exact h8 e, fun v' c' e => ?_⟩
  · unfold rfU
    by_cases z : i = j
    · rw [if_pos z, z, up_self, h7 j hj]
    · rw [if_neg z, up_other _ _ (Or.inr z)]
      exact h7 i hi
  · obtain ⟨a1, ⟨R, a2, a4⟩, R2, a3, a5⟩ := h9 v' c' e
    exact ⟨by rw [u 0 (by omega)]; exact a1, ⟨R, a2.same (fun j _ hj => by rw [u 35 (by omega)]), a4⟩, R2, a3.same (fun j _ hj => by rw [u 35 (by omega)]), a5⟩
theorem M_no (d : Nat) {σ : sS} {v : VT} {c : CT} {n : Nat} {L : Nat → Nat} {m : Nat} {T : Nat → Nat} {rf : Nat → Int32} {im : Option (VT × CT)} (wc : WFC c) (h : AM σ v c n L m T rf im) (w : Int32) (j : Nat) (hw : -w = nI j) (hj : j ≤ 6) (k : Int32 → sS → Prop) (hk : ∀ σ', AM σ' v c n L m T (rfU rf j) im → k w σ') : CJ LM d y_MO_no [sR 0 (.inl 6), sI w] σ (rI k) := by
  refine s_MO_no_0 LM d 0 _ σ (rI k) ?_
  rw [hw]
  refine ⟨vinI (by omega) (by omega), vinI (by omega) (by omega), ?_⟩
  simp only [Nat.zero_add, cl_nI (show j < 2 ^ 31 by omega)]
  exact hk _ (h.no wc hj)
/-! letters -/
theorem OKS.wv {v : VT} {c : CT} {n : Nat} {L : Nat → Nat} {m : Nat} {T : Nat → Nat} {im : Option (VT × CT)} (h : OKS v c n L m T im) : WFV v := h.1
theorem OKS.wc {v : VT} {c : CT} {n : Nat} {L : Nat → Nat} {m : Nat} {T : Nat → Nat} {im : Option (VT × CT)} (h : OKS v c n L m T im) : WFC c := h.2.1
theorem st_letter (a : Int32) : stI RelS y_GF_letter y_MO_letter [sI a] := by
  refine stI_mk (fun σx σm v c n L m T rf im ok hx hm => ?_)
  have wc := ok.wc
  obtain ⟨o1, o2, o3, o4, o5, o6, o7⟩ := id ok
  by_cases h0 : a < 0
  · refine ⟨-4, v, c, n, L, m, T, rfU rf 4, im, ok, fun k hk => ?_, fun k hk => ?_⟩
    · refine s_GF_letter_0 LX 299 0 a σx (rI k) ⟨fun z => absurd h0 z, fun _ => ?_⟩
      exact X_refuse 298 hx (-4) 4 rfl (by omega) _ hk
    · refine s_MO_letter_0 LM 299 0 a σm (rI k) ⟨fun _ => ?_, fun z => ?_⟩
      · rw [show iBd a 0 255 = -4 from iBd_neg (lo := 0) h0 (by omega)]
        exact s_MO_letter_25 LM 299 0 _ _ σm (rI k) ⟨fun z => absurd z (by decide), fun _ => M_no 299 wc hm (-4) 4 rfl (by omega) _ hk⟩
      · rw [show iBd a 0 255 = -4 from iBd_neg (lo := 0) h0 (by omega)] at z
        exact absurd z (by decide)
  · obtain ⟨x, hxb, rfl⟩ := i32_nI h0
    have eb : iBd (nI x) 0 255 = if 255 < x then -6 else 0 := (iBd_nI (lo := 0) (hi := 255) hxb (by omega) (by omega)).trans (by rw [if_neg (by omega)])
    by_cases h255 : 255 < x
    · rw [if_pos h255] at eb
      refine ⟨-6, v, c, n, L, m, T, rfU rf 6, im, ok, fun k hk => ?_, fun k hk => ?_⟩
      · refine s_GF_letter_0 LX 299 0 _ σx (rI k) ⟨fun _ => ⟨fun _ => ?_, fun z => ?_⟩, fun z => absurd z h0⟩
        · exact s_GF_letter_27 LX 299 0 σx (rI k) (X_refuse 298 hx (-6) 6 rfl (by omega) _ hk)
        · rw [lit 255, i32_lt (by omega) hxb] at z
          exact absurd h255 z
      · refine s_MO_letter_0 LM 299 0 _ σm (rI k) ⟨fun _ => ?_, fun z => ?_⟩
        · rw [eb]
          exact s_MO_letter_25 LM 299 0 _ _ σm (rI k) ⟨fun z => absurd z (by decide), fun _ => M_no 299 wc hm (-6) 6 rfl (by omega) _ hk⟩
        · rw [eb] at z
          exact absurd z (by decide)
    · rw [if_neg h255] at eb
      by_cases h96 : n < 96
      · refine ⟨nI (n + 1), v, c, n + 1, fun i => if i = n then x else L i, m, T, rf, im, ⟨o1, o2, by omega, fun i hi => ?_, o5, o6, o7⟩, fun k hk => ?_, fun k hk => ?_⟩
        · show (if i = n then x else L i) < 256
          by_cases z : i = n
          · rw [if_pos z]; omega
          · rw [if_neg z]; exact o4 i (by omega)
        · obtain ⟨h1, h2, h3, h4, h5, h6, h7, h8, h9⟩ := hx
          refine s_GF_letter_0 LX 299 0 _ σx (rI k) ⟨fun _ => ⟨fun z => ?_, fun _ => ⟨fun _ => ?_, fun z => ?_⟩⟩, fun z => absurd z h0⟩
          · rw [lit 255, i32_lt (by omega) hxb] at z
            exact absurd z h255
          · rw [h3, wr_nI h96 (by omega), up_self, up_cell _ _ (show 0 ≠ 0 + 64 by omega), h3, nI_s1]
            have u : ∀ y, y ≠ 0 → y ≠ 64 → (up (up σx (0 + 64) n (nI x)) 0 6 (nI (n + 1))) y = σx y := fun y a b => by rw [up_cell _ _ a, up_cell _ _ b]
            have u0 : ∀ i, i ≠ 6 → (up (up σx (0 + 64) n (nI x)) 0 6 (nI (n + 1))) 0 i = σx 0 i := fun i hi => by rw [up_other _ _ (Or.inr hi), up_cell _ _ (by omega)]
            refine hk _ ⟨h1.kept (fun y a b => u y (by omega) (by omega)), h2.kept (fun y a b => u y (by omega) (by omega)), up_self _ _ _ _, fun i hi => ?_, by rw [u0 8 (by omega)]; exact h5, fun i hi => by rw [u 65 (by omega) (by omega)]; exact h6 i hi, fun i hi => by rw [u 66 (by omega) (by omega)]; exact h7 i hi, fun e => by rw [u0 12 (by omega)]; exact h8 e, fun v' c' e => ?_⟩
            · rw [up_cell _ _ (by omega)]
              show _ = nI (if i = n then x else L i)
              by_cases z : i = n
              · rw [if_pos z, z]; exact up_self _ _ _ _
              · rw [if_neg z, up_other _ _ (Or.inr z)]; exact h4 i (by omega)
            · obtain ⟨a1, a2, a3⟩ := h9 v' c' e
              exact ⟨by rw [u0 12 (by omega)]; exact a1, a2.kept (fun y a b => u y (by omega) (by omega)), a3.kept (fun y a b => u y (by omega) (by omega))⟩
          · rw [h3, lit 96, i32_lt (by omega) (by omega)] at z
            exact absurd h96 z
        · obtain ⟨h1, h2, h3, h4, h5, h6, h7, h8, h9⟩ := hm
          refine s_MO_letter_0 LM 299 0 _ σm (rI k) ⟨fun z => absurd eb z, fun _ => ⟨fun _ => ?_, fun z => ?_⟩⟩
          · rw [eb]
            refine s_MO_letter_25 LM 299 0 _ _ σm (rI k) ⟨fun _ => ?_, fun z => absurd rfl z⟩
            rw [h3]
            refine ⟨vinI (by omega) (by omega), ?_⟩
            rw [cl_nI (by omega), up_self, up_cell _ _ (show 0 ≠ 0 + 29 by omega), h3, nI_s1]
            have u : ∀ y, y ≠ 0 → y ≠ 29 → (up (up σm (0 + 29) n (nI x)) 0 42 (nI (n + 1))) y = σm y := fun y a b => by rw [up_cell _ _ a, up_cell _ _ b]
            have u0 : ∀ i, i ≠ 42 → (up (up σm (0 + 29) n (nI x)) 0 42 (nI (n + 1))) 0 i = σm 0 i := fun i hi => by rw [up_other _ _ (Or.inr hi), up_cell _ _ (by omega)]
            refine hk _ ⟨h1.kept (u0 6 (by omega)) (fun y a b => u y (by omega) (by omega)), h2.kept wc (fun i a b => u0 i (by omega)) (fun y a b => u y (by omega) (by omega)), up_self _ _ _ _, fun i hi => ?_, by rw [u0 52 (by omega)]; exact h5, fun i hi => by rw [u 36 (by omega) (by omega)]; exact h6 i hi, fun i hi => by rw [u 1 (by omega) (by omega)]; exact h7 i hi, fun e => by rw [u0 48 (by omega)]; exact h8 e, fun v' c' e => ?_⟩
            · rw [up_cell _ _ (by omega)]
              show _ = nI (if i = n then x else L i)
              by_cases z : i = n
              · rw [if_pos z, z]; exact up_self _ _ _ _
              · rw [if_neg z, up_other _ _ (Or.inr z)]; exact h4 i (by omega)
            · obtain ⟨a1, ⟨R, a2, a4⟩, R2, a3, a5⟩ := h9 v' c' e
              exact ⟨by rw [u0 48 (by omega)]; exact a1, ⟨R, a2.same (fun j _ hj => by rw [u 35 (by omega) (by omega)]), a4⟩, R2, a3.same (fun j _ hj => by rw [u 35 (by omega) (by omega)]), a5⟩
          · rw [h3, z_eq (by omega) 96 (by omega)] at z
            omega
      · refine ⟨-6, v, c, n, L, m, T, rfU rf 6, im, ok, fun k hk => ?_, fun k hk => ?_⟩
        · refine s_GF_letter_0 LX 299 0 _ σx (rI k) ⟨fun _ => ⟨fun z => ?_, fun _ => ⟨fun z => ?_, fun _ => ?_⟩⟩, fun z => absurd z h0⟩
          · rw [lit 255, i32_lt (by omega) hxb] at z
            exact absurd z h255
          · rw [hx.2.2.1, lit 96, i32_lt (by omega) (by omega)] at z
            exact absurd z h96
          · exact s_GF_letter_27 LX 299 0 σx (rI k) (X_refuse 298 hx (-6) 6 rfl (by omega) _ hk)
        · refine s_MO_letter_0 LM 299 0 _ σm (rI k) ⟨fun z => absurd eb z, fun _ => ⟨fun z => ?_, fun _ => ?_⟩⟩
          · rw [hm.2.2.1, z_eq (by omega) 96 (by omega)] at z
            omega
          · exact s_MO_letter_25 LM 299 0 _ _ σm (rI k) ⟨fun z => absurd z (by decide), fun _ => M_no 299 wc hm (-6) 6 rfl (by omega) _ hk⟩
theorem st_clear : stI RelS y_GF_clear y_MO_clear [] := by
  refine stI_mk (fun σx σm v c n L m T rf im ok hx hm => ?_)
  have wc := ok.wc
  obtain ⟨o1, o2, o3, o4, o5, o6, o7⟩ := id ok
  refine ⟨nI m, v, c, n, L, 0, T, rf, im, ⟨o1, o2, o3, o4, by omega, fun i hi => absurd hi (Nat.not_lt_zero _), o7⟩, fun k hk => ?_, fun k hk => ?_⟩
  · obtain ⟨h1, h2, h3, h4, h5, h6, h7, h8, h9⟩ := hx
    refine s_GF_clear_0 LX 300 0 σx (rI k) ?_
    rw [h5]
    have u : ∀ y, y ≠ 0 → (up σx 0 8 0) y = σx y := fun y a => up_cell _ _ a
    have u0 : ∀ i, i ≠ 8 → (up σx 0 8 0) 0 i = σx 0 i := fun i hi => up_other _ _ (Or.inr hi)
    refine hk _ ⟨h1.kept (fun y a b => u y (by omega)), h2.kept (fun y a b => u y (by omega)), by rw [u0 6 (by omega)]; exact h3, fun i hi => by rw [u 64 (by omega)]; exact h4 i hi, by rw [up_self]; rfl, fun i hi => absurd hi (Nat.not_lt_zero _), fun i hi => by rw [u 66 (by omega)]; exact h7 i hi, fun e => by rw [u0 12 (by omega)]; exact h8 e, fun v' c' e => ?_⟩
    obtain ⟨a1, a2, a3⟩ := h9 v' c' e
    exact ⟨by rw [u0 12 (by omega)]; exact a1, a2.kept (fun y a b => u y (by omega)), a3.kept (fun y a b => u y (by omega))⟩
  · obtain ⟨h1, h2, h3, h4, h5, h6, h7, h8, h9⟩ := hm
    refine s_MO_clear_0 LM 300 0 σm (rI k) ?_
    rw [h5]
    have u : ∀ y, y ≠ 0 → (up σm 0 52 0) y = σm y := fun y a => up_cell _ _ a
    have u0 : ∀ i, i ≠ 52 → (up σm 0 52 0) 0 i = σm 0 i := fun i hi => up_other _ _ (Or.inr hi)
    refine hk _ ⟨h1.kept (u0 6 (by omega)) (fun y a b => u y (by omega)), h2.kept wc (fun i a b => u0 i (by omega)) (fun y a b => u y (by omega)), by rw [u0 42 (by omega)]; exact h3, fun i hi => by rw [u 29 (by omega)]; exact h4 i hi, by rw [up_self]; rfl, fun i hi => absurd hi (Nat.not_lt_zero _), fun i hi => by rw [u 1 (by omega)]; exact h7 i hi, fun e => by rw [u0 48 (by omega)]; exact h8 e, fun v' c' e => ?_⟩
    obtain ⟨a1, ⟨R, a2, a4⟩, R2, a3, a5⟩ := h9 v' c' e
    exact ⟨by rw [u0 48 (by omega)]; exact a1, ⟨R, a2.same (fun j _ hj => by rw [u 35 (by omega)]), a4⟩, R2, a3.same (fun j _ hj => by rw [u 35 (by omega)]), a5⟩
