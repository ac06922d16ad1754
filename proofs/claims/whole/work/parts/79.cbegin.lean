/-! checks told in letters: the reference begins a check -/
def RQ (L : Nat → Nat) (n : Nat) (σ : sS) (i : Nat) (o : OC) (P F W w : Nat) : Prop := TP L n σ i ∧ σ 0 20 = nI P ∧ P ≤ i ∧ σ 0 21 = nI F ∧ F ≤ i ∧ σ 0 22 = nI W ∧ 3 * W ≤ i ∧ σ 0 23 = nI w ∧ w ≤ i ∧ σ 0 45 = nI o.length ∧ o.length ≤ i ∧ ostC σ o ∧ ∀ q, q ∈ o.tail → q.2.2 = false
def mC (σ σ' : sS) : Prop := (∀ x, x ≠ 0 → (x < 7 ∨ 19 < x) → (x < 30 ∨ 34 < x) → σ' x = σ x) ∧ ∀ i, (i < 20 ∨ 23 < i) → (i < 43 ∨ 45 < i) → σ' 0 i = σ 0 i
theorem mC.refl (σ : sS) : mC σ σ := ⟨fun _ _ _ _ => rfl, fun _ _ _ => rfl⟩
theorem mC.trans {σ σ1 σ2 : sS} (h : mC σ σ1) (g : mC σ1 σ2) : mC σ σ2 := ⟨fun x a b c => by rw [g.1 x a b c, h.1 x a b c], fun i a b => by rw [g.2 i a b, h.2 i a b]⟩
theorem eK.mC {σ σ' : sS} (h : eK σ σ') : mC σ σ' := ⟨fun x a b c => h.1 x a (by omega) (by omega) (by omega) (by omega), fun i a b => h.2 i (by omega)⟩
def SBc (n : Nat) (R : Nat ⊕ CT) (σ : sS) : Prop := ∃ p, p < n ∧ R = .inl p ∧ σ 0 44 = nI p
/-- what is told so far is what the rows tell -/
def SYN (L : Nat → Nat) (n : Nat) (R : Nat ⊕ CT) (σ : sS) (i : Nat) (o : OC) (P F W w : Nat) (c : CT) (s : List Nat) (dg fr : Nat) : Prop := (∀ m, n ≤ i + m → cbu L n m i c s dg fr w = R) ∧ σ 0 44 = -1 ∧ CG i (c, s, dg, fr, w) ∧ MS σ c 0 s ∧ MSp σ c dg fr ∧ P = cM c ∧ F = cN c ∧ W = cW c ∧ w ≤ 3 ∧ o = opC c 0 s
/-- a check is to come -/
def STc (L : Nat → Nat) (n : Nat) (R : Nat ⊕ CT) (σ : sS) (i : Nat) (o : OC) (P F W w : Nat) : Prop := SBc n R σ ∨ ∃ c s dg fr, SYN L n R σ i o P F W w c s dg fr ∧ hdC c s dg = 0
/-- the head of the loop -/
def SHc (L : Nat → Nat) (n : Nat) (R : Nat ⊕ CT) (σ : sS) (i : Nat) (o : OC) (P F W w : Nat) : Prop := SBc n R σ ∨ ∃ c s fr, SYN L n R σ i o P F W w c s 0 fr ∧ 1 ≤ cM c
def insO (σ : sS) : OC → Prop
  | [] => False
  | q :: r => σ 34 r.length = 1 ∨ q.1 = 123 ∨ q.1 = 64
theorem insO_iff {σ : sS} {c : CT} {b : Nat} {s : List Nat} {dg : Nat} (g : GC b c s dg) (m : mstC σ c s) : insO σ (opC c b s) ↔ 1 ≤ clv c s := by
  cases s with
  | nil => exact ⟨fun h => h.elim, fun h => absurd h (by show ¬ 1 ≤ 0; omega)⟩
  | cons q r =>
    have e11 := g.lev (q := q) (r := r) rfl
    have h34 := m.1.2.2.1
    have el : (opC c 1 r).length = r.length := opC_len c 1 r
    show (σ 34 (opC c 1 r).length = 1 ∨ cF c 0 q = 123 ∨ cF c 0 q = 64) ↔ 1 ≤ cF c 11 q + (if cF c 0 q = 123 ∨ cF c 0 q = 64 then 1 else 0)
    rw [el, h34, e11]
    by_cases z : cF c 0 q = 123 ∨ cF c 0 q = 64
    · rw [if_pos z]
      exact ⟨fun _ => by omega, fun _ => Or.inr z⟩
    · rw [if_neg z]
      by_cases y : 1 ≤ clv c r
      · rw [if_pos y]
        exact ⟨fun _ => by omega, fun _ => Or.inl rfl⟩
      · rw [if_neg y]
        refine ⟨fun h => ?_, fun h => by omega⟩
        rcases h with h | h
        · exact absurd h (by decide)
        · exact absurd h z
theorem c_MO_isInside (Y : List kd) (d : Nat) {σ : sS} {o : OC} (h45 : σ 0 45 = nI o.length) (hl : o.length ≤ 96) (ho : ostC σ o) (k : Int32 → sS → Prop) (hk : ∀ x : Nat, x ≤ 1 → (x = 1 ↔ insO σ o) → k (nI x) σ) : CJ Y d y_MO_isInside [sR 0 (.inl 6)] σ (rI k) := by
  refine s_MO_isInside_0 Y d 0 σ (rI k) ?_
  rw [h45]
  cases o with
  | nil =>
    refine ⟨fun _ => ⟨Or.inl rfl, ?_⟩, fun h => absurd h (by show ¬ (0 : Int32) < nI 0; decide)⟩
    exact hk 0 (by omega) ⟨fun h => absurd h (by decide), fun h => h.elim⟩
  | cons q r =>
    rw [List.length_cons] at hl ⊢
    have e1 : nI (r.length + 1) - 1 = nI r.length := nI_subm (a := r.length + 1) (b := 1) (by omega)
    obtain ⟨⟨o31, oS, -⟩, -⟩ := ho
    have qb := openS_lt oS
    have v100 : vp_in (nI r.length) 100 := vinI (by omega) (by omega)
    simp only [Nat.zero_add, e1, cl_nI (show r.length < 2 ^ 31 by omega)]
    rw [o31, z_eq qb 123 (by omega), z_eq qb 64 (by omega)]
    have yes : insO σ (q :: r) → (rI k) (some (sI 1)) σ := fun h => (hk 1 (by omega) ⟨fun _ => h, fun _ => rfl⟩)
    refine ⟨fun h => ?_, fun _ => ⟨v100, fun e => ⟨by decide, yes (Or.inl e)⟩, fun n34 => ⟨v100, fun e => ⟨by decide, yes (Or.inr (Or.inl e))⟩, fun n123 => ⟨v100, fun n64 => ⟨by decide, hk 0 (by omega) ⟨fun h => absurd h (by decide), fun h => ?_⟩⟩, fun e => ⟨by decide, yes (Or.inr (Or.inr e))⟩⟩⟩⟩⟩
    · rw [lit 0, i32_lt (by omega) (by omega)] at h
      exact absurd (Nat.zero_lt_succ _) h
    rcases h with h | h | h
    · exact absurd h n34
    · exact absurd h n123
    · exact absurd h n64
def m24 (P : Nat) : Nat := if P < 24 then P else 24
theorem m24_le (P : Nat) : m24 P ≤ 24 := by unfold m24; split <;> omega
def bdC (σ : sS) (P w : Nat) (o : OC) (sg : Nat) : Prop := 24 ≤ P ∨ (sg = 94 ∧ (¬ insO σ o ∨ w = 3))
/-- what has changed when a check's sign (and its digits) are read; bd: it is not as it must be -/
def CB (σ σ' : sS) (i j P w sg lo hi : Nat) (bd : Prop) : Prop := (bd → σ' 0 44 = if σ 0 44 < 0 then nI i else σ 0 44) ∧ (¬ bd → σ' 0 44 = σ 0 44) ∧ σ' 7 (m24 P) = nI sg ∧ σ' 8 (m24 P) = nI lo ∧ σ' 9 (m24 P) = nI hi ∧ (∀ x, 7 ≤ x → x ≤ 11 → ∀ y, y ≠ m24 P → σ' x y = σ x y) ∧ σ' 0 20 = nI (P + 1) ∧ σ' 0 23 = nI (if sg = 94 then w + 1 else w) ∧ σ' 0 43 = nI j ∧ (∀ x, x ≠ 0 → (x < 7 ∨ 11 < x) → σ' x = σ x) ∧ (∀ j, j ≠ 20 → j ≠ 23 → j ≠ 43 → j ≠ 44 → σ' 0 j = σ 0 j)
theorem c_MO_beginsCheck (Y : List kd) (d : Nat) {L : Nat → Nat} {n : Nat} {σ : sS} {i : Nat} {o : OC} {P F W w : Nat} (h : RQ L n σ i o P F W w) {sg : Nat} (hsg : sg < 256) (k : Int32 → sS → Prop)
    (hk : ∀ σ', CB σ σ' i (i + 1) P w sg 0 0 (bdC σ P w o sg) → k (nI (m24 P)) σ') : CJ Y (d + 1) y_MO_beginsCheck [sR 0 (.inl 6), sI (nI sg)] σ (rI k) := by
  obtain ⟨⟨h43, h42, hL, hn, hin⟩, h20, hP, h21, hF, h22, hW, h23, hw, h45, hol, ho, hd⟩ := h
  have hsb : sg < 2 ^ 31 := by omega
  have hm := m24_le P
  have go57 : ∀ τ : sS, (bdC σ P w o sg → τ 0 44 = if σ 0 44 < 0 then nI i else σ 0 44) → (¬ bdC σ P w o sg → τ 0 44 = σ 0 44) → (∀ x, x ≠ 0 → τ x = σ x) → (∀ j, j ≠ 44 → τ 0 j = σ 0 j) → Jd Y (d + 1) y_MO_beginsCheck 57 [(0, sR 0 (.inl 6)), (1, sI (nI sg)), (2, sI (nI (m24 P)))] [] τ (rI k) := by
    intro τ b1 b2 tx t0
    have go73 : ∀ z : Nat, z = (if sg = 94 then 1 else 0) → Jd Y (d + 1) y_MO_beginsCheck 73 [(0, sR 0 (.inl 6)), (1, sI (nI sg)), (2, sI (nI (m24 P)))] [sI (nI z), sI (τ 0 23), sR 0 (.inl 6)] τ (rI k) := by
      intro z hz
      refine s_MO_beginsCheck_73 Y d 0 _ _ _ _ _ τ (rI k) ?_
      have v25 : vp_in (nI (m24 P)) 25 := vinI (by omega) (by omega)
      refine ⟨v25, v25, v25, v25, v25, ?_⟩
      simp only [Nat.zero_add, cl_nI (show m24 P < 2 ^ 31 by omega)]
      have c0 : ∀ (τ : sS) (c j : Nat) (x : Int32), c ≠ 0 → up τ c j x 0 = τ 0 := fun τ c j x hc => up_cell _ _ (fun z => hc z.symm)
      have ez : τ 0 23 + nI z = nI (if sg = 94 then w + 1 else w) := by
        rw [t0 23 (by omega), h23, nI_add, hz]
        congr 1
        split <;> omega
      rw [ez]
      have q20 : (up (up (up (up (up (up τ 0 23 (nI (if sg = 94 then w + 1 else w))) 7 (m24 P) (nI sg)) 8 (m24 P) 0) 9 (m24 P) 0) 10 (m24 P) 0) 11 (m24 P) 0) 0 20 = nI P := by
        rw [c0 _ _ _ _ (by omega), c0 _ _ _ _ (by omega), c0 _ _ _ _ (by omega), c0 _ _ _ _ (by omega), c0 _ _ _ _ (by omega), up_other _ _ (Or.inr (by omega)), t0 20 (by omega), h20]
      rw [q20, nI_s1]
      obtain ⟨τ1, e1⟩ : ∃ τ1, τ1 = up (up (up (up (up (up τ 0 23 (nI (if sg = 94 then w + 1 else w))) 7 (m24 P) (nI sg)) 8 (m24 P) 0) 9 (m24 P) 0) 10 (m24 P) 0) 11 (m24 P) 0 := ⟨_, rfl⟩
      rw [← e1]
      have a0 : ∀ j, τ1 0 j = (up τ 0 23 (nI (if sg = 94 then w + 1 else w))) 0 j := fun j => by
        rw [e1, c0 _ _ _ _ (by omega), c0 _ _ _ _ (by omega), c0 _ _ _ _ (by omega), c0 _ _ _ _ (by omega), c0 _ _ _ _ (by omega)]
      have q43 : (up τ1 0 20 (nI (P + 1))) 0 43 = nI i := by
        rw [up_other _ _ (Or.inr (by omega)), a0, up_other _ _ (Or.inr (by omega)), t0 43 (by omega), h43]
      rw [q43, nI_s1]
      have b0 : ∀ j, j ≠ 20 → j ≠ 43 → (up (up τ1 0 20 (nI (P + 1))) 0 43 (nI (i + 1))) 0 j = (up τ 0 23 (nI (if sg = 94 then w + 1 else w))) 0 j := fun j j1 j2 => by
        rw [up_other _ _ (Or.inr j2), up_other _ _ (Or.inr j1), a0]
      have bx : ∀ x, x ≠ 0 → (up (up τ1 0 20 (nI (P + 1))) 0 43 (nI (i + 1))) x = τ1 x := fun x hx => by rw [up_cell _ _ hx, up_cell _ _ hx]
      refine hk _ ⟨fun z => ?_, fun z => ?_, ?_, ?_, ?_, fun x x1 x2 y hy => ?_, ?_, ?_, up_self _ _ _ _, fun x x0 hx => ?_, fun j j1 j2 j3 j4 => ?_⟩
      · rw [b0 44 (by omega) (by omega), up_other _ _ (Or.inr (by omega))]; exact b1 z
      · rw [b0 44 (by omega) (by omega), up_other _ _ (Or.inr (by omega))]; exact b2 z
      · rw [bx 7 (by omega), e1, up_cell _ _ (by omega), up_cell _ _ (by omega), up_cell _ _ (by omega), up_cell _ _ (by omega), up_self]
      · rw [bx 8 (by omega), e1, up_cell _ _ (by omega), up_cell _ _ (by omega), up_cell _ _ (by omega), up_self]; rfl
      · rw [bx 9 (by omega), e1, up_cell _ _ (by omega), up_cell _ _ (by omega), up_self]; rfl
      · rw [bx x (by omega), e1, up_other _ _ (Or.inr hy), up_other _ _ (Or.inr hy), up_other _ _ (Or.inr hy), up_other _ _ (Or.inr hy), up_other _ _ (Or.inr hy), up_cell _ _ (by omega), tx x (by omega)]
      · rw [up_other _ _ (Or.inr (by omega)), up_self]
      · rw [b0 23 (by omega) (by omega), up_self]
      · rw [bx x x0, e1, up_cell _ _ (by omega), up_cell _ _ (by omega), up_cell _ _ (by omega), up_cell _ _ (by omega), up_cell _ _ (by omega), up_cell _ _ x0, tx x x0]
      · rw [b0 j j1 j3, up_other _ _ (Or.inr j2), t0 j j4]
    refine s_MO_beginsCheck_57 Y d 0 _ _ τ (rI k) ?_
    rw [z_eq hsb 94 (by omega)]
    exact ⟨fun n94 => go73 0 (by rw [if_neg n94]), fun e94 => go73 1 (by rw [if_pos e94])⟩
  have go49 : bdC σ P w o sg → Jd Y (d + 1) y_MO_beginsCheck 49 [(0, sR 0 (.inl 6)), (1, sI (nI sg)), (2, sI (nI (m24 P)))] [] σ (rI k) := by
    intro hb
    refine s_MO_beginsCheck_49 Y d 0 _ _ σ (rI k) ?_
    rw [h43]
    refine c_MO_isBad Y d i _ ?_
    exact go57 _ (fun _ => up_self _ _ _ _) (fun z => absurd hb z) (fun x hx => up_cell _ _ hx) (fun j hj => up_other _ _ (Or.inr hj))
  have ok57 : ¬ bdC σ P w o sg → Jd Y (d + 1) y_MO_beginsCheck 57 [(0, sR 0 (.inl 6)), (1, sI (nI sg)), (2, sI (nI (m24 P)))] [] σ (rI k) := fun hb => go57 σ (fun z => absurd z hb) (fun _ => rfl) (fun _ _ => rfl) (fun _ _ => rfl)
  have go18 : Jd Y (d + 1) y_MO_beginsCheck 18 [(0, sR 0 (.inl 6)), (1, sI (nI sg))] [sI (nI (m24 P))] σ (rI k) := by
    refine s_MO_beginsCheck_18 Y d 0 _ _ σ (rI k) ?_
    rw [h20, lit 24, i32_lt (by omega) (by omega), z_eq hsb 94 (by omega)]
    refine ⟨fun hge => go49 (Or.inl (by omega)), fun hlt => ⟨fun n94 => ok57 ?_, fun e94 => ?_⟩⟩
    · rintro (z | z)
      · omega
      · exact n94 z.1
    · refine c_MO_isInside Y d h45 (by omega) ho _ (fun x x1 hx => ⟨fun z => ?_, fun z => ?_⟩)
      · rw [z_eq (by omega) 0 (by omega)] at z
        refine go49 (Or.inr ⟨e94, Or.inl (fun y => ?_)⟩)
        have := hx.mpr y
        omega
      · rw [z_eq (by omega) 0 (by omega)] at z
        rw [h23, z_eq (by omega) 3 (by omega)]
        refine ⟨fun n3 => ok57 ?_, fun e3 => go49 (Or.inr ⟨e94, Or.inr e3⟩)⟩
        rintro (y | ⟨-, y | y⟩)
        · omega
        · exact y (hx.mp (by omega))
        · exact n3 y
  refine s_MO_beginsCheck_0 Y d 0 _ σ (rI k) ?_
  rw [h20, lit 24, i32_lt (by omega) (by omega)]
  refine ⟨fun hge => ?_, fun hlt => ?_⟩
  · have e : m24 P = 24 := by unfold m24; rw [if_neg hge]
    rw [e] at go18
    exact go18
  · have e : m24 P = P := by unfold m24; rw [if_pos hlt]
    rw [e] at go18
    exact go18
/-! digits -/
def vvD (dn : Nat) (L : Nat → Nat) (i : Nat) : Nat → Nat
  | 0 => 0
  | j + 1 => if j = dn then L (i + j) - 48 else 10 * vvD dn L i j + (L (i + j) - 48)
theorem vvD_lt (dn : Nat) (L : Nat → Nat) (i : Nat) : ∀ j, (∀ k, k < j → isD (L (i + k)) = true) → vvD dn L i j < 10 ^ j
  | 0, _ => by show 0 < 1; omega
  | j + 1, h => by
    have h1 := vvD_lt dn L i j (fun k hk => h k (by omega))
    have h2 := isD_iff.mp (h j (by omega))
    show (if j = dn then L (i + j) - 48 else 10 * vvD dn L i j + (L (i + j) - 48)) < 10 ^ (j + 1)
    have h3 : 1 ≤ 10 ^ j := Nat.one_le_pow _ _ (by omega)
    rw [Nat.pow_succ]
    split <;> omega
def rbF (σ τ : sS) (cx : Nat) : Prop := (∀ x, x ≠ 0 → x ≠ 8 → x ≠ 9 → τ x = σ x) ∧ (∀ x, x = 8 ∨ x = 9 → ∀ y, y ≠ cx → τ x y = σ x y) ∧ ∀ p, p ≠ 43 → τ 0 p = σ 0 p
theorem c_rb_loop (Y : List kd) (d : Nat) {L : Nat → Nat} {n i cx dn : Nat} {σ : sS} (hdn : dn = 1 ∨ dn = 2) (hi1 : 1 ≤ i) (hcx : cx ≤ 24) (k : Int32 → sS → Prop)
    (h1 : ∀ τ, (∀ j, j < 2 * dn → i + j < n ∧ isD (L (i + j)) = true) → τ 0 43 = nI (i + 2 * dn) → (∀ p, p ≠ 43 → p ≠ 44 → τ 0 p = σ 0 p) → (vvD dn L i (2 * dn) < vvD dn L i dn → τ 0 44 = if σ 0 44 < 0 then nI (i - 1) else σ 0 44) → (¬ vvD dn L i (2 * dn) < vvD dn L i dn → τ 0 44 = σ 0 44) → τ 8 cx = nI (vvD dn L i dn) → τ 9 cx = nI (vvD dn L i (2 * dn)) → (∀ x, x ≠ 0 → x ≠ 8 → x ≠ 9 → τ x = σ x) → (∀ x, x = 8 ∨ x = 9 → ∀ y, y ≠ cx → τ x y = σ x y) → k 1 τ)
    (h0 : ∀ τ j, τ 0 43 = nI j → rbF σ τ cx → (∀ ld S, cst L (n - i) i (2, 2 * dn, ld, S) = some j) → k 0 τ) :
    ∀ m j τ, j + m = 2 * dn → TP L n τ (i + j) → rbF σ τ cx → (1 ≤ j → j ≤ dn → τ 8 cx = nI (vvD dn L i j)) → (dn < j → τ 8 cx = nI (vvD dn L i dn) ∧ τ 9 cx = nI (vvD dn L i j)) → (∀ j', j' < j → i + j' < n ∧ isD (L (i + j')) = true) → (∀ ld S, m ≠ 0 → cst L (n - i) i (2, 2 * dn, ld, S) = cst L (n - (i + j)) (i + j) (2, m, ld, S)) →
      Jd Y (d + 2) y_MO_readsBounds 13 [(0, sR 0 (.inl 6)), (1, sI (nI cx)), (2, sI (nI dn)), (3, sI (nI (i - 1))), (4, sI (nI (vvD dn L i j))), (5, sI (nI j))] [] τ (rI k) := by
  intro m
  induction m with
  | zero =>
    intro j τ hj hT hF h8 h9 hD hC
    have ej : j = 2 * dn := by omega
    subst ej
    obtain ⟨e8, e9⟩ := h9 (by omega)
    have b1 := vvD_lt dn L i dn (fun k hk => (hD k (by omega)).2)
    have b2 := vvD_lt dn L i (2 * dn) (fun k hk => (hD k (by omega)).2)
    have b3 : (10 : Nat) ^ dn ≤ 100 := by rcases hdn with e | e <;> rw [e] <;> decide
    have b4 : (10 : Nat) ^ (2 * dn) ≤ 10000 := by rcases hdn with e | e <;> rw [e] <;> decide
    refine s_MO_readsBounds_13 Y (d + 1) 0 _ _ _ _ _ τ (rI k) ⟨fun _ => ⟨vinI (by omega) (by omega), vinI (by omega) (by omega), ?_⟩, fun hlt => ?_⟩
    · simp only [Nat.zero_add, cl_nI (show cx < 2 ^ 31 by omega)]
      rw [e8, e9, i32_lt (by omega) (by omega)]
      refine ⟨fun hn => ⟨by decide, h1 τ hD hT.1 (fun p p1 _ => hF.2.2 p p1) (fun z => absurd z hn) (fun _ => hF.2.2 44 (by omega)) e8 e9 hF.1 hF.2.1⟩, fun hlt => ?_⟩
      refine c_MO_isBad Y (d + 1) (i - 1) _ ⟨by decide, ?_⟩
      refine h1 _ hD ?_ (fun p p1 p2 => ?_) (fun _ => ?_) (fun z => absurd hlt z) ?_ ?_ (fun x x0 x8 x9 => ?_) (fun x hx y hy => ?_)
      · rw [up_other _ _ (Or.inr (by omega))]; exact hT.1
      · rw [up_other _ _ (Or.inr p2)]; exact hF.2.2 p p1
      · rw [up_self, hF.2.2 44 (by omega)]
      · rw [up_cell _ _ (by omega)]; exact e8
      · rw [up_cell _ _ (by omega)]; exact e9
      · rw [up_cell _ _ x0]; exact hF.1 x x0 x8 x9
      · rw [up_cell _ _ (by omega)]; exact hF.2.1 x hx y hy
    · rw [show (2 : Int32) * nI dn = nI (2 * dn) from pk_mul 2 dn, i32_lt (by omega) (by omega)] at hlt
      omega
  | succ m ih =>
    intro j τ hj hT hF h8 h9 hD hC
    have hj4 : j < 4 := by omega
    have bv := vvD_lt dn L i j (fun k hk => (hD k hk).2)
    have b3 : (10 : Nat) ^ j ≤ 1000 := by
      have : j = 0 ∨ j = 1 ∨ j = 2 ∨ j = 3 := by omega
      rcases this with e | e | e | e <;> rw [e] <;> decide
    refine s_MO_readsBounds_13 Y (d + 1) 0 _ _ _ _ _ τ (rI k) ⟨fun hge => ?_, fun _ => ?_⟩
    · rw [show (2 : Int32) * nI dn = nI (2 * dn) from pk_mul 2 dn, i32_lt (by omega) (by omega)] at hge
      omega
    · refine c_MO_digit Y d hT _ (fun hlt hd => ⟨fun _ => ?_, fun z => absurd z (nI_pos (by have := isD_iff.mp hd; omega))⟩) (fun hnd => ⟨fun z => absurd (by decide) z, fun _ => ⟨Or.inl rfl, ?_⟩⟩)
      · have hdb := isD_iff.mp hd
        -- behind a digit
        have go : ∀ v, v = vvD dn L i (j + 1) → Jd Y (d + 2) y_MO_readsBounds 53 [(0, sR 0 (.inl 6)), (1, sI (nI cx)), (2, sI (nI dn)), (3, sI (nI (i - 1))), (5, sI (nI j))] [sI (nI v)] (up τ 0 43 (nI (i + j + 1))) (rI k) := by
          intro v hv
          subst hv
          have v25 : vp_in (nI cx) 25 := vinI (by omega) (by omega)
          have hD' : ∀ j', j' < j + 1 → i + j' < n ∧ isD (L (i + j')) = true := fun j' hj' => by
            by_cases e : j' = j
            · rw [e]; exact ⟨hlt, hd⟩
            · exact hD j' (by omega)
          have hC' : ∀ ld S, m ≠ 0 → cst L (n - i) i (2, 2 * dn, ld, S) = cst L (n - (i + (j + 1))) (i + (j + 1)) (2, m, ld, S) := fun ld S hm => by
            rw [hC ld S (by omega), cst_num hT.2.2.2.2, if_pos ⟨hlt, hd⟩, Nat.add_sub_cancel, if_neg hm]
            rfl
          have hT' : ∀ c y x, c ≠ 0 → c ≠ 29 → TP L n (up (up τ 0 43 (nI (i + j + 1))) c y x) (i + (j + 1)) := fun c y x c0 c29 => hT.kept (by rw [up_cell _ _ (fun z => c0 z.symm), up_self]; rfl) (by omega) (by rw [up_cell _ _ (fun z => c0 z.symm), up_other _ _ (Or.inr (by omega))]) (by rw [up_cell _ _ (fun z => c29 z.symm), up_cell _ _ (by omega)])
          refine s_MO_readsBounds_53 Y (d + 1) 0 _ _ _ _ _ _ (rI k) ?_
          rw [i32_lt (by omega) (by omega)]
          refine ⟨fun hge => ⟨v25, ?_⟩, fun hlt2 => ⟨v25, ?_⟩⟩
          · simp only [Nat.zero_add, cl_nI (show cx < 2 ^ 31 by omega)]
            refine s_MO_readsBounds_80 Y (d + 1) 0 _ _ _ _ _ _ (rI k) ?_
            rw [nI_s1]
            refine ih (j + 1) _ (by omega) (hT' 9 cx _ (by omega) (by omega)) ⟨fun x x0 x8 x9 => ?_, fun x hx y hy => ?_, fun p hp => ?_⟩ (fun _ z => by omega) (fun _ => ⟨?_, ?_⟩) hD' hC'
            · rw [up_cell _ _ x9, up_cell _ _ x0]; exact hF.1 x x0 x8 x9
            · rw [up_other _ _ (Or.inr hy), up_cell _ _ (by omega)]; exact hF.2.1 x hx y hy
            · rw [up_cell _ _ (by omega), up_other _ _ (Or.inr hp)]; exact hF.2.2 p hp
            · rw [up_cell _ _ (by omega), up_cell _ _ (by omega)]
              by_cases e : j = dn
              · rw [h8 (by omega) (by omega), e]
              · exact (h9 (by omega)).1
            · rw [up_self]
          · simp only [Nat.zero_add, cl_nI (show cx < 2 ^ 31 by omega)]
            refine s_MO_readsBounds_80 Y (d + 1) 0 _ _ _ _ _ _ (rI k) ?_
            rw [nI_s1]
            refine ih (j + 1) _ (by omega) (hT' 8 cx _ (by omega) (by omega)) ⟨fun x x0 x8 x9 => ?_, fun x hx y hy => ?_, fun p hp => ?_⟩ (fun _ z => ?_) (fun z => by omega) hD' hC'
            · rw [up_cell _ _ x8, up_cell _ _ x0]; exact hF.1 x x0 x8 x9
            · rw [up_other _ _ (Or.inr hy), up_cell _ _ (by omega)]; exact hF.2.1 x hx y hy
            · rw [up_cell _ _ (by omega), up_other _ _ (Or.inr hp)]; exact hF.2.2 p hp
            · rw [up_self]
        rw [i32_eq (by omega) (by omega)]
        refine ⟨fun hne => ?_, fun he => ?_⟩
        · rw [show (10 : Int32) * nI (vvD dn L i j) = nI (10 * vvD dn L i j) from pk_mul 10 _, nI_add]
          exact go _ (by show _ = if j = dn then _ else _; rw [if_neg hne])
        · exact go _ (by show _ = if j = dn then _ else _; rw [if_pos he])
      · refine h0 τ (i + j) hT.1 hF (fun ld S => ?_)
        rw [hC ld S (by omega), cst_num hT.2.2.2.2, if_neg]
        rintro ⟨z1, z2⟩
        rw [hnd z1] at z2
        cases z2
theorem c_MO_readsBounds (Y : List kd) (d : Nat) {L : Nat → Nat} {n i cx dn : Nat} {σ : sS} (hT : TP L n σ i) (hdn : dn = 1 ∨ dn = 2) (hi1 : 1 ≤ i) (hcx : cx ≤ 24) (k : Int32 → sS → Prop)
    (h1 : ∀ τ, (∀ j, j < 2 * dn → i + j < n ∧ isD (L (i + j)) = true) → τ 0 43 = nI (i + 2 * dn) → (∀ p, p ≠ 43 → p ≠ 44 → τ 0 p = σ 0 p) → (vvD dn L i (2 * dn) < vvD dn L i dn → τ 0 44 = if σ 0 44 < 0 then nI (i - 1) else σ 0 44) → (¬ vvD dn L i (2 * dn) < vvD dn L i dn → τ 0 44 = σ 0 44) → τ 8 cx = nI (vvD dn L i dn) → τ 9 cx = nI (vvD dn L i (2 * dn)) → (∀ x, x ≠ 0 → x ≠ 8 → x ≠ 9 → τ x = σ x) → (∀ x, x = 8 ∨ x = 9 → ∀ y, y ≠ cx → τ x y = σ x y) → k 1 τ)
    (h0 : ∀ τ j, τ 0 43 = nI j → rbF σ τ cx → (∀ ld S, cst L (n - i) i (2, 2 * dn, ld, S) = some j) → k 0 τ) :
    CJ Y (d + 2) y_MO_readsBounds [sR 0 (.inl 6), sI (nI cx), sI (nI dn)] σ (rI k) := by
  refine s_MO_readsBounds_0 Y (d + 1) 0 _ _ σ (rI k) ?_
  have e : σ 0 43 - 1 = nI (i - 1) := by
    rw [hT.1]
    exact nI_subm (a := i) (b := 1) hi1
  rw [e]
  exact c_rb_loop Y d hdn hi1 hcx k h1 h0 (2 * dn) 0 σ (by omega) hT ⟨fun _ _ _ _ => rfl, fun _ _ _ _ => rfl, fun _ _ => rfl⟩ (fun z => by omega) (fun z => by omega) (fun j hj => absurd hj (Nat.not_lt_zero _)) (fun ld S _ => rfl)
/-! which letters go on where a check is to come -/
theorem cst_digs {L : Nat → Nat} {n : Nat} (ld : Bool) (S : List Nat) : ∀ k i, i ≤ n → (∀ j, j < k + 1 → i + j < n ∧ isD (L (i + j)) = true) → cst L (n - i) i (2, k + 1, ld, S) = cst L (n - (i + k + 1)) (i + k + 1) (if ld then (0, 0, false, S) else cend S)
  | 0, i, hi, h => by
    rw [cst_num hi, if_pos (show i < n ∧ isD (L i) = true from h 0 (by omega)), if_pos rfl]
  | k + 1, i, hi, h => by
    have h0 : i < n ∧ isD (L i) = true := h 0 (by omega)
    rw [cst_num hi, if_pos h0, if_neg (by omega), Nat.add_sub_cancel, cst_digs ld S k (i + 1) h0.1 (fun j hj => by
      have := h (j + 1) (by omega)
      rw [show i + (j + 1) = i + 1 + j by omega] at this
      exact this)]
    rw [show i + 1 + k + 1 = i + (k + 1) + 1 by omega]
theorem cbeg_none {s : List Nat} {c : Nat} (h : ¬ sgOK c) : cbeg s c = none := by
  cases e : cbeg s c with
  | none => rfl
  | some b => exact absurd (cbeg_good e).1 h
theorem cbeg_some {s : List Nat} {c : Nat} (h : sgOK c) : ∃ b, cbeg s c = some b := by
  cases e : cbeg s c with
  | some b => exact ⟨b, rfl⟩
  | none =>
    exfalso
    unfold sgOK at h
    unfold cbeg at e
    split at e
    · cases e
    · split at e
      · cases e
      · split at e
        · cases e
        · split at e
          · cases e
          · split at e
            · cases e
            · split at e
              · cases e
              · omega
theorem cst_sign {L : Nat → Nat} {n i : Nat} (hi : i < n) (S : List Nat) (h : sgOK (L i)) :
    (L i = 35 → cst L (n - i) i (0, 0, false, S) = cst L (n - (i + 1)) (i + 1) (2, 4, false, S)) ∧ (L i = 64 → cst L (n - i) i (0, 0, false, S) = cst L (n - (i + 1)) (i + 1) (2, 2, true, S)) ∧
    ((∀ j, 1 ≤ j → j ≤ ctl (L i) → i + j < n ∧ isD (L (i + j)) = true) → (leafS (L i) → cst L (n - i) i (0, 0, false, S) = cst L (n - (i + ctl (L i) + 1)) (i + ctl (L i) + 1) (cend S)) ∧ (¬ leafS (L i) → cst L (n - i) i (0, 0, false, S) = cst L (n - (i + ctl (L i) + 1)) (i + ctl (L i) + 1) (opnC (L i) S))) := by
  obtain ⟨b, hb⟩ := cbeg_some (s := S) h
  obtain ⟨k0, k1, k2, k3, k4, k5, k6⟩ := cbeg_good hb
  have st : cst L (n - i) i (0, 0, false, S) = cst L (n - (i + 1)) (i + 1) b := cst_step hi (show cgo (0, 0, false, S) (L i) = some b from hb)
  unfold sgOK at k0
  refine ⟨fun e => by rw [st, k2 e], fun e => by rw [st, k3 e], fun hd => ?_⟩
  unfold leafS ctl opnC
  unfold ctl at hd
  by_cases z35 : L i = 35
  · rw [if_pos z35] at hd ⊢
    refine ⟨fun _ => ?_, fun y => by omega⟩
    rw [st, k2 z35, cst_digs false S 3 (i + 1) (by omega) (fun j hj => by
      have := hd (j + 1) (by omega) (by omega)
      rw [show i + (j + 1) = i + 1 + j by omega] at this
      exact this)]
    rw [show i + 1 + 3 + 1 = i + 4 + 1 by omega]
    rfl
  · rw [if_neg z35, if_neg (by omega)] at hd ⊢
    by_cases z64 : L i = 64
    · rw [if_pos (by omega)] at hd ⊢
      refine ⟨fun y => by omega, fun _ => ?_⟩
      rw [st, k3 z64, cst_digs true S 1 (i + 1) (by omega) (fun j hj => by
        have := hd (j + 1) (by omega) (by omega)
        rw [show i + (j + 1) = i + 1 + j by omega] at this
        exact this)]
      rw [show i + 1 + 1 + 1 = i + 2 + 1 by omega, if_pos rfl, if_neg (show ¬ L i = 123 by omega), if_neg (show ¬ L i = 47 by omega)]
    · rw [if_neg (by omega)]
      refine ⟨fun y => by rw [st, k1 (by omega)], fun y => ?_⟩
      by_cases z123 : L i = 123
      · rw [if_pos z123, st, k6 z123]
      · rw [if_neg z123]
        by_cases z47 : L i = 47
        · rw [if_pos z47, st, k5 z47]
        · rw [if_neg z47, st, k4 (by omega)]
