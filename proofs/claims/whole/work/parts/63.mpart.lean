/-! the reference reads values: a part begins -/
def inc (o : OP) : OP := match o with
  | [] => []
  | q :: r => (q.1, q.2 + 1) :: r
theorem inc_len (o : OP) : (inc o).length = o.length := by cases o <;> rfl
def RG (L : Nat → Nat) (n : Nat) (σ : sS) (i B P : Nat) (o : OP) : Prop := TP L n σ i ∧ σ 0 6 = nI P ∧ P ≤ B ∧ B ≤ 97 ∧ σ 0 45 = nI o.length ∧ o.length ≤ B ∧ ost 20 σ o ∧ (∀ q, q ∈ o → (q.1 = 2 ∨ q.1 = 3) ∧ q.2 ≤ B) ∧ ∀ q, q ∈ o.tail → 1 ≤ q.2
theorem RG.mono {L : Nat → Nat} {n : Nat} {σ : sS} {i B B' P : Nat} {o : OP} (h : RG L n σ i B P o) (hb : B ≤ B') (hb2 : B' ≤ 97) : RG L n σ i B' P o := by
  obtain ⟨a1, a2, a3, a4, a5, a6, a7, a8, a9⟩ := h
  exact ⟨a1, a2, by omega, hb2, a5, by omega, a7, fun q hq => ⟨(a8 q hq).1, by have := (a8 q hq).2; omega⟩, a9⟩
def bdR (P : Nat) (o : OP) : Prop := 20 ≤ P ∨ 5 ≤ o.length ∨ ∃ q r, o = q :: r ∧ q.1 = 3 ∧ 4 ≤ q.2
def m20 (P : Nat) : Nat := if P < 20 then P else 20
theorem m20_le (P : Nat) : m20 P ≤ 20 := by
  unfold m20
  split <;> omega
/-- what has changed when a part has begun -/
def BP (σ σ' : sS) (i P : Nat) (o : OP) (of x : Nat) : Prop := (bdR P o → σ' 0 44 = if σ 0 44 < 0 then nI i else σ 0 44) ∧ (¬ bdR P o → σ' 0 44 = σ 0 44) ∧
  σ' 2 (m20 P) = nI of ∧ σ' 3 (m20 P) = nI x ∧ σ' 4 (m20 P) = σ 0 46 ∧ (∀ y, y ≠ m20 P → σ' 2 y = σ 2 y ∧ σ' 3 y = σ 3 y ∧ σ' 4 y = σ 4 y) ∧ σ' 0 46 = σ 0 46 ∧ σ' 30 = σ 30 ∧ σ' 32 = σ 32 ∧ mV σ σ'
theorem c_MO_beginsPart (Y : List kd) (d : Nat) {L : Nat → Nat} {n : Nat} {σ : sS} {i B P : Nat} {o : OP} (h : RG L n σ i B P o) (hB : B < 97) (of x : Nat) (k : Int32 → sS → Prop)
    (hk : ∀ σ', RG L n σ' i (B + 1) (P + 1) (inc o) → BP σ σ' i P o of x → k (nI (m20 P)) σ') : CJ Y (d + 1) y_MO_beginsPart [sR 0 (.inl 6), sI (nI of), sI (nI x)] σ (rI k) := by
  obtain ⟨a1, a2, a3, a4, a5, a6, a7, a8, a9⟩ := h
  have hm := m20_le P
  have c0 : ∀ (τ : sS) (c j : Nat) (x : Int32), c ≠ 0 → up τ c j x 0 = τ 0 := fun τ c j x hc => up_cell _ _ (fun z => hc z.symm)
  -- the end
  have at115 : ∀ τ : sS, RG L n τ i (B + 1) P (inc o) → (bdR P o → τ 0 44 = if σ 0 44 < 0 then nI i else σ 0 44) → (¬ bdR P o → τ 0 44 = σ 0 44) → τ 2 = σ 2 → τ 3 = σ 3 → τ 4 = σ 4 → τ 30 = σ 30 → τ 32 = σ 32 → τ 0 46 = σ 0 46 → mV σ τ → Jd Y (d + 1) y_MO_beginsPart 115 [(0, sR 0 (.inl 6)), (1, sI (nI of)), (2, sI (nI x)), (3, sI (nI (m20 P)))] [] τ (rI k) := by
    intro τ t1 t2 t3 t4 t5 t6 t7 t8 t9 t10
    refine s_MO_beginsPart_115 Y d 0 _ _ _ τ (rI k) ⟨vinI (by omega) (by omega), vinI (by omega) (by omega), vinI (by omega) (by omega), ?_⟩
    obtain ⟨b1, b2, b3, b4, b5, b6, b7, b8, b9⟩ := t1
    simp only [Nat.zero_add, c0 _ 2 _ _ (by omega : (2 : Nat) ≠ 0), c0 _ 3 _ _ (by omega : (3 : Nat) ≠ 0), c0 _ 4 _ _ (by omega : (4 : Nat) ≠ 0), cl_nI (show m20 P < 2 ^ 31 by omega), b2, nI_s1, t9]
    have z0 : ∀ j, j ≠ 6 → (up (up (up (up τ 2 (m20 P) (nI of)) 3 (m20 P) (nI x)) 4 (m20 P) (σ 0 46)) 0 6 (nI (P + 1))) 0 j = τ 0 j := fun j hj => by
      rw [up_other _ _ (Or.inr hj), c0 _ _ _ _ (by omega), c0 _ _ _ _ (by omega), c0 _ _ _ _ (by omega)]
    have zc : ∀ c, c ≠ 0 → c ≠ 2 → c ≠ 3 → c ≠ 4 → (up (up (up (up τ 2 (m20 P) (nI of)) 3 (m20 P) (nI x)) 4 (m20 P) (σ 0 46)) 0 6 (nI (P + 1))) c = τ c := fun c h1 h2 h3 h4 => by
      rw [up_cell _ _ h1, up_cell _ _ h4, up_cell _ _ h3, up_cell _ _ h2]
    refine hk _ ⟨b1.kept (by rw [z0 43 (by omega)]; exact b1.1) b1.2.2.2.2 (z0 42 (by omega)) (zc 29 (by omega) (by omega) (by omega) (by omega)), up_self _ _ _ _, by omega, by omega, by rw [z0 45 (by omega)]; exact b5, b6, b7.kept (fun y _ => ⟨by rw [zc 30 (by omega) (by omega) (by omega) (by omega)], by rw [zc 31 (by omega) (by omega) (by omega) (by omega)], by rw [zc 33 (by omega) (by omega) (by omega) (by omega)]⟩), b8, b9⟩ ⟨fun hb => by rw [z0 44 (by omega)]; exact t2 hb, fun hb => by rw [z0 44 (by omega)]; exact t3 hb, ?_, ?_, ?_, fun y hy => ⟨?_, ?_, ?_⟩, by rw [z0 46 (by omega)]; exact t9, by rw [zc 30 (by omega) (by omega) (by omega) (by omega)]; exact t7, by rw [zc 32 (by omega) (by omega) (by omega) (by omega)]; exact t8, t10.trans ?_⟩
    · rw [up_cell _ _ (by omega), up_cell _ _ (by omega), up_cell _ _ (by omega), up_self]
    · rw [up_cell _ _ (by omega), up_cell _ _ (by omega), up_self]
    · rw [up_cell _ _ (by omega), up_self]
    · rw [up_cell _ _ (by omega), up_cell _ _ (by omega), up_cell _ _ (by omega), up_other _ _ (Or.inr hy), t4]
    · rw [up_cell _ _ (by omega), up_cell _ _ (by omega), up_other _ _ (Or.inr hy), up_cell _ _ (by omega), t5]
    · rw [up_cell _ _ (by omega), up_other _ _ (Or.inr hy), up_cell _ _ (by omega), up_cell _ _ (by omega), t6]
    · exact ⟨fun c h1 h2 h3 h4 _ => zc c h1 h2 h3 h4, fun j h1 _ => z0 j h1⟩
  have at93 : ∀ τ : sS, (bdR P o → τ 0 44 = if σ 0 44 < 0 then nI i else σ 0 44) → (¬ bdR P o → τ 0 44 = σ 0 44) → (∀ c, c ≠ 0 → τ c = σ c) → (∀ j, j ≠ 44 → τ 0 j = σ 0 j) → Jd Y (d + 1) y_MO_beginsPart 93 [(0, sR 0 (.inl 6)), (1, sI (nI of)), (2, sI (nI x)), (3, sI (nI (m20 P)))] [] τ (rI k) := by
    intro τ t2 t3 t4 t5
    have tK : mV σ τ := ⟨fun c h1 _ _ _ _ => t4 c h1, fun j h1 h2 => t5 j (by omega)⟩
    have tT : TP L n τ i := a1.kept (by rw [t5 43 (by omega)]; exact a1.1) a1.2.2.2.2 (t5 42 (by omega)) (t4 29 (by omega))
    have tO : ost 20 τ o := a7.kept (fun y _ => ⟨by rw [t4 30 (by omega)], by rw [t4 31 (by omega)], by rw [t4 33 (by omega)]⟩)
    refine s_MO_beginsPart_93 Y d 0 _ _ _ τ (rI k) ⟨fun hz => ?_, fun hz => ?_⟩
    · rw [t5 45 (by omega), a5, lit 0, i32_lt (by omega) (by omega)] at hz
      cases o with
      | nil => exact at115 τ ⟨tT, by rw [t5 6 (by omega)]; exact a2, by omega, by omega, by rw [t5 45 (by omega)]; exact a5, Nat.zero_le _, tO, fun q hq => absurd hq List.not_mem_nil, fun q hq => absurd hq List.not_mem_nil⟩ t2 t3 (t4 2 (by omega)) (t4 3 (by omega)) (t4 4 (by omega)) (t4 30 (by omega)) (t4 32 (by omega)) (t5 46 (by omega)) tK
      | cons q r => rw [List.length_cons] at hz; omega
    · rw [t5 45 (by omega), a5, lit 0, i32_lt (by omega) (by omega)] at hz
      cases o with
      | nil => exact absurd hz (Nat.lt_irrefl _)
      | cons q r =>
        rw [t5 45 (by omega), a5, List.length_cons, nI_pred]
        rw [List.length_cons] at a5 a6
        have hr : r.length < 100 := by omega
        refine ⟨vinI hr (by omega), vinI hr (by omega), ?_⟩
        have q2 : τ 33 r.length = nI q.2 := tO.1.2.1
        simp only [Nat.zero_add, cl_nI (show r.length < 2 ^ 31 by omega), q2, nI_s1]
        have u0 : (up τ 33 r.length (nI (q.2 + 1))) 0 = τ 0 := c0 _ _ _ _ (by omega)
        have uc : ∀ c, c ≠ 33 → (up τ 33 r.length (nI (q.2 + 1))) c = τ c := fun c hc => up_cell _ _ hc
        have hq2 := (a8 q List.mem_cons_self)
        refine at115 _ ⟨tT.kept (by rw [u0]; exact tT.1) tT.2.2.2.2 (by rw [u0]) (uc 29 (by omega)), by rw [u0, t5 6 (by omega)]; exact a2, by omega, by omega, by rw [u0, t5 45 (by omega), a5]; rfl, by show r.length + 1 ≤ B + 1; omega, ?_, ?_, a9⟩ (fun hb => by rw [u0]; exact t2 hb) (fun hb => by rw [u0]; exact t3 hb) (by rw [uc 2 (by omega)]; exact t4 2 (by omega)) (by rw [uc 3 (by omega)]; exact t4 3 (by omega)) (by rw [uc 4 (by omega)]; exact t4 4 (by omega)) (by rw [uc 30 (by omega)]; exact t4 30 (by omega)) (by rw [uc 32 (by omega)]; exact t4 32 (by omega)) (by rw [u0]; exact t5 46 (by omega)) (tK.trans (mV.upc τ (by omega) _))
        · refine ⟨⟨by rw [uc 31 (by omega)]; exact tO.1.1, up_self _ _ _ _, ?_⟩, tO.2.kept (fun y hy => ⟨by rw [uc 30 (by omega)], by rw [uc 31 (by omega)], by rw [up_other _ _ (Or.inr (by omega))]⟩)⟩
          obtain ⟨z, z1, z2⟩ := tO.1.2.2
          exact ⟨z, z1, by rw [uc 30 (by omega)]; exact z2⟩
        · intro y hy
          rcases List.mem_cons.mp hy with e | hy
          · subst e
            exact ⟨hq2.1, by show q.2 + 1 ≤ B + 1; omega⟩
          · have := a8 y (List.mem_cons_of_mem _ hy)
            exact ⟨this.1, by omega⟩
  have at85 : bdR P o → Jd Y (d + 1) y_MO_beginsPart 85 [(0, sR 0 (.inl 6)), (1, sI (nI of)), (2, sI (nI x)), (3, sI (nI (m20 P)))] [] σ (rI k) := by
    intro hb
    refine s_MO_beginsPart_85 Y d 0 _ _ _ σ (rI k) ?_
    rw [a1.1]
    refine c_MO_isBad Y _ i _ ?_
    exact at93 _ (fun _ => up_self _ _ _ _) (fun z => absurd hb z) (fun c hc => up_cell _ _ hc) (fun j hj => up_other _ _ (Or.inr hj))
  have at61 : ∀ w : Int32, (w = 0 ∧ (¬ ∃ q r, o = q :: r ∧ q.1 = 3 ∧ 4 ≤ q.2)) ∨ (w = 1 ∧ ∃ q r, o = q :: r ∧ q.1 = 3 ∧ 4 ≤ q.2) → Jd Y (d + 1) y_MO_beginsPart 61 [(0, sR 0 (.inl 6)), (1, sI (nI of)), (2, sI (nI x)), (3, sI (nI (m20 P)))] [sI w] σ (rI k) := by
    intro w hw
    refine s_MO_beginsPart_61 Y d 0 _ _ _ _ σ (rI k) ⟨fun h1 => ?_, fun h1 => ⟨fun h2 => ?_, fun h2 => ⟨fun h3 => ?_, fun h3 => ?_⟩⟩⟩
    · rw [a2, lit 20, i32_lt (by omega) (by omega)] at h1
      exact at85 (Or.inl (by omega))
    · rw [a5, lit 4, i32_lt (by omega) (by omega)] at h2
      exact at85 (Or.inr (Or.inl (by omega)))
    · rw [a2, lit 20, i32_lt (by omega) (by omega)] at h1
      rw [a5, lit 4, i32_lt (by omega) (by omega)] at h2
      have nb : ¬ bdR P o := by
        rintro (z | z | z)
        · omega
        · omega
        · rcases hw with ⟨w1, w2⟩ | ⟨w1, w2⟩
          · exact w2 z
          · rw [w1] at h3
            exact absurd h3 (by decide)
      exact at93 σ (fun z => absurd z nb) (fun _ => rfl) (fun _ _ => rfl) (fun _ _ => rfl)
    · rcases hw with ⟨w1, w2⟩ | ⟨w1, w2⟩
      · exact absurd w1 h3
      · exact at85 (Or.inr (Or.inr w2))
  have at18 : Jd Y (d + 1) y_MO_beginsPart 18 [(0, sR 0 (.inl 6)), (1, sI (nI of)), (2, sI (nI x))] [sI (nI (m20 P))] σ (rI k) := by
    refine s_MO_beginsPart_18 Y d 0 _ _ _ σ (rI k) ⟨fun hz => ?_, fun hz => ?_⟩
    · rw [a5, lit 0, i32_lt (by omega) (by omega)] at hz
      refine s_MO_beginsPart_60 Y d 0 _ _ _ σ (rI k) (at61 0 (Or.inl ⟨rfl, fun ⟨q, r, e, _⟩ => ?_⟩))
      rw [e, List.length_cons] at hz
      omega
    · rw [a5, lit 0, i32_lt (by omega) (by omega)] at hz
      cases o with
      | nil => exact absurd hz (Nat.lt_irrefl _)
      | cons q r =>
        rw [a5, List.length_cons, nI_pred]
        rw [List.length_cons] at a5 a6
        have q1 : σ 31 r.length = nI q.1 := a7.1.1
        have q2 : σ 33 r.length = nI q.2 := a7.1.2.1
        have hq := a8 q List.mem_cons_self
        simp only [Nat.zero_add, cl_nI (show r.length < 2 ^ 31 by omega), q1, q2]
        refine ⟨vinI (by omega) (by omega), fun n3 => ?_, fun e3 => ⟨vinI (by omega) (by omega), fun lt4 => ?_, fun ge4 => ?_⟩⟩
        · rw [z_eq (by omega) 3 (by omega)] at n3
          exact s_MO_beginsPart_60 Y d 0 _ _ _ σ (rI k) (at61 0 (Or.inl ⟨rfl, fun ⟨q', r', e, e3, _⟩ => by cases e; exact n3 e3⟩))
        · rw [lit 4, i32_lt (by omega) (by omega)] at lt4
          exact s_MO_beginsPart_60 Y d 0 _ _ _ σ (rI k) (at61 0 (Or.inl ⟨rfl, fun ⟨q', r', e, _, e4⟩ => by cases e; omega⟩))
        · rw [z_eq (by omega) 3 (by omega)] at e3
          rw [lit 4, i32_lt (by omega) (by omega)] at ge4
          exact at61 1 (Or.inr ⟨rfl, q, r, rfl, e3, by omega⟩)
  refine s_MO_beginsPart_0 Y d 0 _ _ σ (rI k) ⟨fun h1 => ?_, fun h1 => ?_⟩
  · rw [a2, lit 20, i32_lt (by omega) (by omega)] at h1
    have e : m20 P = 20 := by unfold m20; rw [if_neg h1]
    rw [e] at at18
    exact at18
  · rw [a2, lit 20, i32_lt (by omega) (by omega)] at h1
    have e : m20 P = P := by unfold m20; rw [if_pos h1]
    rw [e] at at18
    rw [a2]
    exact at18
/-- a number's row is written again -/
theorem BP.num {σ σ' : sS} {i P : Nat} {o : OP} {of x : Nat} (h : BP σ σ' i P o of x) (x' : Nat) : BP σ (up σ' 3 (m20 P) (nI x')) i P o of x' := by
  obtain ⟨b1, b2, b3, b4, b5, b6, b7, b8, b9, b10⟩ := h
  have u0 : (up σ' 3 (m20 P) (nI x')) 0 = σ' 0 := up_cell _ _ (by omega)
  have uc : ∀ c, c ≠ 3 → (up σ' 3 (m20 P) (nI x')) c = σ' c := fun c hc => up_cell _ _ hc
  refine ⟨by rw [u0]; exact b1, by rw [u0]; exact b2, by rw [uc 2 (by omega)]; exact b3, up_self _ _ _ _, by rw [uc 4 (by omega)]; exact b5, fun y hy => ⟨by rw [uc 2 (by omega)]; exact (b6 y hy).1, by rw [up_other _ _ (Or.inr hy)]; exact (b6 y hy).2.1, by rw [uc 4 (by omega)]; exact (b6 y hy).2.2⟩, by rw [u0]; exact b7, by rw [uc 30 (by omega)]; exact b8, by rw [uc 32 (by omega)]; exact b9, b10.trans (mV.upc σ' (by omega) _)⟩
theorem BP.at43 {σ σ' : sS} {i P : Nat} {o : OP} {of x : Nat} (h : BP σ σ' i P o of x) (j : Int32) : BP σ (up σ' 0 43 j) i P o of x := by
  obtain ⟨b1, b2, b3, b4, b5, b6, b7, b8, b9, b10⟩ := h
  have u0 : ∀ y, y ≠ 43 → (up σ' 0 43 j) 0 y = σ' 0 y := fun y hy => up_other _ _ (Or.inr hy)
  have uc : ∀ c, c ≠ 0 → (up σ' 0 43 j) c = σ' c := fun c hc => up_cell _ _ hc
  refine ⟨by rw [u0 44 (by omega)]; exact b1, by rw [u0 44 (by omega)]; exact b2, by rw [uc 2 (by omega)]; exact b3, by rw [uc 3 (by omega)]; exact b4, by rw [uc 4 (by omega)]; exact b5, fun y hy => ⟨by rw [uc 2 (by omega)]; exact (b6 y hy).1, by rw [uc 3 (by omega)]; exact (b6 y hy).2.1, by rw [uc 4 (by omega)]; exact (b6 y hy).2.2⟩, by rw [u0 46 (by omega)]; exact b7, by rw [uc 30 (by omega)]; exact b8, by rw [uc 32 (by omega)]; exact b9, b10.trans (mV.up0 σ' (by omega) _)⟩
theorem RG.next {L : Nat → Nat} {n : Nat} {σ : sS} {i B P : Nat} {o : OP} (h : RG L n σ i B P o) (hi : i < n) : RG L n (up σ 0 43 (nI (i + 1))) (i + 1) B P o := by
  obtain ⟨a1, a2, a3, a4, a5, a6, a7, a8, a9⟩ := h
  exact ⟨a1.next hi, by rw [up_other _ _ (Or.inr (by omega))]; exact a2, a3, a4, by rw [up_other _ _ (Or.inr (by omega))]; exact a5, a6, a7.kept (fun y _ => ⟨by rw [up_cell _ _ (by omega)], by rw [up_cell _ _ (by omega)], by rw [up_cell _ _ (by omega)]⟩), a8, a9⟩
theorem RG.row {L : Nat → Nat} {n : Nat} {σ : sS} {i B P : Nat} {o : OP} (h : RG L n σ i B P o) (y : Nat) (x : Int32) : RG L n (up σ 3 y x) i B P o := by
  obtain ⟨a1, a2, a3, a4, a5, a6, a7, a8, a9⟩ := h
  have u0 : (up σ 3 y x) 0 = σ 0 := up_cell _ _ (by omega)
  exact ⟨a1.kept (by rw [u0]; exact a1.1) a1.2.2.2.2 (by rw [u0]) (up_cell _ _ (by omega)), by rw [u0]; exact a2, a3, a4, by rw [u0]; exact a5, a6, a7.kept (fun y _ => ⟨by rw [up_cell _ _ (by omega)], by rw [up_cell _ _ (by omega)], by rw [up_cell _ _ (by omega)]⟩), a8, a9⟩
theorem c_MO_readsNumber (Y : List kd) (d : Nat) {L : Nat → Nat} {n : Nat} {σ : sS} {i B P : Nat} {o : OP} (h : RG L n σ i B P o) (hB : B < 97) (hi : i < n) (hD : isD (L i) = true) (k : Int32 → sS → Prop)
    (hk : ∀ σ', RG L n σ' (numP L n i).2 (B + 1) (P + 1) (inc o) → BP σ σ' i P o 0 (numP L n i).1 → k 1 σ') : CJ Y (d + 2) y_MO_readsNumber [sR 0 (.inl 6)] σ (rI k) := by
  have hm := m20_le P
  have hDb := isD_iff.mp hD
  refine s_MO_readsNumber_0 Y (d + 1) 0 σ (rI k) ?_
  refine c_MO_beginsPart Y d h hB 0 0 _ (fun σ1 g1 b1 => ?_)
  refine c_MO_digit Y d g1.1 _ (fun _ _ => ?_) (fun z => absurd (z hi) (by rw [hD]; decide))
  refine ⟨vinI (by omega) (by omega), ?_⟩
  rw [cl_nI (by omega)]
  have g2 := (g1.next hi).row (m20 P) (nI (L i - 48))
  have b2 := (b1.at43 (nI (i + 1))).num (L i - 48)
  refine c_MO_digit Y d g2.1 _ (fun hi2 hD2 => ?_) (fun hn => ?_)
  · have hDb2 := isD_iff.mp hD2
    have hnp : numP L n i = (10 * (L i - 48) + (L (i + 1) - 48), i + 2) := by unfold numP; rw [if_pos ⟨hi2, hD2⟩]
    rw [hnp] at hk
    refine ⟨fun z => absurd z (nI_pos (by omega)), fun _ => ⟨vinI (by omega) (by omega), vinI (by omega) (by omega), Or.inr rfl, ?_⟩⟩
    have e3 : (up (up (up σ1 0 43 (nI (i + 1))) 3 (m20 P) (nI (L i - 48))) 0 43 (nI (i + 1 + 1))) 3 (m20 P) = nI (L i - 48) := by
      rw [up_cell _ _ (by omega), up_self]
    simp only [Nat.zero_add, e3]
    rw [lit 10, pk_mul, nI_add]
    exact hk _ ((g2.next hi2).row (m20 P) _) ((b2.at43 (nI (i + 1 + 1))).num _)
  · have hnp : numP L n i = (L i - 48, i + 1) := by
      unfold numP
      rw [if_neg]
      rintro ⟨z1, z2⟩
      rw [hn z1] at z2
      cases z2
    rw [hnp] at hk
    exact ⟨fun _ => ⟨Or.inr rfl, hk _ g2 b2⟩, fun z => absurd (by decide) z⟩
