/-! what the reference keeps: passes -/
/-- rows one behind the other from b on are those of the world R -/
def kpt (σ : sS) (R : sS) : Nat → List (Nat × Nat) → Prop
  | _, [] => True
  | b, q :: l => (∀ i, i < q.2 → σ 35 (b + i) = R q.1 i) ∧ kpt σ R (b + q.2) l
def tot : List (Nat × Nat) → Nat
  | [] => 0
  | q :: l => q.2 + tot l
theorem kpt_same {σ σ' R : sS} : ∀ (l : List (Nat × Nat)) (b : Nat), (∀ j, b ≤ j → j < b + tot l → σ' 35 j = σ 35 j) → kpt σ R b l → kpt σ' R b l
  | [], b, _, _ => True.intro
  | q :: l, b, h, g => by
    have e : tot (q :: l) = q.2 + tot l := rfl
    rw [e] at h
    exact ⟨fun i hi => by rw [h _ (by omega) (by omega)]; exact g.1 i hi, kpt_same l (b + q.2) (fun j h1 h2 => h j (by omega) (by omega)) g.2⟩
theorem kpt_src {σ R R' : sS} : ∀ (l : List (Nat × Nat)) (b : Nat), (∀ q ∈ l, ∀ i, i < q.2 → R' q.1 i = R q.1 i) → kpt σ R b l → kpt σ R' b l
  | [], b, _, _ => True.intro
  | q :: l, b, h, g => ⟨fun i hi => by rw [h q List.mem_cons_self i hi]; exact g.1 i hi, kpt_src l (b + q.2) (fun q hq => h q (List.mem_cons_of_mem _ hq)) g.2⟩
theorem c_MO_pass_keep (Y : List kd) (d a n cur : Nat) (ha : a ≠ 0) (ha2 : a ≠ 35) (hc : cur + n ≤ 1400) {σ : sS} (h49 : σ 0 49 = 1) (h50 : σ 0 50 = nI cur) (k : sS → Prop)
    (hk : ∀ σ', (∀ i, i < n → σ' 35 (cur + i) = σ a i) → (∀ j, (j < cur ∨ cur + n ≤ j) → σ' 35 j = σ 35 j) → σ' 0 50 = nI (cur + n) → (∀ i, i ≠ 50 → σ' 0 i = σ 0 i) → (∀ c, c ≠ 0 → c ≠ 35 → σ' c = σ c) → k σ') :
    CJ Y d y_MO_passes [sR 0 (.inl 6), sR a (.inr n)] σ (rN k) := by
  refine s_MO_passes_0 Y d 0 a n σ (rN k) ?_
  have key : ∀ m i, i + m = n → ∀ τ : sS, (∀ j, j < i → τ 35 (cur + j) = σ a j) → (∀ j, (j < cur ∨ cur + i ≤ j) → τ 35 j = σ 35 j) → τ 0 50 = nI (cur + i) → (∀ i, i ≠ 50 → τ 0 i = σ 0 i) → (∀ c, c ≠ 0 → c ≠ 35 → τ c = σ c) → Jd Y d y_MO_passes 2 [(0, sR 0 (.inl 6)), (1, sR a (.inr n)), (2, sI (nI i))] [] τ (rN k) := by
    intro m
    induction m with
    | zero =>
      intro i hi τ t1 t2 t3 t4 t5
      have : i = n := by omega
      subst this
      refine s_MO_passes_2 Y d 0 a _ _ τ (rN k) ⟨fun _ => hk τ t1 t2 t3 t4 t5, fun hlt => ?_⟩
      rw [i32_lt (by omega) (by omega)] at hlt
      omega
    | succ m ih =>
      intro i hi τ t1 t2 t3 t4 t5
      refine s_MO_passes_2 Y d 0 a _ _ τ (rN k) ⟨fun hlt => ?_, fun _ => ⟨fun h0 => ?_, fun _ => ⟨vinI (by omega) (by omega), by rw [t3]; exact vinI (by omega) (by omega), ?_⟩⟩⟩
      · rw [i32_lt (by omega) (by omega)] at hlt
        omega
      · rw [t4 49 (by omega), h49] at h0
        exact absurd h0 (by decide)
      · rw [t3, cl_nI (by omega), cl_nI (by omega), t5 a ha ha2]
        refine s_MO_passes_42 Y d 0 a _ _ _ (rN k) ?_
        rw [up_cell _ _ (by omega), t3, nI_s1, nI_s1]
        refine ih (i + 1) (by omega) _ (fun j hj => ?_) (fun j hj => ?_) (up_self _ _ _ _) (fun j hj => ?_) (fun c c0 c35 => ?_)
        · rw [up_cell _ _ (by omega)]
          by_cases e : j = i
          · subst e; exact up_self τ 35 _ _
          · show up τ 35 (cur + i) (σ a i) 35 (cur + j) = _
            rw [up_other _ _ (Or.inr (by omega))]
            exact t1 j (by omega)
        · rw [up_cell _ _ (by omega)]
          show up τ 35 (cur + i) (σ a i) 35 j = _
          rw [up_other _ _ (Or.inr (by omega))]
          exact t2 j (by omega)
        · rw [up_other _ _ (Or.inr hj), up_cell _ _ (by omega)]; exact t4 j hj
        · rw [up_cell _ _ c0, up_cell _ _ (by omega)]; exact t5 c c0 c35
  exact key n 0 (by omega) σ (fun j hj => absurd hj (Nat.not_lt_zero _)) (fun _ _ => rfl) h50 (fun _ _ => rfl) (fun _ _ _ => rfl)
theorem c_MO_pass_load (Y : List kd) (d a n cur : Nat) (ha : a ≠ 0) (ha2 : a ≠ 35) (hc : cur + n ≤ 1400) {σ : sS} (h49 : σ 0 49 = 0) (h50 : σ 0 50 = nI cur) (k : sS → Prop)
    (hk : ∀ σ', (∀ i, i < n → σ' a i = σ 35 (cur + i)) → σ' 0 50 = nI (cur + n) → (∀ i, i ≠ 50 → σ' 0 i = σ 0 i) → (∀ c, c ≠ 0 → c ≠ a → σ' c = σ c) → k σ') :
    CJ Y d y_MO_passes [sR 0 (.inl 6), sR a (.inr n)] σ (rN k) := by
  refine s_MO_passes_0 Y d 0 a n σ (rN k) ?_
  have key : ∀ m i, i + m = n → ∀ τ : sS, (∀ j, j < i → τ a j = σ 35 (cur + j)) → τ 0 50 = nI (cur + i) → (∀ i, i ≠ 50 → τ 0 i = σ 0 i) → (∀ c, c ≠ 0 → c ≠ a → τ c = σ c) → Jd Y d y_MO_passes 2 [(0, sR 0 (.inl 6)), (1, sR a (.inr n)), (2, sI (nI i))] [] τ (rN k) := by
    intro m
    induction m with
    | zero =>
      intro i hi τ t1 t3 t4 t5
      have : i = n := by omega
      subst this
      refine s_MO_passes_2 Y d 0 a _ _ τ (rN k) ⟨fun _ => hk τ t1 t3 t4 t5, fun hlt => ?_⟩
      rw [i32_lt (by omega) (by omega)] at hlt
      omega
    | succ m ih =>
      intro i hi τ t1 t3 t4 t5
      refine s_MO_passes_2 Y d 0 a _ _ τ (rN k) ⟨fun hlt => ?_, fun _ => ⟨fun _ => ⟨by rw [t3]; exact vinI (by omega) (by omega), vinI (by omega) (by omega), ?_⟩, fun h0 => absurd (by rw [t4 49 (by omega), h49]) h0⟩⟩
      · rw [i32_lt (by omega) (by omega)] at hlt
        omega
      · rw [t3, cl_nI (by omega), cl_nI (by omega), show τ (0 + 35) = σ 35 from t5 35 (by omega) (Ne.symm ha2)]
        refine s_MO_passes_42 Y d 0 a _ _ _ (rN k) ?_
        rw [up_cell _ _ (Ne.symm ha), t3, nI_s1, nI_s1]
        refine ih (i + 1) (by omega) _ (fun j hj => ?_) (up_self _ _ _ _) (fun j hj => ?_) (fun c c0 ca => ?_)
        · rw [up_cell _ _ ha]
          by_cases e : j = i
          · subst e; exact up_self τ a _ _
          · rw [up_other _ _ (Or.inr e)]
            exact t1 j (by omega)
        · rw [up_other _ _ (Or.inr hj), up_cell _ _ (Ne.symm ha)]; exact t4 j hj
        · rw [up_cell _ _ c0, up_cell _ _ ca]; exact t5 c c0 ca
  exact key n 0 (by omega) σ (fun j hj => absurd hj (Nat.not_lt_zero _)) h50 (fun _ _ => rfl) (fun _ _ _ => rfl)
theorem c_MO_one_keep (Y : List kd) (d cur : Nat) (v : Int32) (hc : cur < 1400) {σ : sS} (h49 : σ 0 49 = 1) (h50 : σ 0 50 = nI cur) (k : Int32 → sS → Prop) (hk : k v (up (up σ 35 cur v) 0 50 (nI (cur + 1)))) : CJ Y d y_MO_passOne [sR 0 (.inl 6), sI v] σ (rI k) := by
  have h0 : ¬ σ 0 49 = 0 := by rw [h49]; decide
  refine s_MO_passOne_0 Y d 0 v σ (rI k) ⟨fun h => absurd h h0, fun _ => ?_⟩
  refine s_MO_passOne_20 Y d 0 v v σ (rI k) ⟨fun h => absurd h h0, fun _ => ⟨by rw [h50]; exact vinI (by omega) (by omega), ?_⟩⟩
  refine s_MO_passOne_38 Y d 0 v _ (rI k) ?_
  rw [h50, cl_nI (by omega), up_cell _ _ (show (0 : Nat) ≠ 0 + 35 by omega), h50, nI_s1]
  exact hk
theorem c_MO_one_load (Y : List kd) (d cur : Nat) (v : Int32) (hc : cur < 1400) {σ : sS} (h49 : σ 0 49 = 0) (h50 : σ 0 50 = nI cur) (k : Int32 → sS → Prop) (hk : k (σ 35 cur) (up σ 0 50 (nI (cur + 1)))) : CJ Y d y_MO_passOne [sR 0 (.inl 6), sI v] σ (rI k) := by
  refine s_MO_passOne_0 Y d 0 v σ (rI k) ⟨fun _ => ⟨by rw [h50]; exact vinI (by omega) (by omega), ?_⟩, fun h => absurd h49 h⟩
  refine s_MO_passOne_20 Y d 0 v _ σ (rI k) ⟨fun _ => ?_, fun h => absurd h49 h⟩
  refine s_MO_passOne_38 Y d 0 _ _ (rI k) ?_
  rw [h50, cl_nI (by omega), nI_s1]
  exact hk
/-- rows passed one after the other -/
def chn (Y : List kd) (d : Nat) (k : sS → Prop) : List (Nat × Nat) → sS → Prop
  | [], σ => k σ
  | q :: l, σ => CJ Y d y_MO_passes [sR 0 (.inl 6), sR q.1 (.inr q.2)] σ (rN fun σ' => chn Y d k l σ')
theorem chn_keep (Y : List kd) (d : Nat) : ∀ (l : List (Nat × Nat)) (cur : Nat) (σ : sS) (k : sS → Prop), (∀ q ∈ l, q.1 ≠ 0 ∧ q.1 ≠ 35) → cur + tot l ≤ 1400 → σ 0 49 = 1 → σ 0 50 = nI cur →
    (∀ σ', kpt σ' σ cur l → (∀ j, (j < cur ∨ cur + tot l ≤ j) → σ' 35 j = σ 35 j) → σ' 0 50 = nI (cur + tot l) → (∀ i, i ≠ 50 → σ' 0 i = σ 0 i) → (∀ c, c ≠ 0 → c ≠ 35 → σ' c = σ c) → k σ') → chn Y d k l σ
  | [], cur, σ, k, _, _, _, h50, hk => hk σ True.intro (fun _ _ => rfl) h50 (fun _ _ => rfl) (fun _ _ _ => rfl)
  | q :: l, cur, σ, k, hq, hc, h49, h50, hk => by
    have e : tot (q :: l) = q.2 + tot l := rfl
    rw [e] at hc hk
    have hq1 := hq q List.mem_cons_self
    refine c_MO_pass_keep Y d q.1 q.2 cur hq1.1 hq1.2 (by omega) h49 h50 _ (fun σ1 a1 a2 a3 a4 a5 => ?_)
    refine chn_keep Y d l (cur + q.2) σ1 k (fun q hq2 => hq q (List.mem_cons_of_mem _ hq2)) (by omega) (by rw [a4 49 (by omega)]; exact h49) a3 (fun σ2 b1 b2 b3 b4 b5 => ?_)
    refine hk σ2 ⟨fun i hi => ?_, kpt_src l _ (fun q hq2 i hi => ?_) b1⟩ (fun j hj => ?_) ?_ (fun i hi => ?_) (fun c c0 c5 => ?_)
    · rw [b2 _ (by omega)]; exact a1 i hi
    · have := hq q (List.mem_cons_of_mem _ hq2)
      rw [a5 _ this.1 this.2]
    · rw [b2 j (by omega), a2 j (by omega)]
    · rw [b3]; congr 1; omega
    · rw [b4 i hi, a4 i hi]
    · rw [b5 c c0 c5, a5 c c0 c5]
theorem chn_load (Y : List kd) (d : Nat) (R : sS) : ∀ (l : List (Nat × Nat)) (cur : Nat) (σ : sS) (k : sS → Prop), (∀ q ∈ l, q.1 ≠ 0 ∧ q.1 ≠ 35) → (l.map Prod.fst).Nodup → cur + tot l ≤ 1400 → σ 0 49 = 0 → σ 0 50 = nI cur → kpt σ R cur l →
    (∀ σ', (∀ q ∈ l, ∀ i, i < q.2 → σ' q.1 i = R q.1 i) → σ' 0 50 = nI (cur + tot l) → (∀ i, i ≠ 50 → σ' 0 i = σ 0 i) → (∀ c, c ≠ 0 → c ∉ l.map Prod.fst → σ' c = σ c) → k σ') → chn Y d k l σ
  | [], cur, σ, k, _, _, _, _, h50, _, hk => hk σ (fun q hq => absurd hq List.not_mem_nil) h50 (fun _ _ => rfl) (fun _ _ _ => rfl)
  | q :: l, cur, σ, k, hq, hd, hc, h49, h50, hp, hk => by
    have e : tot (q :: l) = q.2 + tot l := rfl
    rw [e] at hc hk
    have hq1 := hq q List.mem_cons_self
    have hd1 := List.nodup_cons.mp hd
    refine c_MO_pass_load Y d q.1 q.2 cur hq1.1 hq1.2 (by omega) h49 h50 _ (fun σ1 a1 a3 a4 a5 => ?_)
    refine chn_load Y d R l (cur + q.2) σ1 k (fun q hq2 => hq q (List.mem_cons_of_mem _ hq2)) hd1.2 (by omega) (by rw [a4 49 (by omega)]; exact h49) a3 (kpt_same l _ (fun j h1 h2 => by rw [a5 35 (by omega) (Ne.symm hq1.2)]) hp.2) (fun σ2 b1 b3 b4 b5 => ?_)
    refine hk σ2 (fun q' hq' i hi => ?_) ?_ (fun i hi => ?_) (fun c c0 c5 => ?_)
    · rcases List.mem_cons.mp hq' with rfl | hq'
      · rw [b5 q'.1 hq1.1 hd1.1, a1 i hi, hp.1 i hi]
      · exact b1 q' hq' i hi
    · rw [b3]; congr 1; omega
    · rw [b4 i hi, a4 i hi]
    · rw [List.map_cons, List.mem_cons, not_or] at c5
      rw [b5 c c0 c5.2, a5 c c0 c5.1]
def lV : List (Nat × Nat) := [(2, 21), (3, 21), (4, 21)]
def lC : List (Nat × Nat) := [(7, 25), (8, 25), (9, 25), (10, 25), (11, 25), (12, 25), (13, 25), (14, 25), (15, 25), (16, 33), (17, 33), (18, 33), (19, 33)]
/-- what is kept at b is the value, the check of the world R -/
def KV (σ : sS) (b : Nat) (R : sS) : Prop := kpt σ R b lV ∧ σ 35 (b + 63) = R 0 6
def KC (σ : sS) (b : Nat) (R : sS) : Prop := kpt σ R (b + 64) lC ∧ σ 35 (b + 421) = R 0 20 ∧ σ 35 (b + 422) = R 0 21 ∧ σ 35 (b + 423) = R 0 22
theorem KV.same {σ σ' R : sS} {b : Nat} (h : KV σ b R) (hs : ∀ j, b ≤ j → j < b + 64 → σ' 35 j = σ 35 j) : KV σ' b R := ⟨kpt_same lV b (fun j h1 h2 => hs j h1 (by have : tot lV = 63 := rfl; omega)) h.1, by rw [hs _ (by omega) (by omega)]; exact h.2⟩
theorem KC.same {σ σ' R : sS} {b : Nat} (h : KC σ b R) (hs : ∀ j, b + 64 ≤ j → j < b + 424 → σ' 35 j = σ 35 j) : KC σ' b R := ⟨kpt_same lC _ (fun j h1 h2 => hs j h1 (by have : tot lC = 357 := rfl; omega)) h.1, by rw [hs _ (by omega) (by omega)]; exact h.2.1, by rw [hs _ (by omega) (by omega)]; exact h.2.2.1, by rw [hs _ (by omega) (by omega)]; exact h.2.2.2⟩
theorem c_MO_keepV (Y : List kd) (d wh : Nat) (hw : wh ≤ 2) {σ : sS} (k : sS → Prop)
    (hk : ∀ σ', KV σ' (460 * wh) σ → (∀ j, (j < 460 * wh ∨ 460 * wh + 64 ≤ j) → σ' 35 j = σ 35 j) → (∀ i, i ≠ 49 → i ≠ 50 → σ' 0 i = σ 0 i) → (∀ c, c ≠ 0 → c ≠ 35 → σ' c = σ c) → k σ') : CJ Y (d + 1) y_MO_passesValue [sR 0 (.inl 6), sI (nI wh), sI 1] σ (rN k) := by
  have tV : tot lV = 63 := rfl
  refine s_MO_passesValue_0 Y d 0 _ _ σ (rN k) ⟨Or.inr rfl, ?_⟩
  rw [show (460 : Int32) = nI 460 from rfl, pk_mul]
  refine chn_keep Y d lV (460 * wh) _ _ (by decide) (by omega) (up_self _ _ _ _) (by rw [up_other _ _ (Or.inr (by omega)), up_self]) (fun σ1 a1 a2 a3 a4 a5 => ?_)
  have e6 : σ1 0 6 = σ 0 6 := by rw [a4 6 (by omega), up_other _ _ (Or.inr (by omega)), up_other _ _ (Or.inr (by omega))]
  refine c_MO_one_keep Y d (460 * wh + 63) _ (by omega) (by rw [a4 49 (by omega)]; exact up_self _ _ _ _) a3 _ ⟨fun _ => ?_, fun h => absurd h (by decide)⟩
  rw [show σ1 0 6 = _ from e6]
  refine hk _ ⟨?_, ?_⟩ (fun j hj => ?_) (fun i h1 h2 => ?_) (fun c c0 c5 => ?_)
  · refine kpt_same lV _ (fun j h1 h2 => ?_) (kpt_src lV _ (fun q hq i hi => ?_) a1)
    · rw [up_cell _ _ (by omega), up_cell _ _ (by omega), up_other _ _ (Or.inr (by omega))]
    · have hq0 : q.1 ≠ 0 := (show ∀ q ∈ lV, q.1 ≠ 0 by decide) q hq
      rw [up_cell _ _ hq0, up_cell _ _ hq0]
  · rw [up_cell _ _ (by omega), up_cell _ _ (by omega), up_self]
  · rw [up_cell _ _ (by omega), up_cell _ _ (by omega), up_other _ _ (Or.inr (by omega)), a2 j (by omega), up_cell _ _ (by omega), up_cell _ _ (by omega)]
  · by_cases e : i = 6
    · subst e; exact up_self _ _ _ _
    · rw [up_other _ _ (Or.inr e), up_other _ _ (Or.inr h2), up_cell _ _ (by omega), a4 i h2, up_other _ _ (Or.inr h1), up_other _ _ (Or.inr h2)]
  · rw [up_cell _ _ c0, up_cell _ _ c0, up_cell _ _ c5, a5 c c0 c5, up_cell _ _ c0, up_cell _ _ c0]
/-- a value in its rows, ahead of the measuring: only what is read counts -/
theorem MB.on {σ σ' : sS} {v : VT} (w : WFV v) (h : MB σ v) (h0 : σ' 0 6 = σ 0 6) (hk : ∀ c i, 2 ≤ c → c < 5 → i < 21 → σ' c i = σ c i) : MB σ' v := by
  have h20 := w.2.1
  refine ⟨by rw [h0]; exact h.1, fun p hp => ?_, fun p k hp h2 hk2 => ?_⟩
  · rw [hk 2 p (by omega) (by omega) (by omega), hk 3 p (by omega) (by omega) (by omega)]
    exact h.2.1 p hp
  · have := (w.kchlt hp hk2).2
    rw [hk 4 _ (by omega) (by omega) (by omega)]
    exact h.2.2 p k hp h2 hk2
theorem MV.mb {σ : sS} {v : VT} (h : MV σ v) : MB σ v := ⟨h.1, fun p hp => ⟨(h.2.1 p hp).1, (h.2.1 p hp).2.1⟩, h.2.2⟩
theorem c_MO_loadV (Y : List kd) (d wh : Nat) (hw : wh ≤ 2) {v : VT} (w : WFV v) {σ R : sS} (hv : KV σ (460 * wh) R) (hR : MB R v) (k : sS → Prop)
    (hk : ∀ σ', MV σ' v → (∀ i, i ≠ 6 → i ≠ 49 → i ≠ 50 → σ' 0 i = σ 0 i) → (∀ c, c ≠ 0 → (c < 2 ∨ 6 < c) → σ' c = σ c) → k σ') : CJ Y (d + 3) y_MO_passesValue [sR 0 (.inl 6), sI (nI wh), sI 0] σ (rN k) := by
  have tV : tot lV = 63 := rfl
  refine s_MO_passesValue_0 Y (d + 2) 0 _ _ σ (rN k) ⟨Or.inl rfl, ?_⟩
  rw [show (460 : Int32) = nI 460 from rfl, pk_mul]
  refine chn_load Y (d + 2) R lV (460 * wh) _ _ (by decide) (by decide) (by omega) (up_self _ _ _ _) (by rw [up_other _ _ (Or.inr (by omega)), up_self]) (kpt_same lV _ (fun j h1 h2 => by rw [up_cell _ _ (by omega), up_cell _ _ (by omega)]) hv.1) (fun σ1 a1 a3 a4 a5 => ?_)
  have e35 : σ1 35 = σ 35 := by rw [a5 35 (by omega) (by decide), up_cell _ _ (by omega), up_cell _ _ (by omega)]
  refine c_MO_one_load Y (d + 2) (460 * wh + 63) _ (by omega) (by rw [a4 49 (by omega)]; exact up_self _ _ _ _) a3 _ ⟨fun h => absurd rfl h, fun _ => ?_⟩
  rw [e35, hv.2]
  refine c_MO_measures Y d w (hR.on w (up_self _ _ _ _) (fun c i h2 h5 hi => ?_)) _ (fun σ2 g1 g2 => hk σ2 g1 (fun i h6 h49 h50 => ?_) (fun c c0 hc => ?_))
  · rw [up_cell _ _ (by omega), up_cell _ _ (by omega)]
    rcases (show c = 2 ∨ c = 3 ∨ c = 4 by omega) with rfl | rfl | rfl
    · exact a1 (2, 21) (by decide) i hi
    · exact a1 (3, 21) (by decide) i hi
    · exact a1 (4, 21) (by decide) i hi
  · rw [g2 0 (by omega) (by omega), up_other _ _ (Or.inr h6), up_other _ _ (Or.inr h50), a4 i h50, up_other _ _ (Or.inr h49), up_other _ _ (Or.inr h50)]
  · rw [g2 c (by omega) (by omega), up_cell _ _ c0, up_cell _ _ c0, a5 c c0 (by
      show c ∉ [2, 3, 4]
      simp only [List.mem_cons, List.not_mem_nil, or_false]
      omega), up_cell _ _ c0, up_cell _ _ c0]
theorem c_MO_keepC (Y : List kd) (d wh : Nat) (hw : wh ≤ 1) {σ : sS} (k : sS → Prop)
    (hk : ∀ σ', KC σ' (460 * wh) σ → (∀ j, (j < 460 * wh + 64 ∨ 460 * wh + 424 ≤ j) → σ' 35 j = σ 35 j) → (∀ i, i ≠ 49 → i ≠ 50 → σ' 0 i = σ 0 i) → (∀ c, c ≠ 0 → c ≠ 35 → σ' c = σ c) → k σ') : CJ Y (d + 1) y_MO_passesCheck [sR 0 (.inl 6), sI (nI wh), sI 1] σ (rN k) := by
  have tC : tot lC = 357 := rfl
  refine s_MO_passesCheck_0 Y d 0 _ _ σ (rN k) ⟨Or.inr rfl, ?_⟩
  rw [show (460 : Int32) = nI 460 from rfl, pk_mul, show (64 : Int32) = nI 64 from rfl, nI_add]
  refine chn_keep Y d lC (460 * wh + 64) _ _ (by decide) (by omega) (up_self _ _ _ _) (by rw [up_other _ _ (Or.inr (by omega)), up_self]) (fun σ1 a1 a2 a3 a4 a5 => ?_)
  have e0 : ∀ i, i ≠ 49 → i ≠ 50 → σ1 0 i = σ 0 i := fun i h1 h2 => by rw [a4 i h2, up_other _ _ (Or.inr h1), up_other _ _ (Or.inr h2)]
  have e49 : σ1 0 49 = 1 := by rw [a4 49 (by omega)]; exact up_self _ _ _ _
  rw [tC] at a3
  have en : 460 * wh + 64 + 357 = 460 * wh + 421 := by omega
  rw [en] at a3
  refine c_MO_one_keep Y d (460 * wh + 421) _ (by omega) e49 a3 _ ?_
  refine c_MO_one_keep Y d (460 * wh + 422) _ (by omega) (by rw [up_other _ _ (Or.inr (by omega)), up_other _ _ (Or.inr (by omega)), up_cell _ _ (by omega)]; exact e49) (by rw [up_other _ _ (Or.inr (by omega)), up_self]) _ ?_
  refine c_MO_one_keep Y d (460 * wh + 423) _ (by omega) (by rw [up_other _ _ (Or.inr (by omega)), up_other _ _ (Or.inr (by omega)), up_cell _ _ (by omega), up_other _ _ (Or.inr (by omega)), up_other _ _ (Or.inr (by omega)), up_cell _ _ (by omega)]; exact e49) (by rw [up_other _ _ (Or.inr (by omega)), up_self]) _ ?_
  refine hk _ ⟨?_, ?_, ?_, ?_⟩ (fun j hj => ?_) (fun i h1 h2 => ?_) (fun c c0 c5 => ?_)
  · refine kpt_same lC _ (fun j h1 h2 => ?_) (kpt_src lC _ (fun q hq i hi => ?_) a1)
    · simp only [up_cell _ _ (show (35 : Nat) ≠ 0 by omega)]
      rw [up_other _ _ (Or.inr (by omega)), up_cell _ _ (by omega), up_cell _ _ (by omega), up_other _ _ (Or.inr (by omega)), up_cell _ _ (by omega), up_cell _ _ (by omega), up_other _ _ (Or.inr (by omega))]
    · have hq0 : q.1 ≠ 0 := (show ∀ q ∈ lC, q.1 ≠ 0 by decide) q hq
      rw [up_cell _ _ hq0, up_cell _ _ hq0]
  · rw [up_cell _ _ (by omega), up_cell _ _ (by omega), up_other _ _ (Or.inr (by omega)), up_cell _ _ (by omega), up_cell _ _ (by omega), up_other _ _ (Or.inr (by omega)), up_cell _ _ (by omega), up_cell _ _ (by omega), up_self]
    exact e0 20 (by omega) (by omega)
  · rw [up_cell _ _ (by omega), up_cell _ _ (by omega), up_other _ _ (Or.inr (by omega)), up_cell _ _ (by omega), up_cell _ _ (by omega), up_self, up_other _ _ (Or.inr (by omega)), up_other _ _ (Or.inr (by omega)), up_cell _ _ (by omega)]
    exact e0 21 (by omega) (by omega)
  · rw [up_cell _ _ (by omega), up_cell _ _ (by omega), up_self, up_other _ _ (Or.inr (by omega)), up_other _ _ (Or.inr (by omega)), up_cell _ _ (by omega), up_other _ _ (Or.inr (by omega)), up_other _ _ (Or.inr (by omega)), up_cell _ _ (by omega)]
    exact e0 22 (by omega) (by omega)
  · rw [up_cell _ _ (by omega), up_cell _ _ (by omega), up_other _ _ (Or.inr (by omega)), up_cell _ _ (by omega), up_cell _ _ (by omega), up_other _ _ (Or.inr (by omega)), up_cell _ _ (by omega), up_cell _ _ (by omega), up_other _ _ (Or.inr (by omega)), a2 j (by omega), up_cell _ _ (by omega), up_cell _ _ (by omega)]
  · have E : ∀ (τ : sS) (x : Int32), up τ 35 (460 * wh + 423) x 0 = τ 0 := fun τ x => up_cell _ _ (by omega)
    have E1 : ∀ (τ : sS) (x : Int32), up τ 35 (460 * wh + 422) x 0 = τ 0 := fun τ x => up_cell _ _ (by omega)
    have E2 : ∀ (τ : sS) (x : Int32), up τ 35 (460 * wh + 421) x 0 = τ 0 := fun τ x => up_cell _ _ (by omega)
    have E3 : ∀ (τ : sS) (j : Nat) (x : Int32), i ≠ j → up τ 0 j x 0 i = τ 0 i := fun τ j x h => up_other _ _ (Or.inr h)
    by_cases q2 : i = 22
    · subst q2
      rw [up_self, E3 _ _ _ (by omega), E3 _ _ _ (by omega), E1, E3 _ _ _ (by omega), E3 _ _ _ (by omega), E2]
      exact e0 22 (by omega) (by omega)
    · rw [E3 _ _ _ q2, E3 _ _ _ h2, E]
      by_cases q1 : i = 21
      · subst q1
        rw [up_self, E3 _ _ _ (by omega), E3 _ _ _ (by omega), E2]
        exact e0 21 (by omega) (by omega)
      · rw [E3 _ _ _ q1, E3 _ _ _ h2, E1]
        by_cases q0 : i = 20
        · subst q0
          rw [up_self]
          exact e0 20 (by omega) (by omega)
        · rw [E3 _ _ _ q0, E3 _ _ _ h2, E2]
          exact e0 i h1 h2
  · rw [up_cell _ _ c0, up_cell _ _ c0, up_cell _ _ c5, up_cell _ _ c0, up_cell _ _ c0, up_cell _ _ c5, up_cell _ _ c0, up_cell _ _ c0, up_cell _ _ c5, a5 c c0 c5, up_cell _ _ c0, up_cell _ _ c0]
theorem c_MO_loadC (Y : List kd) (d wh : Nat) (hw : wh ≤ 1) {σ R : sS} (hv : KC σ (460 * wh) R) (k : sS → Prop)
    (hk : ∀ σ', (∀ q ∈ lC, ∀ i, i < q.2 → σ' q.1 i = R q.1 i) → (∀ i, 20 ≤ i → i < 23 → σ' 0 i = R 0 i) → (∀ i, (i < 20 ∨ 23 ≤ i) → i ≠ 49 → i ≠ 50 → σ' 0 i = σ 0 i) → (∀ c, c ≠ 0 → (c < 7 ∨ 19 < c) → σ' c = σ c) → k σ') : CJ Y (d + 1) y_MO_passesCheck [sR 0 (.inl 6), sI (nI wh), sI 0] σ (rN k) := by
  have tC : tot lC = 357 := rfl
  refine s_MO_passesCheck_0 Y d 0 _ _ σ (rN k) ⟨Or.inl rfl, ?_⟩
  rw [show (460 : Int32) = nI 460 from rfl, pk_mul, show (64 : Int32) = nI 64 from rfl, nI_add]
  refine chn_load Y d R lC (460 * wh + 64) _ _ (by decide) (by decide) (by omega) (up_self _ _ _ _) (by rw [up_other _ _ (Or.inr (by omega)), up_self]) (kpt_same lC _ (fun j h1 h2 => by rw [up_cell _ _ (by omega), up_cell _ _ (by omega)]) hv.1) (fun σ1 a1 a3 a4 a5 => ?_)
  have e35 : σ1 35 = σ 35 := by rw [a5 35 (by omega) (by decide), up_cell _ _ (by omega), up_cell _ _ (by omega)]
  have e49 : σ1 0 49 = 0 := by rw [a4 49 (by omega)]; exact up_self _ _ _ _
  rw [tC] at a3
  have en : 460 * wh + 64 + 357 = 460 * wh + 421 := by omega
  rw [en] at a3
  refine c_MO_one_load Y d (460 * wh + 421) _ (by omega) e49 a3 _ ?_
  refine c_MO_one_load Y d (460 * wh + 422) _ (by omega) (by rw [up_other _ _ (Or.inr (by omega)), up_other _ _ (Or.inr (by omega))]; exact e49) (by rw [up_other _ _ (Or.inr (by omega)), up_self]) _ ?_
  refine c_MO_one_load Y d (460 * wh + 423) _ (by omega) (by rw [up_other _ _ (Or.inr (by omega)), up_other _ _ (Or.inr (by omega)), up_other _ _ (Or.inr (by omega)), up_other _ _ (Or.inr (by omega))]; exact e49) (by rw [up_other _ _ (Or.inr (by omega)), up_self]) _ ?_
  simp only [up_cell _ _ (show (35 : Nat) ≠ 0 by omega)]
  rw [e35, hv.2.1, hv.2.2.1, hv.2.2.2]
  refine hk _ (fun q hq i hi => ?_) (fun i h1 h2 => ?_) (fun i h1 h2 h3 => ?_) (fun c c0 hc => ?_)
  · have hq0 : q.1 ≠ 0 := (show ∀ q ∈ lC, q.1 ≠ 0 by decide) q hq
    simp only [up_cell _ _ hq0]
    exact a1 q hq i hi
  · rcases (show i = 20 ∨ i = 21 ∨ i = 22 by omega) with rfl | rfl | rfl
    · rw [up_other _ _ (Or.inr (by omega)), up_other _ _ (Or.inr (by omega)), up_other _ _ (Or.inr (by omega)), up_other _ _ (Or.inr (by omega)), up_self]
    · rw [up_other _ _ (Or.inr (by omega)), up_other _ _ (Or.inr (by omega)), up_self]
    · rw [up_self]
  · rw [up_other _ _ (Or.inr (by omega)), up_other _ _ (Or.inr (by omega)), up_other _ _ (Or.inr (by omega)), up_other _ _ (Or.inr (by omega)), up_other _ _ (Or.inr (by omega)), up_other _ _ (Or.inr (by omega)), a4 i h3, up_other _ _ (Or.inr h2), up_other _ _ (Or.inr h3)]
  · simp only [up_cell _ _ c0]
    rw [a5 c c0 (by
      show c ∉ [7, 8, 9, 10, 11, 12, 13, 14, 15, 16, 17, 18, 19]
      simp only [List.mem_cons, List.not_mem_nil, or_false]
      omega)]
    simp only [up_cell _ _ c0]
