/-! what the reference keeps: passes -/
/-- rows one behind the other from b on are those of the world R -/
def kpt (σ : sS) (R : sS) : Nat → List (Nat × Nat) → Prop
  | _, [] => True
  | b, q :: l => (∀ i, i < q.2 → σ 35 (b + i) = R q.1 i) ∧ kpt σ R (b + q.2) l
def tot : List (Nat × Nat) → Nat
  | [] => 0
  | q :: l => q.2 + tot l
theorem kpt_same {σ σ' R : sS} : ∀ (l : List (Nat × Nat)) (b : Nat), (∀ j, b ≤ j → j < b + tot l → σ' 35 j = σ 35 j) → kpt σ R b l → kpt σ' R b l
  | [], b, _, _ => True.intro
  | q :: l, b, h, g => by
    have e : tot (q :: l) = q.2 + tot l := rfl
    rw [e] at h
    exact ⟨fun i hi => by rw [h _ (by omega) (by omega)]; exact g.1 i hi, kpt_same l (b + q.2) (fun j h1 h2 => h j (by omega) (by omega)) g.2⟩
def lV : List (Nat × Nat) := [(2, 21), (3, 21), (4, 21)]
def lC : List (Nat × Nat) := [(7, 25), (8, 25), (9, 25), (10, 25), (11, 25), (12, 25), (13, 25), (14, 25), (15, 25), (16, 33), (17, 33), (18, 33), (19, 33)]
/-- what is kept at b is the value, the check of the world R -/
def KV (σ : sS) (b : Nat) (R : sS) : Prop := kpt σ R b lV ∧ σ 35 (b + 63) = R 0 6
def KC (σ : sS) (b : Nat) (R : sS) : Prop := kpt σ R (b + 64) lC ∧ σ 35 (b + 421) = R 0 20 ∧ σ 35 (b + 422) = R 0 21 ∧ σ 35 (b + 423) = R 0 22
theorem KV.same {σ σ' R : sS} {b : Nat} (h : KV σ b R) (hs : ∀ j, b ≤ j → j < b + 64 → σ' 35 j = σ 35 j) : KV σ' b R := ⟨kpt_same lV b (fun j h1 h2 => hs j h1 (by have : tot lV = 63 := rfl; omega)) h.1, by rw [hs _ (by omega) (by omega)]; exact h.2⟩
theorem KC.same {σ σ' R : sS} {b : Nat} (h : KC σ b R) (hs : ∀ j, b + 64 ≤ j → j < b + 424 → σ' 35 j = σ 35 j) : KC σ' b R := ⟨kpt_same lC _ (fun j h1 h2 => hs j h1 (by have : tot lC = 357 := rfl; omega)) h.1, by rw [hs _ (by omega) (by omega)]; exact h.2.1, by rw [hs _ (by omega) (by omega)]; exact h.2.2.1, by rw [hs _ (by omega) (by omega)]; exact h.2.2.2⟩
/-- a value in its rows, ahead of the measuring: only what is read counts -/
theorem MB.on {σ σ' : sS} {v : VT} (w : WFV v) (h : MB σ v) (h0 : σ' 0 6 = σ 0 6) (hk : ∀ c i, 2 ≤ c → c < 5 → i < 21 → σ' c i = σ c i) : MB σ' v := by
  have h20 := w.2.1
  refine ⟨by rw [h0]; exact h.1, fun p hp => ?_, fun p k hp h2 hk2 => ?_⟩
  · rw [hk 2 p (by omega) (by omega) (by omega), hk 3 p (by omega) (by omega) (by omega)]
    exact h.2.1 p hp
  · have := (w.kchlt hp hk2).2
    rw [hk 4 _ (by omega) (by omega) (by omega)]
    exact h.2.2 p k hp h2 hk2
