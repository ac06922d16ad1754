/-! the class's Tree: taking out, filling -/
theorem cl_nat {σ : sS} {a f e g : Nat} (h1 : g ≤ f) (h2 : f ≤ e) (h3 : e ≤ 20) : cl σ a 20 (nI f) (nI e) (nI g) = upA σ a (va_cpy (σ a) (σ a) f (f - g) (e - f)) := by
  unfold cl
  rw [if_neg (nI_pos (by omega)), if_neg (by rw [i32_lt (by omega) (by omega)]; omega), if_neg (by rw [i32_lt (by omega) (by omega)]; omega), if_neg (by rw [i32_lt (by omega) (by omega)]; omega), nI_subm h1, nI_subm h2, nI_clamp (by omega), nI_clamp (by omega), nI_clamp (by omega)]
theorem cl_at {σ : sS} {a f e g y : Nat} (h1 : g ≤ f) (h2 : f ≤ e) (h3 : e ≤ 20) (hy : y < e - g) : cl σ a 20 (nI f) (nI e) (nI g) a y = σ a (mq (f - g) g y) := by
  rw [cl_nat h1 h2 h3, upA_self]
  unfold va_cpy
  rcases Nat.lt_or_ge y (f - g) with q | q
  · rw [if_neg (by omega), mq_lt q]
  · rw [if_pos (by omega), mq_ge q]
    congr 1
    omega
theorem cl_ne {σ : sS} {a n c : Nat} {f e g : Int32} (h : c ≠ a) : cl σ a n f e g c = σ c := by
  unfold cl
  repeat (first | rfl | exact upA_cell σ _ h | split)
theorem c_TR_takeOut (Y : List kd) (d t fr g n : Nat) (S : Nat → Nat) (hfg : fr + g ≤ n) (h20 : n ≤ 20) {σ : sS} (hn : σ t 6 = nI n) (hS : ∀ q, q < fr → σ (t + 5) q = nI (S q) ∧ S q ≤ 20 ∧ (fr < q + S q → g ≤ S q)) (k : sS → Prop)
    (hk : ∀ σ', σ' t 6 = nI (n - g) → (∀ f, f < 6 → f ≠ 4 → ∀ y, y < n - g → σ' (t + 1 + f) y = σ (t + 1 + f) (mq fr g y)) → (∀ y, y < n - g → σ' (t + 5) y = if y < fr then nI (if fr < y + S y then S y - g else S y) else σ (t + 5) (y + g)) → (∀ c, (c < t ∨ t + 7 ≤ c) → σ' c = σ c) → k σ') :
    CJ Y (d + 2) y_TR_takeOut [sR t (.inl 3), sI (nI fr), sI (nI g)] σ (rN k) := by
  refine s_TR_takeOut_0 Y (d + 1) t _ _ σ (rN k) ⟨fun hg => ?_, fun hg => ?_⟩
  · have hg0 : 0 < g := by
      rw [← nI_0, i32_lt (by omega) (by omega)] at hg
      exact hg
    have key : ∀ m i, i + m = fr → ∀ τ : sS, (∀ c, c ≠ t + 5 → τ c = σ c) → (∀ q, q < i → τ (t + 5) q = nI (if fr < q + S q then S q - g else S q)) → (∀ q, i ≤ q → τ (t + 5) q = σ (t + 5) q) → Jd Y (d + 2) y_TR_takeOut 7 [(0, sR t (.inl 3)), (1, sI (nI fr)), (2, sI (nI g)), (3, sI (nI i))] [] τ (rN k) := by
      intro m
      induction m with
      | zero =>
        intro i hi τ h1 h2 h3
        have hif : i = fr := by omega
        subst hif
        refine s_TR_takeOut_7 Y (d + 1) t _ _ _ τ (rN k) ⟨fun _ => ?_, fun hlt => ?_⟩
        · rw [nI_add]
          have hτn : τ t 6 = nI n := by rw [h1 t (by omega)]; exact hn
          rw [hτn]
          refine c_GF_close Y d _ 20 (by decide) _ _ _ _ _ ?_
          rw [cl_ne (by omega), hτn]
          refine c_GF_close Y d _ 20 (by decide) _ _ _ _ _ ?_
          rw [cl_ne (by omega), cl_ne (by omega), hτn]
          refine c_GF_close Y d _ 20 (by decide) _ _ _ _ _ ?_
          rw [cl_ne (by omega), cl_ne (by omega), cl_ne (by omega), hτn]
          refine c_GF_close Y d _ 20 (by decide) _ _ _ _ _ ?_
          rw [cl_ne (by omega), cl_ne (by omega), cl_ne (by omega), cl_ne (by omega), hτn]
          refine c_GF_close Y d _ 20 (by decide) _ _ _ _ _ ?_
          rw [cl_ne (by omega), cl_ne (by omega), cl_ne (by omega), cl_ne (by omega), cl_ne (by omega), hτn]
          refine c_GF_close Y d _ 20 (by decide) _ _ _ _ _ ?_
          rw [cl_ne (by omega), cl_ne (by omega), cl_ne (by omega), cl_ne (by omega), cl_ne (by omega), cl_ne (by omega), hτn]
          have hrow : ∀ c y, c ≠ t → t + 1 ≤ c → c ≤ t + 6 → y < n - g → (up (cl (cl (cl (cl (cl (cl τ (t + 1) 20 (nI (i + g)) (nI n) (nI g)) (t + 2) 20 (nI (i + g)) (nI n) (nI g)) (t + 3) 20 (nI (i + g)) (nI n) (nI g)) (t + 4) 20 (nI (i + g)) (nI n) (nI g)) (t + 5) 20 (nI (i + g)) (nI n) (nI g)) (t + 6) 20 (nI (i + g)) (nI n) (nI g)) t 6 (nI n - nI g)) c y = τ c (mq i g y) := by
            intro c y hc h4 h5 hy
            rw [up_cell _ _ hc]
            have e9 : i + g - g = i := by omega
            rcases (show c = t + 1 ∨ c = t + 2 ∨ c = t + 3 ∨ c = t + 4 ∨ c = t + 5 ∨ c = t + 6 by omega) with rfl | rfl | rfl | rfl | rfl | rfl
            all_goals
              repeat rw [cl_ne (by omega)]
              rw [cl_at (by omega) (by omega) h20 hy, e9]
              repeat rw [cl_ne (by omega)]
          refine hk _ ?_ ?_ ?_ ?_
          · rw [up_self, nI_subm (by omega)]
          · intro f hf hf4 y hy
            rw [hrow (t + 1 + f) y (by omega) (by omega) (by omega) hy, h1 _ (by omega)]
          · intro y hy
            rw [hrow (t + 5) y (by omega) (by omega) (by omega) hy]
            by_cases hyi : y < i
            · rw [if_pos hyi, mq_lt hyi, h2 y hyi]
            · rw [if_neg hyi, mq_ge (by omega), h3 _ (by omega)]
          · intro c hc
            rw [up_cell _ _ (by omega)]
            repeat rw [cl_ne (by omega)]
            exact h1 c (by omega)
        · rw [i32_lt (by omega) (by omega)] at hlt
          omega
      | succ m ih =>
        intro i hi τ h1 h2 h3
        have hifr : i < fr := by omega
        obtain ⟨s1, s2, s3⟩ := hS i hifr
        have hrd : rd τ (t + 5) 20 (nI i) = nI (S i) := by rw [rd_nI (by omega) (by omega), h3 i (Nat.le_refl _), s1]
        refine s_TR_takeOut_7 Y (d + 1) t _ _ _ τ (rN k) ⟨fun hlt => ?_, fun _ => ⟨fun hlt => ?_, fun hlt => ?_⟩⟩
        · rw [i32_lt (by omega) (by omega)] at hlt
          omega
        · rw [hrd, nI_add, i32_lt (by omega) (by omega)] at hlt
          refine s_TR_takeOut_44 Y (d + 1) t _ _ _ τ (rN k) ?_
          rw [nI_s1]
          refine ih (i + 1) (by omega) τ h1 (fun q hq => ?_) (fun q hq => h3 q (by omega))
          by_cases e : q = i
          · subst e
            rw [if_neg hlt, h3 q (Nat.le_refl _), s1]
          · exact h2 q (by omega)
        · rw [hrd, nI_add, i32_lt (by omega) (by omega)] at hlt
          refine s_TR_takeOut_44 Y (d + 1) t _ _ _ _ (rN k) ?_
          rw [nI_s1, hrd, wr_nI (by omega) (by omega), nI_subm (s3 hlt)]
          refine ih (i + 1) (by omega) _ (fun c hc => ?_) (fun q hq => ?_) (fun q hq => ?_)
          · rw [up_cell _ _ hc]; exact h1 c hc
          · by_cases e : q = i
            · subst e
              rw [up_self, if_pos hlt]
            · rw [up_other _ _ (Or.inr e)]
              exact h2 q (by omega)
          · rw [up_other _ _ (Or.inr (by omega))]
            exact h3 q (by omega)
    have := key fr 0 (by omega) σ (fun c _ => rfl) (fun q hq => absurd hq (Nat.not_lt_zero q)) (fun q _ => rfl)
    exact this
  · have hg0 : g = 0 := by
      rw [← nI_0, i32_lt (by omega) (by omega)] at hg
      omega
    subst hg0
    refine hk σ hn (fun f hf hf4 y hy => ?_) (fun y hy => ?_) (fun c _ => rfl)
    · unfold mq
      split <;> rfl
    · by_cases hyf : y < fr
      · rw [if_pos hyf, (hS y hyf).1]
        split <;> rfl
      · rw [if_neg hyf]
        rfl
theorem c_TR_fill (Y : List kd) (d t : Nat) {v : VT} (w : WFV v) {σ : sS} (hv : XV σ t v) {p kd x : Nat} (hp : p < v.1) (hk1 : kd ≤ 1) (hx : x ≤ 99) (k : sS → Prop) (hk : ∀ σ', XV σ' t (fillV v p kd x) → (∀ c, (c < t ∨ t + 7 ≤ c) → σ' c = σ c) → k σ') : CJ Y (d + 3) y_TR_fill [sR t (.inl 3), sI (nI p), sI (nI kd), sI (nI x)] σ (rN k) := by
  have h20 := w.2.1
  have sp := w.sp20 hp
  refine s_TR_fill_0 Y (d + 2) t _ _ _ σ (rN k) ⟨fun h0 => absurd h0 (nI_pos (by omega)), fun _ => ⟨fun _ => ?_, fun hlt => ?_⟩⟩
  · rw [hv.rd h20 (f := 4) (by omega) hp rfl, nI_s1, show (1 : Int32) = nI 1 from rfl, nI_subm sp.1]
    refine c_TR_takeOut Y d t (p + 1) (v.2 4 p - 1) v.1 (v.2 4) (by omega) h20 hv.1 (fun q hq => ?_) _ (fun σ1 e1 e2 e3 e4 => ?_)
    · have spq := w.sp20 (show q < v.1 by omega)
      refine ⟨hv.2 4 (by omega) q (by omega), by omega, fun hh => ?_⟩
      rcases Nat.lt_or_ge q p with z | z
      · have := lam' w.2.2.1 (show q < v.1 by omega) z (by omega)
        omega
      · have : q = p := by omega
        subst this
        omega
    · rw [wr_nI (by omega) (by omega), wr_nI (by omega) (by omega), wr_nI (by omega) (by omega)]
      have hmq : ∀ y, mq (p + 1) (v.2 4 p - 1) y = mp p (v.2 4 p - 1) y := by
        intro y
        rcases Nat.lt_or_ge p y with z | z
        · rw [mq_ge (by omega), mp_gt z]
        · rw [mq_lt (by omega), mp_le z]
      refine hk _ ⟨?_, ?_⟩ ?_
      · rw [up_cell _ _ (by omega), up_cell _ _ (by omega), up_cell _ _ (by omega)]
        exact e1
      · intro f hf y hy
        have hy : y < v.1 - (v.2 4 p - 1) := hy
        have em : mp p (v.2 4 p - 1) y < v.1 := by
          rcases Nat.lt_or_ge p y with z | z
          · rw [mp_gt z]; omega
          · rw [mp_le z]; omega
        rcases (show f = 0 ∨ f = 1 ∨ f = 2 ∨ f = 3 ∨ f = 4 ∨ f = 5 by omega) with rfl | rfl | rfl | rfl | rfl | rfl
        · rw [up_cell _ _ (by omega), up_cell _ _ (by omega)]
          show up σ1 (t + 1) p (nI kd) (t + 1) y = nI (if y = p then kd else v.2 0 (mp p (v.2 4 p - 1) y))
          by_cases e : y = p
          · subst e; rw [up_self, if_pos rfl]
          · rw [up_other _ _ (Or.inr e), if_neg e]
            have := e2 0 (by omega) (by omega) y hy
            rw [hmq, hv.2 0 (by omega) _ em] at this
            exact this
        · rw [up_cell _ _ (by omega)]
          show up (up σ1 (t + 1) p (nI kd)) (t + 2) p (nI x) (t + 2) y = nI (if y = p then x else v.2 1 (mp p (v.2 4 p - 1) y))
          by_cases e : y = p
          · subst e; rw [up_self, if_pos rfl]
          · rw [up_other _ _ (Or.inr e), if_neg e, up_cell _ _ (by omega)]
            have := e2 1 (by omega) (by omega) y hy
            rw [hmq, hv.2 1 (by omega) _ em] at this
            exact this
        · show up (up (up σ1 (t + 1) p (nI kd)) (t + 2) p (nI x)) (t + 3) p 0 (t + 3) y = nI (fK (v.2 2) (v.2 4) p y)
          unfold fK
          by_cases e : y = p
          · subst e; rw [up_self, if_pos rfl]; rfl
          · rw [up_other _ _ (Or.inr e), if_neg e, up_cell _ _ (by omega), up_cell _ _ (by omega)]
            have := e2 2 (by omega) (by omega) y hy
            rw [hmq, hv.2 2 (by omega) _ em] at this
            exact this
        · rw [up_cell _ _ (by omega), up_cell _ _ (by omega), up_cell _ _ (by omega)]
          have := e2 3 (by omega) (by omega) y hy
          rw [hmq, hv.2 3 (by omega) _ em] at this
          exact this
        · rw [up_cell _ _ (by omega), up_cell _ _ (by omega), up_cell _ _ (by omega)]
          have := e3 y hy
          refine this.trans ?_
          show _ = nI (fS (v.2 4) p y)
          unfold fS
          by_cases hyp : y < p + 1
          · rw [if_pos hyp]
            have em2 : mp p (v.2 4 p - 1) y = y := mp_le (by omega)
            simp only [em2]
            by_cases hh : p + 1 < y + v.2 4 y
            · rw [if_pos hh, if_pos ⟨by omega, by omega⟩]
            · rw [if_neg hh]
              by_cases h2 : y ≤ p ∧ p < y + v.2 4 y
              · rw [if_pos h2]
                rcases Nat.lt_or_ge y p with z | z
                · have := lam' w.2.2.1 (show y < v.1 by omega) z h2.2
                  congr 1
                  omega
                · have : y = p := by omega
                  subst this
                  congr 1
                  omega
              · rw [if_neg h2]
          · rw [if_neg hyp]
            have em2 : mp p (v.2 4 p - 1) y = y + (v.2 4 p - 1) := mp_gt (by omega)
            simp only [em2]
            rw [if_neg (by omega)]
            exact hv.2 4 (by omega) _ (by omega)
        · rw [up_cell _ _ (by omega), up_cell _ _ (by omega), up_cell _ _ (by omega)]
          have := e2 5 (by omega) (by omega) y hy
          rw [hmq, hv.2 5 (by omega) _ em] at this
          exact this
      · intro c hc
        rw [up_cell _ _ (by omega), up_cell _ _ (by omega), up_cell _ _ (by omega)]
        exact e4 c hc
  · rw [hv.1, i32_lt (by omega) (by omega)] at hlt
    omega
