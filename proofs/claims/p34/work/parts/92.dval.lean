/-! the law's values: size, tell, field -/
theorem get_drop {α : Type} {l : List α} {j : Nat} {q : α} (h : l[j]? = some q) : l.drop j = q :: l.drop (j + 1) := by
  obtain ⟨hlt, he⟩ := List.getElem?_eq_some_iff.mp h
  rw [List.drop_eq_getElem_cons hlt, he]
theorem at_len {α : Type} {l : List α} {j m : Nat} (h : j + (m + 1) = l.length) : ∃ q, l[j]? = some q := ⟨l[j]'(by omega), List.getElem?_eq_getElem (by omega)⟩
theorem c_VA_size (B : dB) (ax : Nat → Nat) {σ : sS} {μ : dW} {F : Nat → Prop} : ∀ (d : Nat) {a : Nat} {t : Tr d} (D u : Nat), VL μ F d a t → twf d t → d ≤ D → ∀ (k : Int32 → sS → dW → Prop), k (nI (tsz d t)) σ μ → DCJ B ax D u y_VA_size [.ref a] σ μ (qI k)
  | 0, a, t, D, u, h, _, _, _, _ => h.elim
  | d + 1, a, t, 0, u, _, _, hD, _, _ => absurd hD (Nat.not_succ_le_zero d)
  | d + 1, a, t, D + 1, u, hv, hw, hD, k, hk => by
    obtain ⟨b, c, g, h, h1, f1, f2, f3, h2, h3, h4⟩ := hv
    obtain ⟨w1, w2, w2b, w3, w4, w5, w6, w7⟩ := hw
    refine s_VA_size_0 B ax D u a σ μ _ ⟨_, c, h1, rfl, _, _, h, h3, Nat.zero_le _, ?_⟩
    have loop : ∀ m j acc, j + m = (trC t).length → acc + sumf (fun q => tsz d q.2) ((trC t).drop j) = tsz (d + 1) t → DJ B ax (D + 1) u y_VA_size 13 [(1, .int (nI acc)), (2, .ref c), (3, .int (nI (trC t).length)), (4, .int (nI j))] [] σ μ (qI k) := by
      intro m
      induction m with
      | zero =>
        intro j acc hj hs
        have ej : j = (trC t).length := by omega
        subst ej
        rw [List.drop_length] at hs
        have hs : acc = tsz (d + 1) t := by simpa [sumf] using hs
        refine s_VA_size_13 B ax D u _ c _ _ σ μ _ ⟨fun _ => ?_, fun hlt => absurd hlt (nI_nlt (Nat.le_refl _) (by omega))⟩
        show k (nI acc) σ μ
        rw [hs]
        exact hk
      | succ m ih =>
        intro j acc hj hs
        obtain ⟨q, hq⟩ := at_len hj
        obtain ⟨e1, a', e2, e3⟩ := h4 j q hq
        have hmem := List.mem_of_getElem? hq
        refine s_VA_size_13 B ax D u _ c _ _ σ μ _ ⟨fun hn => absurd (nI_lt (by omega) (by omega)) hn, fun _ => ⟨0, _, h, a', h3, Nat.zero_le _, vp_in_nI (by omega) (by omega), by rw [nI_clamp (by omega)]; exact e2, e3.obj, 0, Nat.zero_le _, c_VA_size B ax d D 0 e3 (w7 q hmem).2.2.2 (by omega) _ ?_⟩⟩
        show DJ B ax (D + 1) (u - 0) y_VA_size 13 [(1, .int (nI acc + nI (tsz d q.2))), (2, .ref c), (3, .int (nI (trC t).length)), (4, .int (nI j + 1))] [] σ μ (qI k)
        rw [nI_add, nI_s1]
        refine ih (j + 1) _ (by omega) ?_
        rw [get_drop hq] at hs
        simp only [sumf] at hs
        omega
    exact loop (trC t).length 0 1 (by omega) (by rw [List.drop_zero]; rfl)
theorem n48 {n : Nat} (h : n < 2 ^ 31) : (48 : Int32) + nI n / 10 = nI (48 + n / 10) := by
  rw [lit 48, lit 10, pk_div h (by omega) (by omega), nI_add]
theorem n48r {n : Nat} (h : n < 2 ^ 31) : (48 : Int32) + (nI n - nI n / 10 * 10) = nI (48 + n % 10) := by
  rw [lit 48, lit 10, pk_rem h (by omega) (by omega), nI_add]
theorem n97 (n : Nat) : (97 : Int32) + nI n - 1 = nI (96 + n) := by
  rw [lit 97, nI_add, lit 1, nI_subm (by omega)]
  congr 1
  omega
theorem eq_nI {a : Nat} (ha : a < 2 ^ 31) (b : Nat) (hb : b < 2 ^ 31) : (nI a = (OfNat.ofNat b : Int32)) ↔ a = b := nI_eq ha hb
theorem lt_nI {a : Nat} (ha : a < 2 ^ 31) (b : Nat) (hb : b < 2 ^ 31) : ((OfNat.ofNat b : Int32) < nI a) ↔ b < a := nI_ltI hb ha
theorem c_VA_tell (B : dB) (ax : Nat → Nat) {σ : sS} : ∀ (d : Nat) {μ : dW} {F : Nat → Prop} {a : Nat} {t : Tr d} {tp ca : Nat} {L : List Nat} (D u : Nat), VL μ F d a t → twf d t → TPE μ tp ca L → ¬ F tp → ¬ F ca → d ≤ D → L.length + (tlet d t).length ≤ 400 → ∀ (k : sS → dW → Prop), (∀ μ', TPE μ' tp ca (L ++ tlet d t) → (∀ q, q ≠ tp → q ≠ ca → μ' q = μ q) → k σ μ') → DCJ B ax D u y_VA_tell [.ref a, .ref tp] σ μ (qN k)
  | 0, μ, F, a, t, tp, ca, L, D, u, h, _, _, _, _, _, _, _, _ => h.elim
  | d + 1, μ, F, a, t, tp, ca, L, 0, u, _, _, _, _, _, hD, _, _, _ => absurd hD (Nat.not_succ_le_zero d)
  | d + 1, μ, F, a, t, tp, ca, L, D + 1, u, hv, hw, hT, n1, n2, hD, hlen, k, hk => by
    obtain ⟨b, c, g, h, h1, f1, f2, f3, h2, h3, h4⟩ := hv
    obtain ⟨w1, w2, w2b, w3, w4, w5, w6, w7⟩ := hw
    have ne : ∀ q, F q → q ≠ tp ∧ q ≠ ca := fun q hq => ⟨fun e => n1 (e ▸ hq), fun e => n2 (e ▸ hq)⟩
    have hN : trN t < 2 ^ 31 := by
      by_cases z : trK t = 0
      · have := w2 z; omega
      · rw [w2b z]; decide
    have kp : ∀ μ1 : dW, (∀ q, q ≠ tp → q ≠ ca → μ1 q = μ q) → μ1 a = some (eO 7 [.int (nI (trK t)), .int (nI (trN t)), .ref b, .ref c]) ∧ μ1 b = some (eA 0 (trC t).length g) ∧ μ1 c = some (eR 0 (trC t).length h) := fun μ1 z => ⟨by rw [z a (ne a f1).1 (ne a f1).2]; exact h1, by rw [z b (ne b f2).1 (ne b f2).2]; exact h2, by rw [z c (ne c f3).1 (ne c f3).2]; exact h3⟩
    have chain : ∀ μ1 μ2 : dW, (∀ q, q ≠ tp → q ≠ ca → μ1 q = μ q) → (∀ q, q ≠ tp → q ≠ ca → μ2 q = μ1 q) → ∀ q, q ≠ tp → q ≠ ca → μ2 q = μ q := fun μ1 μ2 x y q q1 q2 => (y q q1 q2).trans (x q q1 q2)
    -- the kids, from the j-th on, and the end
    have st94 : ∀ m j μ1 L1, j + m = (trC t).length → TPE μ1 tp ca L1 → (∀ q, q ≠ tp → q ≠ ca → μ1 q = μ q) → L1.length + (kidL (trK t) (fun x => tlet d x) j ((trC t).drop j) ++ tlL (trK t)).length ≤ 400 →
        (∀ μ', TPE μ' tp ca (L1 ++ (kidL (trK t) (fun x => tlet d x) j ((trC t).drop j) ++ tlL (trK t))) → (∀ q, q ≠ tp → q ≠ ca → μ' q = μ q) → k σ μ') →
        DJ B ax (D + 1) u y_VA_tell 94 [(0, .ref a), (1, .ref tp), (2, .int (nI j))] [] σ μ1 (qN k) := by
      intro m
      induction m with
      | zero =>
        intro j μ1 L1 hj hT1 hq1 hl1 hk1
        obtain ⟨e1, e2, e3⟩ := kp μ1 hq1
        have ej : j = (trC t).length := by omega
        subst ej
        rw [List.drop_length] at hl1 hk1
        refine s_VA_tell_94 B ax D u a tp _ σ μ1 _ ⟨_, c, e1, rfl, 0, _, h, e3, Nat.zero_le _, fun _ => ⟨_, _, e1, rfl, fun hn => ?_, fun hp => ⟨_, _, e1, rfl, fun h2 => ?_, fun h2 => ?_⟩⟩, fun hlt => absurd hlt (nI_nlt (Nat.le_refl _) (by omega))⟩
        · rw [lt_nI (by omega) 1 (by omega)] at hn
          refine hk1 μ1 ?_ hq1
          simpa [kidL, tlL, hn] using hT1
        · rw [lt_nI (by omega) 1 (by omega)] at hp
          rw [eq_nI (by omega) 2 (by omega)] at h2
          refine s_VA_tell_184 B ax D u _ tp σ μ1 _ ⟨hT1.obj, 0, Nat.zero_le _, ?_⟩
          refine c_TP_add B ax D 0 hT1 (by simp [kidL, tlL, hp] at hl1; omega) 93 _ (fun μ2 t2 q2 => hk1 μ2 ?_ (chain _ _ hq1 q2))
          simpa [kidL, tlL, hp, h2] using t2
        · rw [lt_nI (by omega) 1 (by omega)] at hp
          rw [eq_nI (by omega) 2 (by omega)] at h2
          refine s_VA_tell_184 B ax D u _ tp σ μ1 _ ⟨hT1.obj, 0, Nat.zero_le _, ?_⟩
          refine c_TP_add B ax D 0 hT1 (by simp [kidL, tlL, hp] at hl1; omega) 41 _ (fun μ2 t2 q2 => hk1 μ2 ?_ (chain _ _ hq1 q2))
          simpa [kidL, tlL, hp, h2] using t2
      | succ m ih =>
        intro j μ1 L1 hj hT1 hq1 hl1 hk1
        obtain ⟨q, hq⟩ := at_len hj
        obtain ⟨g1, a', g2, g3⟩ := h4 j q hq
        have hmem := List.mem_of_getElem? hq
        obtain ⟨m1, m2, m3, m4⟩ := w7 q hmem
        rw [get_drop hq] at hl1 hk1
        simp only [kidL, List.append_assoc] at hl1 hk1
        generalize hR : kidL (trK t) (fun x => tlet d x) (j + 1) ((trC t).drop (j + 1)) ++ tlL (trK t) = R at hl1 hk1
        -- the part itself
        have st144 : ∀ μ2 L2, TPE μ2 tp ca L2 → (∀ q, q ≠ tp → q ≠ ca → μ2 q = μ q) → L2.length + (tlet d q.2 ++ R).length ≤ 400 → (∀ μ', TPE μ' tp ca (L2 ++ (tlet d q.2 ++ R)) → (∀ q, q ≠ tp → q ≠ ca → μ' q = μ q) → k σ μ') →
            DJ B ax (D + 1) u y_VA_tell 144 [(0, .ref a), (1, .ref tp), (2, .int (nI j))] [] σ μ2 (qN k) := by
          intro μ2 L2 hT2 hq2 hl2 hk2
          obtain ⟨e1, e2, e3⟩ := kp μ2 hq2
          rw [List.length_append] at hl2
          have v2 : VL μ2 F d a' q.2 := g3.kept (fun _ z => z) (fun x hx _ => hq2 x (ne x hx).1 (ne x hx).2)
          refine s_VA_tell_144 B ax D u a tp _ σ μ2 _ ⟨_, c, e1, rfl, 0, _, h, a', e3, Nat.zero_le _, vp_in_nI (by omega) (by omega), by rw [nI_clamp (by omega)]; exact g2, v2.obj, 0, Nat.zero_le _, ?_⟩
          refine c_VA_tell B ax d D 0 v2 m4 hT2 n1 n2 (by omega) (by omega) _ (fun μ3 t3 q3 => ?_)
          show DJ B ax (D + 1) (u - 0) y_VA_tell 94 [(0, .ref a), (1, .ref tp), (2, .int (nI j + 1))] [] σ μ3 (qN k)
          rw [nI_s1]
          refine ih (j + 1) μ3 _ (by omega) t3 (chain _ _ hq2 q3) ?_ (fun μ' t4 q4 => hk2 μ' ?_ q4)
          · rw [hR, List.length_append]; omega
          · rw [hR, List.append_assoc] at t4
            exact t4
        have st121 : ∀ μ2 L2, TPE μ2 tp ca L2 → (∀ q, q ≠ tp → q ≠ ca → μ2 q = μ q) → L2.length + ((if trK t = 2 then [96 + q.1] else []) ++ (tlet d q.2 ++ R)).length ≤ 400 → (∀ μ', TPE μ' tp ca (L2 ++ ((if trK t = 2 then [96 + q.1] else []) ++ (tlet d q.2 ++ R))) → (∀ q, q ≠ tp → q ≠ ca → μ' q = μ q) → k σ μ') →
            DJ B ax (D + 1) u y_VA_tell 121 [(0, .ref a), (1, .ref tp), (2, .int (nI j))] [] σ μ2 (qN k) := by
          intro μ2 L2 hT2 hq2 hl2 hk2
          obtain ⟨e1, e2, e3⟩ := kp μ2 hq2
          refine s_VA_tell_121 B ax D u a tp _ σ μ2 _ ⟨_, _, e1, rfl, fun h2 => ?_, fun h2 => ?_⟩
          · rw [eq_nI (by omega) 2 (by omega)] at h2
            rw [if_neg h2] at hl2 hk2
            exact st144 μ2 L2 hT2 hq2 hl2 hk2
          · rw [eq_nI (by omega) 2 (by omega)] at h2
            rw [if_pos h2] at hl2 hk2
            rw [List.length_append, List.length_singleton] at hl2
            refine ⟨_, b, e1, rfl, _, g, e2, vp_in_nI (by omega) (by omega), hT2.obj, 0, Nat.zero_le _, ?_⟩
            rw [nI_clamp (by omega), g1, n97]
            refine c_TP_add B ax D 0 hT2 (by omega) _ _ (fun μ3 t3 q3 => ?_)
            refine st144 μ3 _ t3 (chain _ _ hq2 q3) ?_ (fun μ' t4 q4 => hk2 μ' ?_ q4)
            · rw [List.length_append, List.length_singleton]; omega
            · rw [List.append_assoc] at t4
              exact t4
        obtain ⟨e1, e2, e3⟩ := kp μ1 hq1
        refine s_VA_tell_94 B ax D u a tp _ σ μ1 _ ⟨_, c, e1, rfl, 0, _, h, e3, Nat.zero_le _, fun hn => absurd (nI_lt (by omega) (by omega)) hn, fun _ => ⟨_, _, e1, rfl, fun h3 => ?_, fun h3 => ⟨fun h0 => ?_, fun h0 => ?_⟩⟩⟩
        · rw [eq_nI (by omega) 3 (by omega)] at h3
          rw [if_neg (fun z => h3 z.1)] at hl1 hk1
          exact st121 μ1 L1 hT1 hq1 hl1 hk1
        · rw [lt_nI (by omega) 0 (by omega)] at h0
          rw [if_neg (fun z => h0 z.2)] at hl1 hk1
          exact st121 μ1 L1 hT1 hq1 hl1 hk1
        · rw [eq_nI (by omega) 3 (by omega)] at h3
          rw [lt_nI (by omega) 0 (by omega)] at h0
          rw [if_pos ⟨h3, h0⟩] at hl1 hk1
          rw [List.length_append, List.length_singleton] at hl1
          refine ⟨hT1.obj, 0, Nat.zero_le _, c_TP_add B ax D 0 hT1 (by omega) 44 _ (fun μ3 t3 q3 => ?_)⟩
          refine st121 μ3 _ t3 (chain _ _ hq1 q3) ?_ (fun μ' t4 q4 => hk1 μ' ?_ q4)
          · rw [List.length_append, List.length_singleton]; omega
          · rw [List.append_assoc] at t4
            exact t4
    -- the head
    generalize hR : kidL (trK t) (fun x => tlet d x) 0 (trC t) ++ tlL (trK t) = R at st94
    have eR : tlet (d + 1) t = hdL (trK t) (trN t) ++ R := by rw [← hR, ← List.append_assoc]; rfl
    rw [eR] at hlen hk
    unfold hdL at hlen hk
    simp only [List.append_assoc] at hlen hk
    have st92 : ∀ μ1 L1, TPE μ1 tp ca L1 → (∀ q, q ≠ tp → q ≠ ca → μ1 q = μ q) → L1.length + R.length ≤ 400 → (∀ μ', TPE μ' tp ca (L1 ++ R) → (∀ q, q ≠ tp → q ≠ ca → μ' q = μ q) → k σ μ') → DJ B ax (D + 1) u y_VA_tell 92 [(0, .ref a), (1, .ref tp)] [] σ μ1 (qN k) := by
      intro μ1 L1 hT1 hq1 hl1 hk1
      refine s_VA_tell_92 B ax D u a tp σ μ1 _ ?_
      refine st94 (trC t).length 0 μ1 L1 (by omega) hT1 hq1 ?_ ?_
      · rw [List.drop_zero, hR]; exact hl1
      · rw [List.drop_zero, hR]; exact hk1
    have st65 : ∀ μ1 L1, TPE μ1 tp ca L1 → (∀ q, q ≠ tp → q ≠ ca → μ1 q = μ q) → L1.length + ((if 1 < trK t then [if trK t = 2 then 40 else 91] else []) ++ R).length ≤ 400 → (∀ μ', TPE μ' tp ca (L1 ++ ((if 1 < trK t then [if trK t = 2 then 40 else 91] else []) ++ R)) → (∀ q, q ≠ tp → q ≠ ca → μ' q = μ q) → k σ μ') → DJ B ax (D + 1) u y_VA_tell 65 [(0, .ref a), (1, .ref tp)] [] σ μ1 (qN k) := by
      intro μ1 L1 hT1 hq1 hl1 hk1
      obtain ⟨e1, e2, e3⟩ := kp μ1 hq1
      have app : ∀ x, 1 < trK t → x = (if trK t = 2 then 40 else 91) → DJ B ax (D + 1) u y_VA_tell 89 [(0, .ref a), (1, .ref tp)] [.int (nI x), .ref tp] σ μ1 (qN k) := by
        intro x h1 hx
        rw [if_pos h1, ← hx] at hl1 hk1
        rw [List.length_append, List.length_singleton] at hl1
        refine s_VA_tell_89 B ax D u a tp _ tp σ μ1 _ ⟨hT1.obj, 0, Nat.zero_le _, c_TP_add B ax D 0 hT1 (by omega) x _ (fun μ3 t3 q3 => ?_)⟩
        refine st92 μ3 _ t3 (chain _ _ hq1 q3) ?_ (fun μ' t4 q4 => hk1 μ' ?_ q4)
        · rw [List.length_append, List.length_singleton]; omega
        · rw [List.append_assoc] at t4
          exact t4
      refine s_VA_tell_65 B ax D u a tp σ μ1 _ ⟨_, _, e1, rfl, fun hn => ?_, fun hp => ⟨_, _, e1, rfl, fun h2 => ?_, fun h2 => ?_⟩⟩
      · rw [lt_nI (by omega) 1 (by omega)] at hn
        rw [if_neg hn] at hl1 hk1
        exact st92 μ1 L1 hT1 hq1 hl1 hk1
      · rw [lt_nI (by omega) 1 (by omega)] at hp
        rw [eq_nI (by omega) 2 (by omega)] at h2
        exact app 91 hp (by rw [if_neg h2])
      · rw [lt_nI (by omega) 1 (by omega)] at hp
        rw [eq_nI (by omega) 2 (by omega)] at h2
        exact app 40 hp (by rw [if_pos h2])
    have st51 : ∀ μ1 L1, TPE μ1 tp ca L1 → (∀ q, q ≠ tp → q ≠ ca → μ1 q = μ q) → L1.length + ((if trK t = 1 then [63] else []) ++ ((if 1 < trK t then [if trK t = 2 then 40 else 91] else []) ++ R)).length ≤ 400 → (∀ μ', TPE μ' tp ca (L1 ++ ((if trK t = 1 then [63] else []) ++ ((if 1 < trK t then [if trK t = 2 then 40 else 91] else []) ++ R))) → (∀ q, q ≠ tp → q ≠ ca → μ' q = μ q) → k σ μ') → DJ B ax (D + 1) u y_VA_tell 51 [(0, .ref a), (1, .ref tp)] [] σ μ1 (qN k) := by
      intro μ1 L1 hT1 hq1 hl1 hk1
      obtain ⟨e1, e2, e3⟩ := kp μ1 hq1
      refine s_VA_tell_51 B ax D u a tp σ μ1 _ ⟨_, _, e1, rfl, fun hn => ?_, fun hp => ?_⟩
      · rw [eq_nI (by omega) 1 (by omega)] at hn
        rw [if_neg hn] at hl1 hk1
        exact st65 μ1 L1 hT1 hq1 hl1 hk1
      · rw [eq_nI (by omega) 1 (by omega)] at hp
        rw [if_pos hp] at hl1 hk1
        rw [List.length_append, List.length_singleton] at hl1
        refine ⟨hT1.obj, 0, Nat.zero_le _, c_TP_add B ax D 0 hT1 (by omega) 63 _ (fun μ3 t3 q3 => ?_)⟩
        refine st65 μ3 _ t3 (chain _ _ hq1 q3) ?_ (fun μ' t4 q4 => hk1 μ' ?_ q4)
        · rw [List.length_append, List.length_singleton]; omega
        · rw [List.append_assoc] at t4
          exact t4
    generalize hR2 : (if trK t = 1 then [63] else []) ++ ((if 1 < trK t then [if trK t = 2 then 40 else 91] else []) ++ R) = R2 at hlen hk st51
    have st30 : ∀ μ1 L1, TPE μ1 tp ca L1 → (∀ q, q ≠ tp → q ≠ ca → μ1 q = μ q) → L1.length + ((if trK t = 0 then [48 + trN t % 10] else []) ++ R2).length ≤ 400 → (∀ μ', TPE μ' tp ca (L1 ++ ((if trK t = 0 then [48 + trN t % 10] else []) ++ R2)) → (∀ q, q ≠ tp → q ≠ ca → μ' q = μ q) → k σ μ') → DJ B ax (D + 1) u y_VA_tell 30 [(0, .ref a), (1, .ref tp)] [] σ μ1 (qN k) := by
      intro μ1 L1 hT1 hq1 hl1 hk1
      obtain ⟨e1, e2, e3⟩ := kp μ1 hq1
      refine s_VA_tell_30 B ax D u a tp σ μ1 _ ⟨_, _, e1, rfl, fun hn => ?_, fun hp => ?_⟩
      · rw [eq_nI (by omega) 0 (by omega)] at hn
        rw [if_neg hn] at hl1 hk1
        exact st51 μ1 L1 hT1 hq1 hl1 hk1
      · rw [eq_nI (by omega) 0 (by omega)] at hp
        rw [if_pos hp] at hl1 hk1
        rw [List.length_append, List.length_singleton] at hl1
        refine ⟨_, _, e1, rfl, by decide, hT1.obj, 0, Nat.zero_le _, ?_⟩
        rw [n48r hN]
        refine c_TP_add B ax D 0 hT1 (by omega) _ _ (fun μ3 t3 q3 => ?_)
        refine st51 μ3 _ t3 (chain _ _ hq1 q3) ?_ (fun μ' t4 q4 => hk1 μ' ?_ q4)
        · rw [List.length_append, List.length_singleton]; omega
        · rw [List.append_assoc] at t4
          exact t4
    have q0 : ∀ q, q ≠ tp → q ≠ ca → μ q = μ q := fun _ _ _ => rfl
    refine s_VA_tell_0 B ax D u a tp σ μ _ ⟨_, _, h1, rfl, fun hn => ?_, fun hp => ⟨_, _, h1, rfl, fun h9 => ?_, fun h9 => ⟨_, _, h1, rfl, by decide, hT.obj, 0, Nat.zero_le _, ?_⟩⟩⟩
    · rw [eq_nI (by omega) 0 (by omega)] at hn
      rw [if_neg (fun z => hn z.1)] at hlen hk
      exact st30 μ L hT q0 hlen hk
    · rw [lt_nI hN 9 (by omega)] at h9
      rw [if_neg (fun z => h9 z.2)] at hlen hk
      exact st30 μ L hT q0 hlen hk
    · rw [eq_nI (by omega) 0 (by omega)] at hp
      rw [lt_nI hN 9 (by omega)] at h9
      rw [if_pos ⟨hp, h9⟩] at hlen hk
      rw [List.length_append, List.length_singleton] at hlen
      rw [n48 hN]
      refine c_TP_add B ax D 0 hT (by omega) _ _ (fun μ3 t3 q3 => ?_)
      refine st30 μ3 _ t3 q3 ?_ (fun μ' t4 q4 => hk μ' ?_ q4)
      · rw [List.length_append, List.length_singleton]; omega
      · rw [List.append_assoc] at t4
        exact t4
theorem c_VA_field (B : dB) (ax : Nat → Nat) (d D u : Nat) {σ : sS} {μ : dW} {F : Nat → Prop} {a : Nat} {t : Tr (d + 1)} (hv : VL μ F (d + 1) a t) (hw : twf (d + 1) t) (v : Nat) (hvb : v < 2 ^ 31) (k : Value → sS → dW → Prop) (hN : (∀ q ∈ trC t, q.1 ≠ v) → k .null σ μ) (hS : ∀ b, (∃ q ∈ trC t, q.1 = v) → k (.ref b) σ μ) : DCJ B ax D u y_VA_field [.ref a, .int (nI v)] σ μ (qP k) := by
  obtain ⟨b, c, g, h, h1, f1, f2, f3, h2, h3, h4⟩ := hv
  obtain ⟨w1, w2, w2b, w3, w4, w5, w6, w7⟩ := hw
  refine s_VA_field_0 B ax D u a _ σ μ _ ?_
  have loop : ∀ m j, j + m = (trC t).length → (∀ i q, i < j → (trC t)[i]? = some q → q.1 ≠ v) → DJ B ax D u y_VA_field 2 [(0, .ref a), (1, .int (nI v)), (2, .int (nI j))] [] σ μ (qP k) := by
    intro m
    induction m with
    | zero =>
      intro j hj hno
      refine s_VA_field_2 B ax D u a _ _ σ μ _ ⟨_, c, h1, rfl, 0, _, h, h3, Nat.zero_le _, fun _ => ?_, fun hlt => absurd hlt (nI_nlt (by omega) (by omega))⟩
      refine hN (fun q hq => ?_)
      obtain ⟨i, hi⟩ := List.getElem?_of_mem hq
      have := (List.getElem?_eq_some_iff.mp hi).1
      exact hno i q (by omega) hi
    | succ m ih =>
      intro j hj hno
      obtain ⟨q, hq⟩ := at_len hj
      obtain ⟨g1, a', g2, g3⟩ := h4 j q hq
      have hmem := List.mem_of_getElem? hq
      have hq9 := (w7 q hmem).2.1
      refine s_VA_field_2 B ax D u a _ _ σ μ _ ⟨_, c, h1, rfl, 0, _, h, h3, Nat.zero_le _, fun hn => absurd (nI_lt (by omega) (by omega)) hn, fun _ => ⟨_, b, h1, rfl, _, g, h2, vp_in_nI (by omega) (by omega), ?_⟩⟩
      rw [nI_clamp (by omega), g1]
      show (¬ nI q.1 = nI v → _) ∧ (nI q.1 = nI v → _)
      rw [nI_eq (by omega) hvb]
      refine ⟨fun hne => ?_, fun he => ⟨_, c, h1, rfl, 0, _, h, a', h3, Nat.zero_le _, vp_in_nI (by omega) (by omega), by rw [nI_clamp (by omega)]; exact g2, hS a' ⟨q, hmem, he⟩⟩⟩
      rw [nI_s1]
      refine ih (j + 1) (by omega) (fun i q' hi hq' => ?_)
      by_cases z : i = j
      · subst z
        rw [hq] at hq'
        cases hq'
        exact hne
      · exact hno i q' (by omega) hq'
  exact loop (trC t).length 0 (by omega) (fun i q hi => absurd hi (Nat.not_lt_zero _))
