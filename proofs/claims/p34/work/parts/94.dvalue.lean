/-! the law's values by its script -/
def pkF (x : Int32) (n : Nat) : Nat := (x &&& 2147483647).toNatClampNeg % n
theorem pkF_lt (x : Int32) {n : Nat} (h : 0 < n) : pkF x n < n := Nat.mod_lt _ h
theorem c_LW_pick (B : dB) (ax : Nat → Nat) (D u : Nat) {σ : sS} {μ : dW} (x : Int32) (n : Nat) (h0 : 0 < n) (hn : n < 2 ^ 31) (k : Int32 → sS → dW → Prop) (hk : k (nI (pkF x n)) σ μ) : DCJ B ax D u y_LW_pick [.int x, .int (nI n)] σ μ (qI k) := by
  obtain ⟨j, hj, ej⟩ := pk_andE x (m := 2147483647) 31 (by decide)
  refine s_LW_pick_0 B ax D u x _ σ μ _ ⟨nI_ne0 h0 hn, ?_⟩
  rw [ej, pk_rem hj h0 hn]
  unfold pkF at hk
  rw [ej, nI_clamp hj] at hk
  exact hk
theorem c_LW_cell (B : dB) (ax : Nat → Nat) (hB : B.2.1 < 2 ^ 31) (D u : Nat) {σ : sS} {μ : dW} (j : Nat) (hj : j < 2 ^ 31) (k : Int32 → sS → dW → Prop) (hk : ∀ x, k x σ μ) : DCJ B ax D u y_LW_cell [.ref B.1, .int (nI j)] σ μ (qI k) := by
  refine s_LW_cell_0 B ax D u _ _ σ μ _ ⟨rfl, fun _ => hk _, fun hlt => ⟨rfl, ?_, hk _⟩⟩
  rw [nI_ltI hj hB] at hlt
  exact vp_in_nI hlt hB
theorem nIltl {a : Nat} (ha : a < 2 ^ 31) (b : Nat) (hb : b < 2 ^ 31) : (nI a < (OfNat.ofNat b : Int32)) ↔ a < b := nI_ltI ha hb
theorem RL.mono {μ : dW} {F G F' G' : Nat → Prop} {d a : Nat} {t : Tr (d + 1)} (h : RL μ F G d a t) (hF : ∀ q, F q → F' q) (hG : ∀ q, G q → G' q) : RL μ F' G' d a t := by
  obtain ⟨b, c, g, hh, h1, f1, f2, f3, h2, h3, h4⟩ := h
  refine ⟨b, c, g, hh, h1, hF _ f1, hF _ f2, hF _ f3, h2, h3, fun j q hj => ?_⟩
  obtain ⟨e1, a', e2, e3⟩ := h4 j q hj
  exact ⟨e1, a', e2, e3.kept hG (fun _ _ _ => rfl)⟩
def Sb : Nat → Nat
  | 0 => 0
  | d + 1 => 1 + 4 * Sb d
theorem tsz_Sb : ∀ {d : Nat} {t : Tr d}, twf d t → tsz d t ≤ Sb d
  | 0, _, h => h.elim
  | d + 1, t, h => by
    have h1 := sumf_le (fun q => tsz d q.2) (Sb d) (trC t) (fun q hq => tsz_Sb (h.2.2.2.2.2.2.2 q hq).2.2.2)
    have h2 := Nat.mul_le_mul_right (Sb d) h.2.2.2.2.1
    show 1 + sumf _ _ ≤ 1 + 4 * Sb d
    omega
def Uv (d : Nat) : Nat := 30 * 7 ^ d
def Xv (d : Nat) : Nat := 12 + (Uv (d - 1) + (5 + 11 * Sb d))
theorem Uv_le : ∀ d, d ≤ 3 → 30 ≤ Uv d ∧ (1 ≤ d → 7 + 3 * Xv d ≤ Uv d) := by
  intro d hd
  rcases (show d = 0 ∨ d = 1 ∨ d = 2 ∨ d = 3 by omega) with rfl | rfl | rfl | rfl <;> decide
def VSpec (B : dB) (ax : Nat → Nat) (dp : Nat) : Prop := ∀ (σ : sS) (μ : dW) (at_ D u : Nat), at_ < 40 → dp ≤ 3 → dp + 2 ≤ D → Uv dp ≤ u → ∀ (k : Nat → sS → dW → Prop), (∀ (a : Nat) (μ' : dW) (T : Tr (dp + 1)), twf (dp + 1) T → VL μ' (fun q => μ q = none) (dp + 1) a T → Ext μ μ' → k a σ μ') → DCJ B ax D u y_LW_value [.ref B.1, .int (nI at_), .int (nI dp)] σ μ (qR k)
theorem nm5 (r j : Nat) (hr : r < 5) (hj : j < 1000) : (1 : Int32) + ((nI r + 2 * nI j) - (nI r + 2 * nI j) / 5 * 5) = nI (1 + (r + 2 * j) % 5) := by
  rw [lit 2, pk_mul, nI_add, lit 5, pk_rem (by omega) (by omega) (by omega), lit 1, nI_add]
theorem at40 (a j : Nat) (ha : a < 40) (hj : j < 1000) : (((nI a * 3) + nI j) + 1) - (((nI a * 3) + nI j) + 1) / 40 * 40 = nI ((a * 3 + j + 1) % 40) := by
  rw [lit 3, pk_mul, nI_add, nI_s1, lit 40, pk_rem (by omega) (by omega) (by omega)]
set_option maxHeartbeats 2000000 in
theorem c_LW_value (B : dB) (ax : Nat → Nat) (hB : B.2.1 < 2 ^ 31) (dp : Nat) : VSpec B ax dp := by
  refine Nat.strongRecOn dp (fun dp ih => ?_)
  intro σ μ at_ D u hat hdp hD hu k hk
  obtain ⟨E, rfl⟩ : ∃ E, D = E + 2 := ⟨D - 2, by omega⟩
  obtain ⟨hU, hX⟩ := Uv_le dp hdp
  have st54 : ∀ K (x : Int32), K ≤ 3 → (dp = 0 → K = 0) → DJ B ax (E + 2) u y_LW_value 54 [(0, .ref B.1), (1, .int (nI at_)), (2, .int (nI dp)), (3, .int x)] [.int (nI K)] σ μ (qR k) := by
    intro K x hK hK0
    refine s_LW_value_54 B ax (E + 1) u _ _ _ _ _ σ μ _ ⟨by show 5 ≤ u; omega, fun q1 hq1 => ?_⟩
    generalize hμ2 : dset μ q1 (eO 7 (dfl 7)) = μ2
    have x12 : Ext μ μ2 := by rw [← hμ2]; exact ext_new hq1 _
    have o1 : μ2 q1 = some (eO 7 (dfl 7)) := by rw [← hμ2]; exact dset_same _ _ _
    have st94 : ∀ N, N ≤ 99 → (K ≠ 0 → N = 0) → DJ B ax (E + 2) (u - 5) y_LW_value 94 [(0, .ref B.1), (1, .int (nI at_)), (2, .int (nI dp)), (3, .int x), (4, .int (nI K))] [.int (nI N), .int (nI K), .ref q1, .ref q1] σ μ2 (qR k) := by
      intro N hN hN0
      refine s_LW_value_94 B ax (E + 1) (u - 5) _ _ _ _ _ _ _ q1 q1 σ μ2 _ ⟨2, by omega, c_VA_init B ax dp E 2 K N (Nat.le_refl _) o1 _ (fun μ3 r3 k3 => ?_)⟩
      have x23 : ∀ q, q ≠ q1 → μ2 q ≠ none → μ3 q = μ2 q := k3
      have n3 : μ3 q1 ≠ none := by obtain ⟨fs, e⟩ := r3.obj; rw [e]; simp
      have f13 : ∀ q, μ q ≠ none → μ3 q = μ q := fun q hq => by
        have qn : q ≠ q1 := fun z => hq (z ▸ hq1)
        have e := x12 q hq
        rw [x23 q qn (by rw [e]; exact hq), e]
      have r0 : RL μ3 (fun q => μ q = none) (fun q => μ3 q = none) dp q1 (trmk K N []) := r3.mono (fun q hq => by
        rcases hq with rfl | hq
        · exact hq1
        · exact x12.fresh hq) (fun _ z => z.elim)
      clear r3
      -- the loop
      have st122 : ∀ M, M ≤ 3 → (K < 2 → M = 0) → ∀ m j (μ1 : dW) (u1 : Nat) (t : Tr (dp + 1)), j + m = M → trK t = K → trN t = N → (trC t).length = j → (∀ (i : Nat) (q : Nat × Tr dp), (trC t)[i]? = some q → q.1 = (if K = 3 then 6 + i else 1 + (pkF (x >>> (9 &&& 31)) 5 + 2 * i) % 5)) → (∀ q ∈ trC t, twf dp q.2) → RL μ1 (fun q => μ q = none) (fun q => μ3 q = none) dp q1 t → (∀ q, q ≠ q1 → μ3 q ≠ none → μ1 q = μ3 q) → m * Xv dp ≤ u1 →
          DJ B ax (E + 2) u1 y_LW_value 122 [(0, .ref B.1), (1, .int (nI at_)), (2, .int (nI dp)), (3, .int x), (4, .int (nI K)), (5, .ref q1), (6, .int (nI M)), (7, .int (nI j))] [] σ μ1 (qR k) := by
        intro M hM hM0 m
        have hr5 := pkF_lt (x >>> (9 &&& 31)) (n := 5) (by omega)
        generalize er5 : pkF (x >>> (9 &&& 31)) 5 = r5 at *
        induction m with
        | zero =>
          intro j μ1 u1 t hj tk tn tl tnm tw hR hq1' hu1
          have ej : j = M := by omega
          subst ej
          refine s_LW_value_122 B ax (E + 1) u1 _ _ _ _ _ q1 _ _ σ μ1 _ ⟨fun _ => ?_, fun hlt => absurd hlt (nI_nlt (Nat.le_refl _) (by omega))⟩
          refine hk q1 μ1 t ⟨by omega, fun _ => by omega, fun z => by rw [tn]; exact hN0 (by omega), fun z => ?_, by omega, fun z i i' p q hi hi' hpq => ?_, fun z i q hi => ?_, fun q hq => ?_⟩ (hR.vl (fun q hq => ?_)) (fun q hq => ?_)
          · exact List.length_eq_zero_iff.mp (by rw [tl]; exact hM0 (by omega))
          · have l1 := (List.getElem?_eq_some_iff.mp hi).1
            have l2 := (List.getElem?_eq_some_iff.mp hi').1
            have e1 := tnm i p hi
            have e2 := tnm i' q hi'
            rw [if_neg (by omega)] at e1 e2
            omega
          · have e1 := tnm i q hi
            rw [if_pos (by omega)] at e1
            exact e1
          · obtain ⟨i, hi⟩ := List.getElem?_of_mem hq
            have l1 := (List.getElem?_eq_some_iff.mp hi).1
            have e1 := tnm i q hi
            have h5 : (r5 + 2 * i) % 5 < 5 := Nat.mod_lt _ (by omega)
            refine ⟨?_, ?_, fun z => ?_, tw q hq⟩
            · rw [e1]; split <;> omega
            · rw [e1]; split <;> omega
            · rw [e1, if_neg (by omega)]; omega
          · cases hm : μ q with
            | none => rfl
            | some e => rw [f13 q (ne_none hm), hm] at hq; cases hq
          · have qn : q ≠ q1 := fun z => hq (z ▸ hq1)
            have e := f13 q hq
            rw [hq1' q qn (by rw [e]; exact hq), e]
        | succ m ihm =>
          intro j μ1 u1 t hj tk tn tl tnm tw hR hq1' hu1
          have hK2 : 2 ≤ K := by
            rcases Nat.lt_or_ge K 2 with z | z
            · have := hM0 z; omega
            · exact z
          have hdp0 : 1 ≤ dp := by
            rcases Nat.eq_zero_or_pos dp with z | z
            · have := hK0 z; omega
            · exact z
          have hXX := hX hdp0
          rw [Nat.succ_mul] at hu1
          generalize hmX : m * Xv dp = mX at hu1
          have hXd : Xv dp = 12 + (Uv (dp - 1) + (5 + 11 * Sb dp)) := rfl
          have fr : ∀ q, μ1 q = none → μ3 q = none := fun q hq => by
            cases hm : μ3 q with
            | none => rfl
            | some e =>
              by_cases z : q = q1
              · subst z; obtain ⟨fs, e⟩ := hR.obj; rw [e] at hq; cases hq
              · rw [hq1' q z (ne_none hm), hm] at hq; cases hq
          have st219 : ∀ (μ4 : dW) (u4 nm y : Nat) (T : Tr dp), Ext μ1 μ4 → VL μ4 (fun q => μ1 q = none) dp y T → twf dp T → nm = (if K = 3 then 6 + j else 1 + (r5 + 2 * j) % 5) → mX + 12 ≤ u4 →
              DJ B ax (E + 2) u4 y_LW_value 219 [(0, .ref B.1), (1, .int (nI at_)), (2, .int (nI dp)), (3, .int x), (4, .int (nI K)), (5, .ref q1), (6, .int (nI M)), (7, .int (nI j)), (8, .int (nI nm))] [.ref y] σ μ4 (qR k) := by
            intro μ4 u4 nm y T x14 vy wT hnm hu4
            have hR4 := hR.kept x14
            refine s_LW_value_219 B ax (E + 1) u4 _ _ _ _ _ q1 _ _ _ y σ μ4 _ ⟨hR4.obj, 12, by omega, ?_⟩
            refine c_VA_add B ax dp (E + 1) 12 hR4 (vy.kept fr (fun _ _ _ => rfl)) n3 (fun q hq => ?_) nm (by omega) (by omega) _ (fun μ5 r5' k5 => ?_)
            · cases hm : μ q with
              | none => rfl
              | some e =>
                have qn : q ≠ q1 := fun z => by rw [z, hq1] at hm; cases hm
                have e3 := f13 q (ne_none hm)
                have e1 := hq1' q qn (by rw [e3, hm]; simp)
                rw [x14 q (by rw [e1, e3, hm]; simp), e1, e3, hm] at hq
                cases hq
            · show DJ B ax (E + 2) (u4 - 12) y_LW_value 122 [(0, .ref B.1), (1, .int (nI at_)), (2, .int (nI dp)), (3, .int x), (4, .int (nI K)), (5, .ref q1), (6, .int (nI M)), (7, .int (nI j + 1))] [] σ μ5 (qR k)
              rw [nI_s1]
              refine ihm (j + 1) μ5 _ (trmk (trK t) (trN t) (trC t ++ [(nm, T)])) (by omega) tk tn (by rw [trC_mk, List.length_append, tl]; rfl) (fun i q hi => ?_) (fun q hq => ?_) r5' (fun q qn hq => ?_) (by rw [hmX]; omega)
              · rw [trC_mk] at hi
                by_cases z : i < j
                · rw [List.getElem?_append_left (by omega)] at hi
                  exact tnm i q hi
                · have hl := (List.getElem?_eq_some_iff.mp hi).1
                  rw [List.length_append, List.length_singleton] at hl
                  have ei : i = j := by omega
                  subst ei
                  rw [List.getElem?_append_right (by omega), tl, Nat.sub_self] at hi
                  have hq2 : (nm, T) = q := Option.some.inj hi
                  rw [← hq2]
                  exact hnm
              · rw [trC_mk] at hq
                rcases List.mem_append.mp hq with z | z
                · exact tw q z
                · rw [List.mem_singleton] at z
                  subst z
                  exact wT
              · have e1 := hq1' q qn hq
                have e4 := x14 q (by rw [e1]; exact hq)
                rw [k5 q qn (by rw [e4, e1]; exact hq), e4, e1]
          have st201 : ∀ (u4 nm : Nat), nm = (if K = 3 then 6 + j else 1 + (r5 + 2 * j) % 5) → mX + 12 + Uv (dp - 1) ≤ u4 →
              DJ B ax (E + 2) u4 y_LW_value 201 [(0, .ref B.1), (1, .int (nI at_)), (2, .int (nI dp)), (3, .int x), (4, .int (nI K)), (5, .ref q1), (6, .int (nI M)), (7, .int (nI j)), (8, .int (nI nm))] [] σ μ1 (qR k) := by
            intro u4 nm hnm hu4
            refine s_LW_value_201 B ax (E + 1) u4 _ _ _ _ _ q1 _ _ _ σ μ1 _ ⟨by decide, Uv (dp - 1), by omega, ?_⟩
            rw [at40 at_ j hat (by omega), lit 1, nI_subm hdp0]
            refine ih (dp - 1) (by omega) σ μ1 _ (E + 1) _ (Nat.mod_lt _ (by omega)) (by omega) (by omega) (Nat.le_refl _) _ (fun a μ4 T wT vT xT => ?_)
            have ed : dp - 1 + 1 = dp := by omega
            revert T
            rw [ed]
            intro T wT vT
            exact st219 μ4 _ nm a T xT vT wT hnm (by omega)
          have st160 : ∀ nm, nm = (if K = 3 then 6 + j else 1 + (r5 + 2 * j) % 5) →
              DJ B ax (E + 2) u1 y_LW_value 160 [(0, .ref B.1), (1, .int (nI at_)), (2, .int (nI dp)), (3, .int x), (4, .int (nI K)), (5, .ref q1), (6, .int (nI M)), (7, .int (nI j))] [.int (nI nm)] σ μ1 (qR k) := by
            intro nm hnm
            refine s_LW_value_160 B ax (E + 1) u1 _ _ _ _ _ q1 _ _ _ σ μ1 _ ⟨fun _ => st201 u1 nm hnm (by omega), fun hj0 => ⟨0, Nat.zero_le _, ?_⟩⟩
            rw [lt_nI (by omega) 0 (by omega)] at hj0
            refine c_LW_pick B ax (E + 1) 0 _ 3 (by omega) (by omega) _ ⟨fun _ => st201 (u1 - 0) nm hnm (by omega), fun _ => ⟨by show 5 ≤ u1 - 0; omega, fun q5 hq5 => ?_⟩⟩
            -- a copy of the one before
            obtain ⟨b, c, g, h, h1, f1, f2, f3, h2, h3, h4⟩ := id hR
            have d15 := ext_new hq5 (eO 7 (dfl 7))
            obtain ⟨qq, hqq⟩ : ∃ qq, (trC t)[j - 1]? = some qq := ⟨(trC t)[j - 1]'(by omega), List.getElem?_eq_getElem (by omega)⟩
            obtain ⟨g1, s', g2, g3⟩ := h4 (j - 1) qq hqq
            have wq := tw qq (List.mem_of_getElem? hqq)
            refine ⟨_, c, (d15 q1 (ne_none h1)).trans h1, rfl, 0, _, h, s', (d15 c (ne_none h3)).trans h3, Nat.zero_le _, ?_, ?_, 11 * Sb dp, by omega, ?_⟩
            · rw [lit 1, nI_subm (by omega)]
              exact vp_in_nI (by omega) (by omega)
            · rw [lit 1, nI_subm (by omega), nI_clamp (by omega)]
              exact g2
            · have hS := tsz_Sb wq
              have vS : VL (dset μ1 q5 (eO 7 (dfl 7))) (fun z => μ3 z = none ∧ μ1 z ≠ none) dp s' qq.2 := (VL.nn g3).kept (fun _ z => z) (fun z hz hzn => d15 z hzn)
              refine c_VA_copy B ax dp (E + 1) _ vS wq (dset_same _ _ _) (fun z => z.2 hq5) (by omega) (by omega) _ (fun μ4 v4 k4 => ?_)
              refine st219 μ4 _ nm q5 qq.2 (fun z hz => ?_) (v4.kept (fun z hz => ?_) (fun _ _ _ => rfl)) wq hnm (by omega)
              · have zn : z ≠ q5 := fun y => hz (y ▸ hq5)
                have e := d15 z hz
                rw [k4 z zn (by rw [e]; exact hz), e]
              · rcases hz with rfl | hz
                · exact hq5
                · exact d15.fresh hz
          refine s_LW_value_122 B ax (E + 1) u1 _ _ _ _ _ q1 _ _ σ μ1 _ ⟨fun hno => absurd (nI_lt (by omega) (by omega)) hno, fun _ => ⟨fun h3 => ⟨0, Nat.zero_le _, ?_⟩, fun h3 => ?_⟩⟩
          · rw [eq_nI (by omega) 3 (by omega)] at h3
            refine c_LW_pick B ax (E + 1) 0 _ 5 (by omega) (by omega) _ ⟨by decide, ?_⟩
            rw [er5, nm5 r5 j hr5 (by omega)]
            exact st160 _ (by rw [if_neg h3])
          · rw [eq_nI (by omega) 3 (by omega)] at h3
            rw [lit 6, nI_add]
            exact st160 _ (by rw [if_pos h3])
      have st117 : ∀ M u4, M ≤ 3 → (K < 2 → M = 0) → M * Xv dp ≤ u4 → DJ B ax (E + 2) u4 y_LW_value 117 [(0, .ref B.1), (1, .int (nI at_)), (2, .int (nI dp)), (3, .int x), (4, .int (nI K)), (5, .ref q1)] [.int (nI M)] σ μ3 (qR k) := by
        intro M u4 hM hM0 hu4
        refine s_LW_value_117 B ax (E + 1) u4 _ _ _ _ _ q1 _ σ μ3 _ ?_
        exact st122 M hM hM0 M 0 μ3 u4 _ (by omega) rfl rfl rfl (fun i q hi => by rw [trC_mk] at hi; simp at hi) (fun q hq => by rw [trC_mk] at hq; cases hq) r0 (fun _ _ _ => rfl) hu4
      refine ⟨fun h2 => ⟨0, Nat.zero_le _, c_LW_pick B ax (E + 1) 0 _ 4 (by omega) (by omega) _ ?_⟩, fun h2 => ?_⟩
      · have h4 := pkF_lt (x >>> (6 &&& 31)) (n := 4) (by omega)
        rw [nIltl (by omega) 2 (by omega)] at h2
        have hdp0 : 1 ≤ dp := by
          rcases Nat.eq_zero_or_pos dp with z | z
          · have := hK0 z; omega
          · exact z
        have hXX := hX hdp0
        refine st117 _ _ (by omega) (fun z => absurd z h2) ?_
        have : pkF (x >>> (6 &&& 31)) 4 * Xv dp ≤ 3 * Xv dp := Nat.mul_le_mul_right _ (by omega)
        omega
      · rw [nIltl (by omega) 2 (by omega)] at h2
        exact st117 0 _ (by omega) (fun _ => rfl) (by omega)
    refine ⟨fun h0 => ?_, fun h0 => ⟨0, Nat.zero_le _, c_LW_pick B ax (E + 1) 0 _ 2 (by omega) (by omega) _ ⟨fun _ => ?_, fun _ => ?_⟩⟩⟩
    · rw [eq_nI (by omega) 0 (by omega)] at h0
      exact st94 0 (by omega) (fun _ => rfl)
    · rw [eq_nI (by omega) 0 (by omega)] at h0
      have h4 := pkF_lt (x >>> (5 &&& 31)) (n := 12) (by omega)
      refine s_LW_value_87 B ax (E + 1) _ _ _ _ _ _ _ _ _ q1 q1 σ μ2 _ ⟨0, Nat.zero_le _, c_LW_pick B ax (E + 1) 0 _ 12 (by omega) (by omega) _ ?_⟩
      exact st94 _ (by omega) (fun z => absurd h0 z)
    · rw [eq_nI (by omega) 0 (by omega)] at h0
      have h4 := pkF_lt (x >>> (5 &&& 31)) (n := 100) (by omega)
      refine s_LW_value_87 B ax (E + 1) _ _ _ _ _ _ _ _ _ q1 q1 σ μ2 _ ⟨0, Nat.zero_le _, c_LW_pick B ax (E + 1) 0 _ 100 (by omega) (by omega) _ ?_⟩
      exact st94 _ (by omega) (fun z => absurd h0 z)
  have st20 : ∀ x, DJ B ax (E + 2) u y_LW_value 20 [(0, .ref B.1), (1, .int (nI at_)), (2, .int (nI dp)), (3, .int x)] [] σ μ (qR k) := fun x => s_LW_value_20 B ax (E + 1) u _ _ _ _ σ μ _ (st54 0 x (by omega) (fun _ => rfl))
  refine s_LW_value_0 B ax (E + 1) u _ _ _ σ μ _ ⟨0, Nat.zero_le _, c_LW_cell B ax hB (E + 1) 0 at_ (by omega) _ (fun x => ⟨0, Nat.zero_le _, c_LW_pick B ax (E + 1) 0 _ 10 (by omega) (by omega) _ ⟨fun _ => st20 x, fun _ => ⟨fun h0 => ⟨0, Nat.zero_le _, c_LW_pick B ax (E + 1) 0 _ 10 (by omega) (by omega) _ ⟨fun _ => ⟨0, Nat.zero_le _, c_LW_pick B ax (E + 1) 0 _ 10 (by omega) (by omega) _ ⟨fun _ => ?_, fun _ => ?_⟩⟩, fun _ => ?_⟩⟩, fun _ => st20 x⟩⟩⟩)⟩
  · rw [eq_nI (by omega) 0 (by omega)] at h0
    exact st54 3 x (by omega) (fun z => absurd z h0)
  · rw [eq_nI (by omega) 0 (by omega)] at h0
    exact st54 2 x (by omega) (fun z => absurd z h0)
  · rw [eq_nI (by omega) 0 (by omega)] at h0
    exact st54 1 x (by omega) (fun z => absurd z h0)
