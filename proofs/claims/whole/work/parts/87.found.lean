/-! calls that tell what is found -/
theorem X_gather (D : Nat) (hD : 141 ≤ D) {σ : sS} {v : VT} {c : CT} {n : Nat} {L : Nat → Nat} {m : Nat} {T : Nat → Nat} {rf : Nat → Int32} {im : Option (VT × CT)} (w : WFV v) (wc : WFC c) (hx : AX σ v c n L m T rf im) (k : Int32 → sS → Prop) (hk : ∀ σ', FX σ' (fl c v).1 (fl c v).2 → AX σ' v c n L m T rf im → xF σ σ' → k (nI (fl c v).1.length) σ') : CJ LX D y_GA_gather [sR (0 + 15) (.inl 1), sR (0 + 1) (.inl 3)] σ (rI k) := by
  refine CJ.mono (c_GA_gather LX 1 w wc (by omega) rfl hx.1 hx.2.1 k (fun σ' g1 g2 => ?_)) hD
  have f : xF σ σ' := ⟨fun x a b d => g2 x (by omega) (by omega), fun i _ => by rw [g2 0 (by omega) (by omega)]⟩
  exact hk σ' g1 (hx.kept f) f
theorem gK.mS {σ σ' : sS} (h : gK σ σ') : mS σ σ' := ⟨fun x a b c => h.1 x a b, fun j _ => by rw [h.1 35 (by omega) (by omega)], fun i a b c d e f => h.2 i (by omega) (by omega) (by omega)⟩
theorem M_finds (d : Nat) {σ : sS} {v : VT} {c : CT} {n : Nat} {L : Nat → Nat} {m : Nat} {T : Nat → Nat} {rf : Nat → Int32} {im : Option (VT × CT)} (w : WFV v) (wc : WFC c) (hm : AM σ v c n L m T rf im) (k : sS → Prop) (hk : ∀ σ', FM σ' (fl c v).1 (fl c v).2 → AM σ' v c n L m T rf im → gK σ σ' → k σ') : CJ LM (d + 7) y_MO_findFaults [sR 0 (.inl 6)] σ (rN k) := by
  refine c_MO_findFaults LM d w wc ⟨hm.1, hm.2.1⟩ k (fun σ' g1 g2 => hk σ' g1 (hm.kept wc g2.mS) g2)
theorem M_many (d : Nat) {σ : sS} {v : VT} {c : CT} {n : Nat} {L : Nat → Nat} {m : Nat} {T : Nat → Nat} {rf : Nat → Int32} {im : Option (VT × CT)} (w : WFV v) (wc : WFC c) (hm : AM σ v c n L m T rf im) (k : Int32 → sS → Prop) (hk : ∀ σ', FM σ' (fl c v).1 (fl c v).2 → AM σ' v c n L m T rf im → gK σ σ' → k (nI (fl c v).1.length) σ') : CJ LM (d + 8) y_MO_manyNow [sR 0 (.inl 6)] σ (rI k) := by
  refine s_MO_manyNow_0 LM (d + 7) 0 σ (rI k) ?_
  refine M_finds d w wc hm _ (fun σ' g1 g2 g3 => ?_)
  rw [g1.1]
  exact hk σ' g1 g2 g3
theorem st_faults : stI RelS y_GF_faults y_MO_faults [] := by
  refine stI_mk (fun σx σm v c n L m T rf im ok hx hm => ?_)
  have wc := ok.wc
  have w := ok.wv
  refine ⟨nI (fl c v).1.length, v, c, n, L, m, T, rf, im, ok, fun k hk => ?_, fun k hk => ?_⟩
  · exact s_GF_faults_0 LX 299 0 σx (rI k) (X_gather 299 (by omega) w wc hx _ (fun σ' g1 g2 g3 => hk _ g2))
  · exact s_MO_faults_0 LM 299 0 σm (rI k) (M_many 291 w wc hm _ (fun σ' g1 g2 g3 => hk _ g2))
theorem st_waits : stI RelS y_GF_waits y_MO_waits [] := by
  refine stI_mk (fun σx σm v c n L m T rf im ok hx hm => ?_)
  have wc := ok.wc
  have w := ok.wv
  refine ⟨nI (fl c v).2, v, c, n, L, m, T, rf, im, ok, fun k hk => ?_, fun k hk => ?_⟩
  · refine s_GF_waits_0 LX 299 0 σx (rI k) (X_gather 299 (by omega) w wc hx _ (fun σ' g1 g2 g3 => ?_))
    rw [show σ' (0 + 15) 4 = _ from g1.2.1]
    exact hk _ g2
  · refine s_MO_waits_0 LM 299 0 σm (rI k) (M_finds 292 w wc hm _ (fun σ' g1 g2 g3 => ?_))
    rw [g1.2.1]
    exact hk _ g2
theorem at_some {F : List Nat} {i : Nat} (h : i < F.length) : ∃ x, F[i]? = some x ∧ x ∈ F := ⟨F[i], List.getElem?_eq_getElem h, List.getElem_mem h⟩
theorem X_at {σ : sS} {F : List Nat} {w : Nat} (h : FX σ F w) (h6 : F.length ≤ 6144) {i x : Nat} (hi : F[i]? = some x) : rd σ (15 + 22) 6144 (nI i) = nI x := by
  have : i < F.length := (List.getElem?_eq_some_iff.mp hi).1
  rw [rd_nI (by omega) (by omega)]
  exact h.2.2 _ _ hi
theorem c_GA_codeAt (d : Nat) {σ : sS} {F : List Nat} {w : Nat} (h : FX σ F w) (h6 : F.length ≤ 6144) (hok : okF F) {i x : Nat} (hi : F[i]? = some x) (k : Int32 → sS → Prop) (hk : k (nI (x % 100)) σ) : CJ LX (d + 1) y_GA_codeAt [sR (0 + 15) (.inl 1), sI (nI i)] σ (rI k) := by
  have hx : x < 10000000 := hok x (List.mem_of_getElem? hi)
  refine s_GA_codeAt_0 LX d 15 _ σ (rI k) ⟨by decide, ?_⟩
  rw [X_at h h6 hi]
  have e : nI x - nI x / 100 * 100 = nI (x % 100) := by
    rw [lit 100, pk_div (by omega) (by omega) (by omega), pk_mul, nI_subm (by omega)]
    congr 1
    omega
  rw [e]
  exact hk
theorem c_GA_pathAt (d : Nat) {σ : sS} {F : List Nat} {w : Nat} (h : FX σ F w) (h6 : F.length ≤ 6144) (hok : okF F) {i x : Nat} (hi : F[i]? = some x) (k : Int32 → sS → Prop) (hk : k (nI (x / 100)) σ) : CJ LX (d + 1) y_GA_pathAt [sR (0 + 15) (.inl 1), sI (nI i)] σ (rI k) := by
  have hx : x < 10000000 := hok x (List.mem_of_getElem? hi)
  refine s_GA_pathAt_0 LX d 15 _ σ (rI k) ⟨by decide, ?_⟩
  rw [X_at h h6 hi, lit 100, pk_div (by omega) (by omega) (by omega)]
  exact hk
theorem st_fault (a b : Int32) : stI RelS y_GF_fault y_MO_fault [sI a, sI b] := by
  refine stI_mk (fun σx σm v c n L m T rf im ok hx hm => ?_)
  have wc := ok.wc
  have w := ok.wv
  have hl := fl_len wc w
  have hok := fl_ok wc w
  by_cases hb : b = 0 ∨ b = 1
  · have e1 : iIn b 0 1 = 1 := (iIn01 b).1 hb
    have hm1 : nI (fl c v).1.length - 1 = (if (fl c v).1.length = 0 then -1 else nI ((fl c v).1.length - 1)) := by
      by_cases z : (fl c v).1.length = 0
      · rw [if_pos z, z]; rfl
      · rw [if_neg z]; exact nI_subm (a := (fl c v).1.length) (b := 1) (by omega)
    have in0 : ∀ q : Int32, (q < 0 ∨ ¬ q < nI (fl c v).1.length) → iIn q 0 (nI (fl c v).1.length - 1) = 0 := by
      intro q hq
      by_cases h0 : q < 0
      · exact iIn_neg (lo := 0) h0 (by omega)
      · obtain ⟨x, hxb, rfl⟩ := i32_nI h0
        have hq2 : ¬ x < (fl c v).1.length := by
          rcases hq with z | z
          · exact absurd z h0
          · rw [i32_lt hxb (by omega)] at z; exact z
        rw [hm1]
        by_cases z : (fl c v).1.length = 0
        · rw [if_pos z]
          unfold iIn
          rw [if_neg h0, if_pos (by rw [Int32.lt_iff_toInt_lt, nI_toInt hxb]; have : (-1 : Int32).toInt = -1 := by decide
                                    omega)]
        · rw [if_neg z]
          exact (iIn_nI (lo := 0) hxb (by omega) (by omega)).trans (by rw [if_neg (by omega), if_pos (by omega)])
    have go16X : ∀ k, Jd LX 300 y_GF_fault 16 [(0, sR 0 (.inl 5)), (1, sI a), (2, sI b)] [] σx (rI k) → CJ LX 300 y_GF_fault (sR 0 (.inl 5) :: [sI a, sI b]) σx (rI k) := by
      intro k g
      refine s_GF_fault_0 LX 299 0 _ _ σx (rI k) ⟨fun _ => g, fun n0 => ⟨fun _ => g, fun n1 => ?_⟩⟩
      rcases hb with z | z
      · exact absurd z n0
      · exact absurd z n1
    have noo : (a < 0 ∨ ¬ a < nI (fl c v).1.length) → OUT y_GF_fault y_MO_fault [sI a, sI b] σx σm := by
      intro hq
      refine ⟨-1, v, c, n, L, m, T, rfU rf 1, im, ok, fun k hk => ?_, fun k hk => ?_⟩
      · refine go16X k (s_GF_fault_16 LX 299 0 _ _ σx (rI k) (X_gather 299 (by omega) w wc hx _ (fun σ' g1 g2 g3 => ?_)))
        have go : Jd LX 300 y_GF_fault 37 [(0, sR 0 (.inl 5))] [] σ' (rI k) := s_GF_fault_37 LX 299 0 σ' (rI k) (X_refuse 298 g2 (-1) 1 rfl (by omega) _ hk)
        refine ⟨fun _ => go, fun y => ⟨fun u => ?_, fun _ => go⟩⟩
        rcases hq with z | z
        · exact absurd z y
        · exact absurd u z
      · refine s_MO_fault_0 LM 299 0 _ _ σm (rI k) ⟨fun _ => ?_, fun z => by rw [e1] at z; exact absurd z (by decide)⟩
        refine M_many 291 w wc hm _ (fun σ' g1 g2 g3 => ?_)
        rw [in0 a hq]
        exact ⟨fun z => absurd rfl z, fun _ => M_no 299 wc g2 (-1) 1 rfl (by omega) _ hk⟩
    by_cases h0 : a < 0
    · exact noo (Or.inl h0)
    · obtain ⟨i, hib, rfl⟩ := i32_nI h0
      by_cases hi : i < (fl c v).1.length
      · obtain ⟨x, hx1, hx2⟩ := at_some hi
        have hxb := hok x hx2
        have e2 : iIn (nI i) 0 (nI (fl c v).1.length - 1) = 1 := by
          rw [hm1, if_neg (by omega)]
          exact (iIn_nI (lo := 0) hib (by omega) (by omega)).trans (by rw [if_neg (by omega), if_neg (by omega)])
        refine ⟨if b = 0 then nI (x / 100) else nI (x % 100), v, c, n, L, m, T, rf, im, ok, fun k hk => ?_, fun k hk => ?_⟩
        · refine go16X k (s_GF_fault_16 LX 299 0 _ _ σx (rI k) (X_gather 299 (by omega) w wc hx _ (fun σ' g1 g2 g3 => ?_)))
          rw [i32_lt hib (by omega)]
          refine ⟨fun z => absurd z h0, fun _ => ⟨fun _ => ⟨fun nb => ?_, fun eb => ?_⟩, fun z => absurd hi z⟩⟩
          · rw [if_neg nb] at hk
            exact c_GA_codeAt 298 g1 (by omega) hok hx1 _ (hk _ g2)
          · rw [if_pos eb] at hk
            exact c_GA_pathAt 298 g1 (by omega) hok hx1 _ (hk _ g2)
        · refine s_MO_fault_0 LM 299 0 _ _ σm (rI k) ⟨fun _ => ?_, fun z => by rw [e1] at z; exact absurd z (by decide)⟩
          refine M_many 291 w wc hm _ (fun σ' g1 g2 g3 => ?_)
          rw [e2]
          refine ⟨fun _ => ⟨fun nb => ⟨vinI (by omega) (by omega), ?_⟩, fun eb => ⟨vinI (by omega) (by omega), ?_⟩⟩, fun z => absurd z (by decide)⟩
          · rw [if_neg nb] at hk
            rw [cl_nI hib, show σ' (0 + 21) i = _ from (g1.2.2 i x hx1).2]
            exact hk _ g2
          · rw [if_pos eb] at hk
            rw [cl_nI hib, show σ' (0 + 20) i = _ from (g1.2.2 i x hx1).1]
            exact hk _ g2
      · exact noo (Or.inr (by rw [i32_lt hib (by omega)]; exact hi))
  · have e0 : iIn b 0 1 = 0 := (iIn01 b).2 hb
    refine ⟨-2, v, c, n, L, m, T, rfU rf 2, im, ok, fun k hk => ?_, fun k hk => ?_⟩
    · exact s_GF_fault_0 LX 299 0 _ _ σx (rI k) ⟨fun z => absurd (Or.inl z) hb, fun _ => ⟨fun z => absurd (Or.inr z) hb, fun _ => X_refuse 298 hx (-2) 2 rfl (by omega) _ hk⟩⟩
    · exact s_MO_fault_0 LM 299 0 _ _ σm (rI k) ⟨fun z => absurd e0 z, fun _ => M_no 299 wc hm (-2) 2 rfl (by omega) _ hk⟩
theorem take_cnt {F : List Nat} {i x : Nat} (f : Nat → Bool) (h : F[i]? = some x) : (F.take (i + 1)).countP f = (F.take i).countP f + if f x then 1 else 0 := by
  rw [List.take_succ, h, List.countP_append]
  simp [List.countP_cons]
theorem st_coded (a : Int32) : stI RelS y_GF_coded y_MO_coded [sI a] := by
  refine stI_mk (fun σx σm v c n L m T rf im ok hx hm => ?_)
  have wc := ok.wc
  have w := ok.wv
  have hl := fl_len wc w
  have hok := fl_ok wc w
  have noo : (a < 1 ∨ 12 < a) → iIn a 1 12 = 0 → OUT y_GF_coded y_MO_coded [sI a] σx σm := by
    intro hq e
    refine ⟨-2, v, c, n, L, m, T, rfU rf 2, im, ok, fun k hk => ?_, fun k hk => ?_⟩
    · have go : Jd LX 300 y_GF_coded 11 [(0, sR 0 (.inl 5))] [] σx (rI k) := s_GF_coded_11 LX 299 0 σx (rI k) (X_refuse 298 hx (-2) 2 rfl (by omega) _ hk)
      refine s_GF_coded_0 LX 299 0 _ σx (rI k) ⟨fun _ => go, fun y => ⟨fun u => ?_, fun _ => go⟩⟩
      rcases hq with z | z
      · exact absurd z y
      · exact absurd z u
    · exact s_MO_coded_0 LM 299 0 _ σm (rI k) ⟨fun z => absurd e z, fun _ => M_no 299 wc hm (-2) 2 rfl (by omega) _ hk⟩
  by_cases h0 : a < 0
  · exact noo (Or.inl (neg_lt (n := 1) h0 (by omega))) (iIn_neg (lo := 1) h0 (by omega))
  · obtain ⟨x, hxb, rfl⟩ := i32_nI h0
    have e : iIn (nI x) 1 12 = if x < 1 then 0 else if 12 < x then 0 else 1 := iIn_nI (lo := 1) (hi := 12) hxb (by omega) (by omega)
    have c1 : nI x < 1 ↔ x < 1 := i32_lt (b := 1) hxb (by omega)
    have c12 : (12 : Int32) < nI x ↔ 12 < x := i32_lt (a := 12) (by omega) hxb
    by_cases hr : x < 1 ∨ 12 < x
    · refine noo ?_ ?_
      · rw [c1, c12]; exact hr
      · rw [e]
        by_cases z : x < 1
        · rw [if_pos z]
        · rw [if_neg z, if_pos (by omega)]
    · rw [if_neg (by omega), if_neg (by omega)] at e
      obtain ⟨f, ef⟩ : ∃ f : Nat → Bool, f = fun y => decide (y % 100 = x) := ⟨_, rfl⟩
      obtain ⟨F, eF⟩ : ∃ F, (fl c v).1 = F := ⟨_, rfl⟩
      rw [eF] at hl hok
      refine ⟨nI (F.countP f), v, c, n, L, m, T, rf, im, ok, fun k hk => ?_, fun k hk => ?_⟩
      · refine s_GF_coded_0 LX 299 0 _ σx (rI k) ⟨fun z => ?_, fun _ => ⟨fun _ => ?_, fun z => ?_⟩⟩
        · rw [c1] at z; omega
        · refine X_gather 299 (by omega) w wc hx _ (fun σ' g1 g2 g3 => ?_)
          rw [eF] at g1
          refine s_GA_countCode_0 LX 298 15 _ σ' (rI _) ?_
          have key : ∀ r i, i + r = F.length → Jd LX 299 y_GA_countCode 4 [(0, sR 15 (.inl 1)), (1, sI (nI x)), (2, sI (nI ((F.take i).countP f))), (3, sI (nI i))] [] σ' (rI fun r2 σ2 => (rI k) (some (sI r2)) σ2) := by
            intro r
            induction r with
            | zero =>
              intro i hi
              refine s_GA_countCode_4 LX 298 15 _ _ _ σ' (rI _) ⟨fun _ => ?_, fun z => ?_⟩
              · rw [List.take_of_length_le (by omega)]
                exact hk _ g2
              · rw [g1.1, i32_lt (by omega) (by omega)] at z; omega
            | succ r ih =>
              intro i hi
              obtain ⟨y, y1, y2⟩ := at_some (show i < F.length by omega)
              have hyb := hok y y2
              have et := take_cnt f y1
              have hcl : (F.take i).countP f ≤ F.length := Nat.le_trans List.countP_le_length (by rw [List.length_take]; omega)
              refine s_GA_countCode_4 LX 298 15 _ _ _ σ' (rI _) ⟨fun z => ?_, fun _ => ?_⟩
              · rw [g1.1, i32_lt (by omega) (by omega)] at z; omega
              · refine c_GA_codeAt 297 g1 (by omega) hok y1 _ ?_
                rw [i32_eq (by omega) hxb]
                have nx := ih (i + 1) (by omega)
                rw [et] at nx
                refine ⟨fun z => ?_, fun z => ?_⟩
                · refine s_GA_countCode_24 LX 298 15 _ _ _ σ' (rI _) ?_
                  rw [show f y = false by rw [ef]; exact decide_eq_false z] at nx
                  rw [nI_s1]
                  exact nx
                · refine s_GA_countCode_24 LX 298 15 _ _ _ σ' (rI _) ?_
                  rw [show f y = true by rw [ef]; exact decide_eq_true z] at nx
                  rw [nI_s1, nI_s1]
                  exact nx
          exact key F.length 0 (by omega)
        · rw [c12] at z; omega
      · refine s_MO_coded_0 LM 299 0 _ σm (rI k) ⟨fun _ => ?_, fun z => by rw [e] at z; exact absurd z (by decide)⟩
        refine M_many 291 w wc hm _ (fun σ' g1 g2 g3 => ?_)
        rw [eF] at g1 ⊢
        have key : ∀ i, i ≤ F.length → Jd LM 300 y_MO_coded 26 [(0, sR 0 (.inl 6)), (1, sI (nI x)), (2, sI (nI (F.countP f - (F.take i).countP f))), (3, sI (nI i - 1))] [] σ' (rI k) := by
          intro i
          induction i with
          | zero =>
            intro hi
            refine s_MO_coded_26 LM 299 0 _ _ _ σ' (rI k) ⟨fun _ => ?_, fun z => absurd (by decide) z⟩
            exact hk _ g2
          | succ i ih =>
            intro hi
            have e1 : nI (i + 1) - 1 = nI i := nI_subm (a := i + 1) (b := 1) (by omega)
            obtain ⟨y, y1, y2⟩ := at_some (show i < F.length by omega)
            have hyb := hok y y2
            have et := take_cnt f y1
            have hle : (F.take (i + 1)).countP f ≤ F.countP f := (List.take_sublist _ _).countP_le
            have nx := ih (by omega)
            have em : nI i + -1 = nI i - 1 := by rw [Int32.sub_eq_add_neg]
            refine s_MO_coded_26 LM 299 0 _ _ _ σ' (rI k) ⟨fun z => ?_, fun _ => ⟨?_, ?_⟩⟩
            · rw [e1] at z; exact absurd z (nI_pos (by omega))
            · rw [e1]; exact vinI (by omega) (by omega)
            · rw [e1, cl_nI (by omega), show σ' (0 + 21) i = _ from (g1.2.2 i y y1).2, i32_eq (by omega) hxb]
              refine ⟨fun z => ?_, fun z => ?_⟩
              · refine s_MO_coded_46 LM 299 0 _ _ _ _ σ' (rI k) ?_
                have ef0 : f y = false := by rw [ef]; exact decide_eq_false z
                rw [ef0] at et
                rw [show nI (F.countP f - (F.take (i + 1)).countP f) + 0 = nI (F.countP f - (F.take i).countP f) by rw [et]; exact nI_add _ 0, em]
                exact nx
              · refine s_MO_coded_46 LM 299 0 _ _ _ _ σ' (rI k) ?_
                have ef1 : f y = true := by rw [ef]; exact decide_eq_true z
                rw [ef1, if_pos rfl] at et
                rw [nI_s1, show F.countP f - (F.take (i + 1)).countP f + 1 = F.countP f - (F.take i).countP f by omega, em]
                exact nx
        have := key F.length (Nat.le_refl _)
        rw [List.take_of_length_le (Nat.le_refl _), Nat.sub_self] at this
        exact this
theorem st_below (a : Int32) : stI RelS y_GF_below y_MO_below [sI a] := by
  refine stI_mk (fun σx σm v c n L m T rf im ok hx hm => ?_)
  have wc := ok.wc
  have w := ok.wv
  have hl := fl_len wc w
  have hok := fl_ok wc w
  by_cases h0 : a < 0
  · have e : iBd a 0 99999 = -4 := iBd_neg (lo := 0) h0 (by omega)
    refine ⟨-4, v, c, n, L, m, T, rfU rf 4, im, ok, fun k hk => ?_, fun k hk => ?_⟩
    · exact s_GF_below_0 LX 299 0 _ σx (rI k) ⟨fun z => absurd h0 z, fun _ => X_refuse 298 hx (-4) 4 rfl (by omega) _ hk⟩
    · refine s_MO_below_0 LM 299 0 _ σm (rI k) ?_
      rw [e]
      exact ⟨fun z => absurd z (by decide), fun _ => M_no 299 wc hm (-4) 4 rfl (by omega) _ hk⟩
  · obtain ⟨x, hxb, rfl⟩ := i32_nI h0
    have e : iBd (nI x) 0 99999 = if 99999 < x then -6 else 0 := (iBd_nI (lo := 0) (hi := 99999) hxb (by omega) (by omega)).trans (by rw [if_neg (by omega)])
    have c9 : (99999 : Int32) < nI x ↔ 99999 < x := i32_lt (a := 99999) (by omega) hxb
    by_cases h9 : 99999 < x
    · rw [if_pos h9] at e
      refine ⟨-6, v, c, n, L, m, T, rfU rf 6, im, ok, fun k hk => ?_, fun k hk => ?_⟩
      · exact s_GF_below_0 LX 299 0 _ σx (rI k) ⟨fun _ => ⟨fun z => absurd (c9.mpr h9) z, fun _ => X_refuse 298 hx (-6) 6 rfl (by omega) _ hk⟩, fun z => absurd z h0⟩
      · refine s_MO_below_0 LM 299 0 _ σm (rI k) ?_
        rw [e]
        exact ⟨fun z => absurd z (by decide), fun _ => M_no 299 wc hm (-6) 6 rfl (by omega) _ hk⟩
    · rw [if_neg h9] at e
      obtain ⟨f, ef⟩ : ∃ f : Nat → Bool, f = fun y => blw 6 (y / 100) x := ⟨_, rfl⟩
      obtain ⟨F, eF⟩ : ∃ F, (fl c v).1 = F := ⟨_, rfl⟩
      rw [eF] at hl hok
      have ecB : cB F x = F.countP f := by rw [ef]; rfl
      refine ⟨nI (F.countP f), v, c, n, L, m, T, rf, im, ok, fun k hk => ?_, fun k hk => ?_⟩
      · refine s_GF_below_0 LX 299 0 _ σx (rI k) ⟨fun _ => ⟨fun _ => ?_, fun z => absurd (c9.mp z) h9⟩, fun z => absurd z h0⟩
        refine X_gather 299 (by omega) w wc hx _ (fun σ' g1 g2 g3 => ?_)
        rw [eF] at g1
        refine c_GA_countBelow LX 298 (A := []) (M := F) (w := (fl c v).2) g1 (by rw [List.nil_append]; omega) hok x hxb _ ?_
        rw [ecB]
        exact hk _ g2
      · refine s_MO_below_0 LM 299 0 _ σm (rI k) ?_
        rw [e]
        refine ⟨fun _ => ?_, fun z => absurd rfl z⟩
        refine M_many 291 w wc hm _ (fun σ' g1 g2 g3 => ?_)
        rw [eF] at g1 ⊢
        have key : ∀ i, i ≤ F.length → Jd LM 300 y_MO_below 29 [(0, sR 0 (.inl 6)), (1, sI (nI x)), (3, sI (nI (F.countP f - (F.take i).countP f))), (4, sI (nI i - 1))] [] σ' (rI k) := by
          intro i
          induction i with
          | zero =>
            intro hi
            refine s_MO_below_29 LM 299 0 _ _ _ σ' (rI k) ⟨fun _ => ?_, fun z => absurd (by decide) z⟩
            exact hk _ g2
          | succ i ih =>
            intro hi
            have e1 : nI (i + 1) - 1 = nI i := nI_subm (a := i + 1) (b := 1) (by omega)
            obtain ⟨y, y1, y2⟩ := at_some (show i < F.length by omega)
            have hyb := hok y y2
            have et := take_cnt f y1
            have hle : (F.take (i + 1)).countP f ≤ F.countP f := (List.take_sublist _ _).countP_le
            have nx := ih (by omega)
            have em : nI i + -1 = nI i - 1 := by rw [Int32.sub_eq_add_neg]
            refine s_MO_below_29 LM 299 0 _ _ _ σ' (rI k) ⟨fun z => ?_, fun _ => ⟨?_, ?_⟩⟩
            · rw [e1] at z; exact absurd z (nI_pos (by omega))
            · rw [e1]; exact vinI (by omega) (by omega)
            · rw [e1, cl_nI (by omega), show σ' (0 + 20) i = _ from (g1.2.2 i y y1).1]
              refine c_MO_isBelow LM 299 x hxb σ' _ 6 _ (by omega) ?_ ?_
              · have : y / 100 / 10 ^ 6 = 0 := by omega
                omega
              · have ey : blw 6 (y / 100) x = f y := by rw [ef]
                rw [ey]
                cases hf : f y with
                | false =>
                  rw [hf] at et
                  refine ⟨fun _ => ?_, fun z => absurd rfl z⟩
                  refine s_MO_below_54 LM 299 0 _ _ _ _ σ' (rI k) ?_
                  rw [show nI (F.countP f - (F.take (i + 1)).countP f) + 0 = nI (F.countP f - (F.take i).countP f) by rw [et]; exact nI_add _ 0, em]
                  exact nx
                | true =>
                  rw [hf, if_pos rfl] at et
                  refine ⟨fun z => absurd z (by decide), fun _ => ?_⟩
                  refine s_MO_below_54 LM 299 0 _ _ _ _ σ' (rI k) ?_
                  rw [nI_s1, show F.countP f - (F.take (i + 1)).countP f + 1 = F.countP f - (F.take i).countP f by omega, em]
                  exact nx
        have := key F.length (Nat.le_refl _)
        rw [List.take_of_length_le (Nat.le_refl _), Nat.sub_self] at this
        exact this
