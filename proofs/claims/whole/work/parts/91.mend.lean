/-! mend, range, which, judge, count -/
noncomputable def wN (v : VT) (c : CT) (p n : Nat) : Nat := (fl c (fillV v p 0 n)).1.length
noncomputable def mdI (v : VT) (c : CT) (p : Nat) : Nat → Nat × Int32 → Nat × Int32
  | 0, s => s
  | n + 1, s => if wN v c p n < (mdI v c p n s).1 then (wN v c p n, nI (100 * v.2 5 p + n)) else mdI v c p n s
noncomputable def mdO (v : VT) (c : CT) : Nat → Nat × Int32
  | 0 => ((fl c v).1.length, -9)
  | p + 1 => mdI v c p 21 (mdO v c p)
def okS (s : Nat × Int32) : Prop := s.1 ≤ 120 ∧ (s.2 = -9 ∨ ∃ j, j < 2 ^ 31 ∧ s.2 = nI j)
theorem wN_le {v : VT} {c : CT} (w : WFV v) (wc : WFC c) {p n : Nat} (hp : p < v.1) (hn : n ≤ 99) : wN v c p n ≤ 120 := fl_len wc (w.fill hp (by omega) (fun _ => hn) (fun z => absurd rfl z))
theorem mdI_ok {v : VT} {c : CT} (w : WFV v) (wc : WFC c) {p : Nat} (hp : p < v.1) {s : Nat × Int32} (hs : okS s) : ∀ n, n ≤ 21 → okS (mdI v c p n s)
  | 0, _ => hs
  | n + 1, h => by
    have ih := mdI_ok w wc hp hs n (by omega)
    have hr := w.road4 hp
    have hw := wN_le w wc hp (show n ≤ 99 by omega)
    show okS (if wN v c p n < (mdI v c p n s).1 then (wN v c p n, nI (100 * v.2 5 p + n)) else mdI v c p n s)
    split
    · exact ⟨hw, Or.inr ⟨100 * v.2 5 p + n, by omega, rfl⟩⟩
    · exact ih
theorem mdO_ok {v : VT} {c : CT} (w : WFV v) (wc : WFC c) : ∀ p, p ≤ v.1 → okS (mdO v c p)
  | 0, _ => ⟨fl_len wc w, Or.inl rfl⟩
  | p + 1, h => mdI_ok w wc (by omega) (mdO_ok w wc p (by omega)) 21 (Nat.le_refl _)
theorem neg9 {j : Nat} (hj : j < 2 ^ 31) : nI j ≠ -9 := fun e => by
  have : nI j < 0 := by rw [e]; decide
  exact absurd this (nI_pos hj)
theorem st_mend (a : Int32) : stI RelS y_GF_mend y_MO_mend [sI a] := by
  refine stI_mk (fun σx σm v c n L m T rf im ok hx hm => ?_)
  have wc := ok.wc
  have w := ok.wv
  have h20 := w.2.1
  by_cases hb : a = 0 ∨ a = 1
  · have e1 : iIn a 0 1 = 1 := (iIn01 a).1 hb
    obtain ⟨f1, f2⟩ := mdO_ok w wc v.1 (Nat.le_refl _)
    refine ⟨if a = 0 then (mdO v c v.1).2 else if (mdO v c v.1).2 = -9 then -9 else nI (mdO v c v.1).1, v, c, n, L, m, T, rf, im, ok, fun k hk => ?_, fun k hk => ?_⟩
    · -- the class
      have outer : ∀ r p σ, p + r = v.1 → AX σ v c n L m T rf im → Jd LX 300 y_GF_mend 34 [(0, sR 0 (.inl 5)), (1, sI a), (2, sI (nI (mdO v c p).1)), (3, sI (mdO v c p).2), (4, sI (nI p))] [] σ (rI k) := by
        intro r
        induction r with
        | zero =>
          intro p σ hp hxx
          have ei : p = v.1 := by omega
          subst ei
          refine s_GF_mend_34 LX 299 0 _ _ _ _ σ (rI k) ⟨fun _ => ⟨fun z => ?_, fun z => ⟨fun y => ?_, fun y => ?_⟩⟩, fun z => ?_⟩
          · rw [if_pos z] at hk; exact hk _ hxx
          · rw [if_neg z, if_neg y] at hk; exact hk _ hxx
          · rw [if_neg z, if_pos y] at hk; rw [y]; exact hk _ hxx
          · rw [show σ (0 + 1) 6 = nI v.1 from hxx.1.1, i32_lt (by omega) (by omega)] at z; omega
        | succ r ih =>
          intro p σ hpr hxx
          have hp : p < v.1 := by omega
          have os := mdO_ok w wc p (by omega)
          have hr := w.road4 hp
          refine s_GF_mend_34 LX 299 0 _ _ _ _ σ (rI k) ⟨fun z => ?_, fun _ => ?_⟩
          · rw [show σ (0 + 1) 6 = nI v.1 from hxx.1.1, i32_lt (by omega) (by omega)] at z; omega
          · refine X_take 297 w hxx _ (fun σ1 a1 a2 _ => ?_)
            have inner : ∀ q x τ, x + q = 21 → AX τ v c n L m T rf im → TRV τ v p → Jd LX 300 y_GF_mend 60 [(0, sR 0 (.inl 5)), (1, sI a), (2, sI (nI (mdI v c p x (mdO v c p)).1)), (3, sI (mdI v c p x (mdO v c p)).2), (4, sI (nI p)), (5, sI (nI x))] [] τ (rI k) := by
              intro q
              induction q with
              | zero =>
                intro x τ hxq hxx2 htv
                have ex : x = 21 := by omega
                subst ex
                refine s_GF_mend_60 LX 299 0 _ _ _ _ _ τ (rI k) ⟨fun _ => ?_, fun z => absurd (by decide) z⟩
                rw [nI_s1]
                exact ih (p + 1) τ (by omega) hxx2
              | succ q ihq =>
                intro x τ hxq hxx2 htv
                have o2 := mdI_ok w wc hp os x (by omega)
                have hw := wN_le w wc hp (show x ≤ 99 by omega)
                refine s_GF_mend_60 LX 299 0 _ _ _ _ _ τ (rI k) ⟨fun z => ?_, fun _ => ?_⟩
                · rw [lit 20, i32_lt (by omega) (by omega)] at z; omega
                · refine X_with 299 (by omega) w wc hxx2 hp htv (by omega) _ (fun τ2 g1 g2 g3 => ?_)
                  have nx := ihq (x + 1) τ2 (by omega) g2 g3
                  have e : mdI v c p (x + 1) (mdO v c p) = if wN v c p x < (mdI v c p x (mdO v c p)).1 then (wN v c p x, nI (100 * v.2 5 p + x)) else mdI v c p x (mdO v c p) := rfl
                  rw [show (fl c (fillV v p 0 x)).1.length = wN v c p x from rfl, i32_lt (by omega) (by have := o2.1; omega)]
                  refine ⟨fun z => ?_, fun z => ?_⟩
                  · refine s_GF_mend_120 LX 299 0 _ _ _ _ _ τ2 (rI k) ?_
                    rw [e, if_neg z] at nx
                    rw [nI_s1]; exact nx
                  · refine s_GF_mend_120 LX 299 0 _ _ _ _ _ τ2 (rI k) ?_
                    rw [e, if_pos z] at nx
                    rw [nI_s1, g2.1.rd h20 (f := 5) (by omega) hp (a := 0 + 7) rfl, lit 100, pk_mul, nI_add]
                    exact nx
            exact inner 21 0 σ1 (by omega) a2 ⟨v, a1, w, hp, fun _ => rfl⟩
      have go16 : Jd LX 300 y_GF_mend 16 [(0, sR 0 (.inl 5)), (1, sI a)] [] σx (rI k) := s_GF_mend_16 LX 299 0 _ σx (rI k) (X_gather 299 (by omega) w wc hx _ (fun σ' g1 g2 g3 => outer v.1 0 σ' (by omega) g2))
      refine s_GF_mend_0 LX 299 0 _ σx (rI k) ⟨fun _ => go16, fun n0 => ⟨fun _ => go16, fun n1 => ?_⟩⟩
      rcases hb with z | z
      · exact absurd z n0
      · exact absurd z n1
    · -- the reference
      have outer : ∀ r p σ, p + r = v.1 → AM σ v c n L m T rf im → Jd LM 300 y_MO_mend 27 [(0, sR 0 (.inl 6)), (1, sI a), (2, sI (mdO v c p).2), (3, sI (nI (mdO v c p).1)), (4, sI (nI p))] [] σ (rI k) := by
        intro r
        induction r with
        | zero =>
          intro p σ hp hmm
          have ei : p = v.1 := by omega
          subst ei
          refine s_MO_mend_27 LM 299 0 _ _ _ _ σ (rI k) ⟨fun _ => ⟨fun y => ⟨fun z => ?_, fun z => ?_⟩, fun y => ?_⟩, fun z => ?_⟩
          · rw [if_neg z, if_neg (fun u => by rw [u] at y; exact absurd (by decide) y)] at hk; exact hk _ hmm
          · rw [if_pos z] at hk; exact hk _ hmm
          · have e9 : (mdO v c v.1).2 = -9 := by
              rcases f2 with u | ⟨j, j1, j2⟩
              · exact u
              · rw [j2] at y; exact absurd y (nI_pos j1)
            rw [e9, if_pos rfl] at hk
            have : (if a = 0 then (-9 : Int32) else -9) = -9 := by split <;> rfl
            rw [this] at hk
            exact hk _ hmm
          · rw [show σ 0 6 = nI v.1 from hmm.1.1, i32_lt (by omega) (by omega)] at z; omega
        | succ r ih =>
          intro p σ hpr hmm
          have hp : p < v.1 := by omega
          have os := mdO_ok w wc p (by omega)
          have hr := w.road4 hp
          refine s_MO_mend_27 LM 299 0 _ _ _ _ σ (rI k) ⟨fun z => ?_, fun _ => ?_⟩
          · rw [show σ 0 6 = nI v.1 from hmm.1.1, i32_lt (by omega) (by omega)] at z; omega
          · have inner : ∀ q x τ, x + q = 21 → AM τ v c n L m T rf im → Jd LM 300 y_MO_mend 39 [(0, sR 0 (.inl 6)), (1, sI a), (2, sI (mdI v c p x (mdO v c p)).2), (3, sI (nI (mdI v c p x (mdO v c p)).1)), (4, sI (nI p)), (5, sI (nI x))] [] τ (rI k) := by
              intro q
              induction q with
              | zero =>
                intro x τ hxq hmm2
                have ex : x = 21 := by omega
                subst ex
                refine s_MO_mend_39 LM 299 0 _ _ _ _ _ τ (rI k) ⟨fun _ => ?_, fun z => absurd (by decide) z⟩
                rw [nI_s1]
                exact ih (p + 1) τ (by omega) hmm2
              | succ q ihq =>
                intro x τ hxq hmm2
                have o2 := mdI_ok w wc hp os x (by omega)
                have hw := wN_le w wc hp (show x ≤ 99 by omega)
                refine s_MO_mend_39 LM 299 0 _ _ _ _ _ τ (rI k) ⟨fun z => ?_, fun _ => ?_⟩
                · rw [lit 20, i32_lt (by omega) (by omega)] at z; omega
                · refine M_with 290 w wc hmm2 hp (show x ≤ 99 by omega) _ (fun τ2 g1 g2 => ?_)
                  have nx := ihq (x + 1) τ2 (by omega) g2
                  have e : mdI v c p (x + 1) (mdO v c p) = if wN v c p x < (mdI v c p x (mdO v c p)).1 then (wN v c p x, nI (100 * v.2 5 p + x)) else mdI v c p x (mdO v c p) := rfl
                  rw [show (fl c (fillV v p 0 x)).1.length = wN v c p x from rfl, i32_lt (by omega) (by have := o2.1; omega)]
                  refine ⟨fun z => ⟨vinI (by omega) (by omega), ?_⟩, fun z => ?_⟩
                  · refine s_MO_mend_82 LM 299 0 _ _ _ _ _ τ2 (rI k) ?_
                    rw [e, if_pos z] at nx
                    rw [nI_s1, cl_nI (by omega), show τ2 (0 + 6) p = _ from (g2.1.2.1 p hp).2.2.2, lit 100, pk_mul, nI_add]
                    exact nx
                  · refine s_MO_mend_82 LM 299 0 _ _ _ _ _ τ2 (rI k) ?_
                    rw [e, if_neg z] at nx
                    rw [nI_s1]; exact nx
            exact inner 21 0 σ (by omega) hmm
      refine s_MO_mend_0 LM 299 0 _ σm (rI k) ⟨fun _ => ?_, fun z => by rw [e1] at z; exact absurd z (by decide)⟩
      exact M_many 291 w wc hm _ (fun σ' g1 g2 g3 => outer v.1 0 σ' (by omega) g2)
  · have e0 : iIn a 0 1 = 0 := (iIn01 a).2 hb
    refine ⟨-2, v, c, n, L, m, T, rfU rf 2, im, ok, fun k hk => ?_, fun k hk => ?_⟩
    · exact s_GF_mend_0 LX 299 0 _ σx (rI k) ⟨fun z => absurd (Or.inl z) hb, fun _ => ⟨fun z => absurd (Or.inr z) hb, fun _ => X_refuse 298 hx (-2) 2 rfl (by omega) _ hk⟩⟩
    · exact s_MO_mend_0 LM 299 0 _ σm (rI k) ⟨fun z => absurd e0 z, fun _ => M_no 299 wc hm (-2) 2 rfl (by omega) _ hk⟩
/-! range -/
def gdN (v : VT) (c : CT) (p b n : Nat) : Prop := anyB (fl c (fillV v p 0 n)).1 b = false
noncomputable def loR (G : Nat → Bool) : Nat → Int32
  | 0 => -9
  | i + 1 => if G i then (if loR G i < 0 then nI i else loR G i) else loR G i
noncomputable def hiR (G : Nat → Bool) : Nat → Int32
  | 0 => -9
  | i + 1 => if G i then nI i else hiR G i
theorem loR_no {G : Nat → Bool} : ∀ i, (∀ j, j < i → G j = false) → loR G i = -9
  | 0, _ => rfl
  | i + 1, h => by
    show (if G i then _ else loR G i) = -9
    rw [h i (by omega)]
    exact loR_no i (fun j hj => h j (by omega))
theorem loR_at {G : Nat → Bool} {i : Nat} (hi : i < 2 ^ 31) (h : ∀ j, j < i → G j = false) (hg : G i = true) : ∀ r, loR G (i + 1 + r) = nI i
  | 0 => by
    show (if G i then (if loR G i < 0 then nI i else loR G i) else loR G i) = nI i
    rw [hg, if_pos rfl, loR_no i h, if_pos (by decide)]
  | r + 1 => by
    have ih := loR_at hi h hg r
    show (if G (i + 1 + r) then (if loR G (i + 1 + r) < 0 then nI (i + 1 + r) else loR G (i + 1 + r)) else loR G (i + 1 + r)) = nI i
    rw [ih, if_neg (nI_pos hi)]
    split <;> rfl
theorem loR_rng {G : Nat → Bool} : ∀ i, i < 2 ^ 31 → loR G i = -9 ∨ ∃ j, j < 2 ^ 31 ∧ loR G i = nI j
  | 0, _ => Or.inl rfl
  | i + 1, h => by
    have ih := loR_rng (G := G) i (by omega)
    show (if G i then (if loR G i < 0 then nI i else loR G i) else loR G i) = -9 ∨ ∃ j, j < 2 ^ 31 ∧ (if G i then (if loR G i < 0 then nI i else loR G i) else loR G i) = nI j
    split
    · split
      · exact Or.inr ⟨i, by omega, rfl⟩
      · exact ih
    · exact ih
theorem findV_is {v : VT} {a : Int32} (h : findV v a < v.1) : a = nI (v.2 5 (findV v a)) := by
  have := fst_at (fun p => decide (nI (v.2 5 p) = a)) v.1 0 (by rw [Nat.zero_add]; exact h)
  exact (of_decide_eq_true this).symm
theorem st_range (a b : Int32) : stI RelS y_GF_range y_MO_range [sI a, sI b] := by
  refine stI_mk (fun σx σm v c n L m T rf im ok hx hm => ?_)
  have wc := ok.wc
  have w := ok.wv
  have h20 := w.2.1
  by_cases hp0 : findV v a < v.1
  · obtain ⟨p, ep⟩ : ∃ p, findV v a = p := ⟨_, rfl⟩
    have hp := hp0
    have ea := findV_is hp0
    rw [ep] at hp ea
    have hnp : ¬ nI p < 0 := nI_pos (by omega)
    have hr := w.road4 hp
    by_cases hb : b = 0 ∨ b = 1
    · have e1 : iIn b 0 1 = 1 := (iIn01 b).1 hb
      obtain ⟨G, eG⟩ : ∃ G : Nat → Bool, G = fun i => !anyB (fl c (fillV v p 0 i)).1 (v.2 5 p) := ⟨_, rfl⟩
      have w2 : ∀ x, x ≤ 99 → WFV (fillV v p 0 x) := fun x h9 => w.fill hp (by omega) (fun _ => h9) (fun z => absurd rfl z)
      refine ⟨if b = 0 then loR G 100 else hiR G 100, v, c, n, L, m, T, rf, im, ok, fun k hk => ?_, fun k hk => ?_⟩
      · -- one number
        have one : ∀ q x τ, AX τ v c n L m T rf im → TRV τ v p → x ≤ 99 → (∀ τ', AX τ' v c n L m T rf im → TRV τ' v p → G x = false → Jd LX 300 y_GF_range 49 [(0, sR 0 (.inl 5)), (1, sI a), (2, sI b), (3, sI (nI p)), (4, sI (nI (q + 1)))] [] τ' (rI k)) → (∀ τ', AX τ' v c n L m T rf im → G x = true → k (nI x) τ') → Jd LX 300 y_GF_range 70 [(0, sR 0 (.inl 5)), (1, sI a), (2, sI b), (3, sI (nI p)), (4, sI (nI q))] [sI (nI x)] τ (rI k) := by
          intro q x τ hxx htv h9 g0 g1
          refine s_GF_range_70 LX 299 0 _ _ _ _ _ τ (rI k) ?_
          refine X_with 299 (by omega) w wc hxx hp htv h9 _ (fun τ2 d1 d2 d3 => ?_)
          have hl := fl_len wc (w2 x h9)
          rw [ea]
          refine c_GA_countBelow LX 298 (A := []) (M := (fl c (fillV v p 0 x)).1) (w := (fl c (fillV v p 0 x)).2) d1 (by rw [List.nil_append]; omega) (fl_ok wc (w2 x h9)) (v.2 5 p) (by omega) _ ?_
          have hcl := cB_le (fl c (fillV v p 0 x)).1 (v.2 5 p)
          have hany := cB_any (fl c (fillV v p 0 x)).1 (v.2 5 p)
          rw [z_eq (by omega) 0 (by omega), ← ea]
          refine ⟨fun z => ?_, fun z => ?_⟩
          · rw [nI_s1]
            refine g0 τ2 d2 d3 ?_
            rw [eG]
            show (!anyB (fl c (fillV v p 0 x)).1 (v.2 5 p)) = false
            rw [hany.mp (by omega)]; rfl
          · refine g1 τ2 d2 ?_
            rw [eG]
            show (!anyB (fl c (fillV v p 0 x)).1 (v.2 5 p)) = true
            cases hh : anyB (fl c (fillV v p 0 x)).1 (v.2 5 p) with
            | false => rfl
            | true => have := hany.mpr hh; omega
        have go35 : Jd LX 300 y_GF_range 35 [(0, sR 0 (.inl 5)), (1, sI a), (2, sI b), (3, sI (nI p))] [] σx (rI k) := by
          refine s_GF_range_35 LX 299 0 _ _ _ σx (rI k) (X_take 297 w hx _ (fun σ1 a1 a2 _ => ?_))
          by_cases b0 : b = 0
          · rw [if_pos b0] at hk
            have key : ∀ r i τ, i + r = 100 → AX τ v c n L m T rf im → TRV τ v p → (∀ j, j < i → G j = false) → Jd LX 300 y_GF_range 49 [(0, sR 0 (.inl 5)), (1, sI a), (2, sI b), (3, sI (nI p)), (4, sI (nI i))] [] τ (rI k) := by
              intro r
              induction r with
              | zero =>
                intro i τ hi hxx htv hno
                have : i = 100 := by omega
                subst this
                refine s_GF_range_49 LX 299 0 _ _ _ _ τ (rI k) ⟨fun _ => ?_, fun z => absurd (by decide) z⟩
                rw [loR_no 100 hno] at hk
                exact hk _ hxx
              | succ r ih =>
                intro i τ hi hxx htv hno
                refine s_GF_range_49 LX 299 0 _ _ _ _ τ (rI k) ⟨fun z => ?_, fun _ => ⟨fun z => absurd b0 z, fun _ => ?_⟩⟩
                · rw [lit 99, i32_lt (by omega) (by omega)] at z; omega
                · refine one i i τ hxx htv (by omega) (fun τ' g1 g2 g3 => ih (i + 1) τ' (by omega) g1 g2 (fun j hj => ?_)) (fun τ' g1 g3 => ?_)
                  · by_cases ej : j = i
                    · rw [ej]; exact g3
                    · exact hno j (by omega)
                  · have := loR_at (G := G) (by omega) hno g3 r
                    rw [show i + 1 + r = 100 by omega] at this
                    rw [this] at hk
                    exact hk _ g1
            exact key 100 0 σ1 (by omega) a2 ⟨v, a1, w, hp, fun _ => rfl⟩ (fun j hj => absurd hj (Nat.not_lt_zero _))
          · rw [if_neg b0] at hk
            have key : ∀ r i τ, i + r = 100 → AX τ v c n L m T rf im → TRV τ v p → hiR G 100 = hiR G r → Jd LX 300 y_GF_range 49 [(0, sR 0 (.inl 5)), (1, sI a), (2, sI b), (3, sI (nI p)), (4, sI (nI i))] [] τ (rI k) := by
              intro r
              induction r with
              | zero =>
                intro i τ hi hxx htv hno
                have : i = 100 := by omega
                subst this
                refine s_GF_range_49 LX 299 0 _ _ _ _ τ (rI k) ⟨fun _ => ?_, fun z => absurd (by decide) z⟩
                rw [hno] at hk
                exact hk _ hxx
              | succ r ih =>
                intro i τ hi hxx htv hno
                have e9 : (99 : Int32) - nI i = nI r := by
                  rw [lit 99, nI_subm (by omega)]
                  congr 1
                  omega
                refine s_GF_range_49 LX 299 0 _ _ _ _ τ (rI k) ⟨fun z => ?_, fun _ => ⟨fun _ => ?_, fun z => absurd z b0⟩⟩
                · rw [lit 99, i32_lt (by omega) (by omega)] at z; omega
                · rw [e9]
                  have eh : hiR G (r + 1) = if G r then nI r else hiR G r := rfl
                  refine one i r τ hxx htv (by omega) (fun τ' g1 g2 g3 => ih (i + 1) τ' (by omega) g1 g2 ?_) (fun τ' g1 g3 => ?_)
                  · rw [hno, eh, g3]; rfl
                  · rw [hno, eh, g3, if_pos rfl] at hk
                    exact hk _ g1
            exact key 100 0 σ1 (by omega) a2 ⟨v, a1, w, hp, fun _ => rfl⟩ rfl
        refine s_GF_range_0 LX 299 0 _ _ σx (rI k) (X_find 298 w hx a _ (fun _ => ?_) (fun z => absurd hp0 z))
        rw [ep]
        refine ⟨fun _ => ⟨fun _ => go35, fun n0 => ⟨fun _ => go35, fun n1 => ?_⟩⟩, fun z => absurd z hnp⟩
        rcases hb with z | z
        · exact absurd z n0
        · exact absurd z n1
      · refine s_MO_range_0 LM 299 0 _ _ σm (rI k) (M_find 299 w hm a _ (fun _ => ?_) (fun z => absurd hp0 z))
        rw [ep, e1]
        refine ⟨fun _ => ⟨fun _ => s_MO_range_29 LM 299 0 _ _ _ _ σm (rI k) ⟨fun _ => ?_, fun z => absurd rfl z⟩, fun z => absurd z (by decide)⟩, fun z => absurd z hnp⟩
        have key : ∀ r i τ, i + r = 100 → AM τ v c n L m T rf im → Jd LM 300 y_MO_range 54 [(0, sR 0 (.inl 6)), (1, sI a), (2, sI b), (3, sI (nI p)), (5, sI (loR G i)), (6, sI (hiR G i)), (7, sI (nI i))] [] τ (rI k) := by
          intro r
          induction r with
          | zero =>
            intro i τ hi hmm
            have : i = 100 := by omega
            subst this
            refine s_MO_range_54 LM 299 0 _ _ _ _ _ _ τ (rI k) ⟨fun _ => ⟨fun z => ?_, fun z => ?_⟩, fun z => absurd (by decide) z⟩
            · rw [if_neg z] at hk; exact hk _ hmm
            · rw [if_pos z] at hk; exact hk _ hmm
          | succ r ih =>
            intro i τ hi hmm
            have el : loR G (i + 1) = if G i then (if loR G i < 0 then nI i else loR G i) else loR G i := rfl
            have eh : hiR G (i + 1) = if G i then nI i else hiR G i := rfl
            refine s_MO_range_54 LM 299 0 _ _ _ _ _ _ τ (rI k) ⟨fun z => ?_, fun _ => ?_⟩
            · rw [lit 99, i32_lt (by omega) (by omega)] at z; omega
            · refine M_with 290 w wc hmm hp (show i ≤ 99 by omega) _ (fun τ2 g1 g2 => ?_)
              have hl := fl_len wc (w2 i (by omega))
              have nx := ih (i + 1) τ2 (by omega) g2
              rw [el, eh] at nx
              rw [ea]
              refine c_MO_isAnyBelow LM 298 (A := []) (M := (fl c (fillV v p 0 i)).1) (w := (fl c (fillV v p 0 i)).2) g1 (by rw [List.nil_append]; omega) (fl_ok wc (w2 i (by omega))) (v.2 5 p) (by omega) _ ?_
              rw [← ea]
              cases hh : anyB (fl c (fillV v p 0 i)).1 (v.2 5 p) with
              | false =>
                have hG : G i = true := by
                  rw [eG]
                  show (!anyB (fl c (fillV v p 0 i)).1 (v.2 5 p)) = true
                  rw [hh]; rfl
                rw [hG, if_pos rfl, if_pos rfl] at nx
                refine ⟨fun _ => ⟨fun z => ?_, fun z => ?_⟩, fun z => absurd rfl z⟩
                · refine s_MO_range_93 LM 299 0 _ _ _ _ _ τ2 (rI k) ?_
                  refine s_MO_range_99 LM 299 0 _ _ _ _ _ _ τ2 (rI k) ?_
                  rw [if_neg z] at nx
                  rw [nI_s1]; exact nx
                · refine s_MO_range_93 LM 299 0 _ _ _ _ _ τ2 (rI k) ?_
                  refine s_MO_range_99 LM 299 0 _ _ _ _ _ _ τ2 (rI k) ?_
                  rw [if_pos z] at nx
                  rw [nI_s1]; exact nx
              | true =>
                have hG : G i = false := by
                  rw [eG]
                  show (!anyB (fl c (fillV v p 0 i)).1 (v.2 5 p)) = false
                  rw [hh]; rfl
                rw [hG] at nx
                refine ⟨fun z => absurd z (by decide), fun _ => ?_⟩
                refine s_MO_range_99 LM 299 0 _ _ _ _ _ _ τ2 (rI k) ?_
                rw [nI_s1]; exact nx
        exact key 100 0 σm (by omega) hm
    · have e1 : iIn b 0 1 = 0 := (iIn01 b).2 hb
      refine ⟨-2, v, c, n, L, m, T, rfU rf 2, im, ok, fun k hk => ?_, fun k hk => ?_⟩
      · refine s_GF_range_0 LX 299 0 _ _ σx (rI k) (X_find 298 w hx a _ (fun _ => ?_) (fun z => absurd hp0 z))
        rw [ep]
        exact ⟨fun _ => ⟨fun z => absurd (Or.inl z) hb, fun _ => ⟨fun z => absurd (Or.inr z) hb, fun _ => X_refuse 298 hx (-2) 2 rfl (by omega) _ hk⟩⟩, fun z => absurd z hnp⟩
      · refine s_MO_range_0 LM 299 0 _ _ σm (rI k) (M_find 299 w hm a _ (fun _ => ?_) (fun z => absurd hp0 z))
        rw [ep, e1]
        exact ⟨fun _ => ⟨fun z => absurd rfl z, fun _ => s_MO_range_29 LM 299 0 _ _ _ _ σm (rI k) ⟨fun z => absurd z (by decide), fun _ => M_no 299 wc hm (-2) 2 rfl (by omega) _ hk⟩⟩, fun z => absurd z hnp⟩
  · refine ⟨-1, v, c, n, L, m, T, rfU rf 1, im, ok, fun k hk => ?_, fun k hk => ?_⟩
    · refine s_GF_range_0 LX 299 0 _ _ σx (rI k) ?_
      exact X_find 298 w hx a _ (fun z => absurd z hp0) (fun _ => ⟨fun z => absurd (by decide) z, fun _ => X_refuse 298 hx (-1) 1 rfl (by omega) _ hk⟩)
    · refine s_MO_range_0 LM 299 0 _ _ σm (rI k) ?_
      exact M_find 299 w hm a _ (fun z => absurd z hp0) (fun _ => ⟨fun z => absurd (by decide) z, fun _ => s_MO_range_29 LM 299 0 _ _ _ _ σm (rI k) ⟨fun z => absurd z (by decide), fun _ => M_no 299 wc hm (-1) 1 rfl (by omega) _ hk⟩⟩)
