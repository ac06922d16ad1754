/-! one step: from the weakest start of an instruction to Jd -/
section STEP
variable {p : Program} {l : Launch} {e : Env} {R : Room} {s : State} {m : MethodId} {args : Array Value} {below : List Frame} {meth : Method} {c : Code} {H : Heap} {locs : List Loc} {Qf : State → Prop}
variable {Y : List kd} {D : va_G} {cA : ClassId} {ad : Nat → Nat} {A : Nat → Prop} {σ : sS} {lsA : Array Slot} {pc : Nat} {st0 rest : List Value} {Q' : Option sv → sS → Prop} {as' : Array Value}
theorem call_go (hr : va_Run p l e R s m args below meth c H locs 0 0 0 0 (F0 m pc lsA st0) rest (sQc Y D cA ad (va_A (wl cA ad σ Y) H.size) Q' as') (va_A (wl cA ad σ Y) H.size)) (hS : va_S A s.heap H locs) (hD : va_D A (wl cA ad σ Y)) (hA : ∀ q : Nat, s.heap.size ≤ q → A q)
    (kk : ∀ (r : Option sv) (σ' : sS) (H1 : Heap) (locs1 : List Loc), (∀ v ∈ r, wtv Y v) → Q' r σ' → va_P D classes (wl cA ad σ' Y) H1 → va_S A s.heap H1 locs1 → W p l e R s m args below meth c H1 locs1 0 0 Qf (F0 m (pc + 3) lsA ((r.map (cv ad)).toList ++ rest))) : W p l e R s m args below meth c H locs 0 0 Qf (F0 m pc lsA st0) := by
  have hsub : ∀ q, va_A (wl cA ad σ Y) H.size q → A q := by
    intro q hq
    rcases hq with ⟨k, en, hk⟩ | hq
    · exact hD.2 k _ hk
    · exact hA q (Nat.le_trans hS.1 hq)
  intro T hT X
  obtain ⟨v, st₀, t, T', L, h0, X', hL, e1, e2, ⟨⟨r, σ', hv, hw, hq, hp⟩, hz, hk⟩, stp⟩ := hr T hT X
  cases hv
  rw [h0] at hz hk
  obtain ⟨t2, a1, b1⟩ := kk r σ' T'.heap (locs ++ L) hw hq (by rw [e1]; exact hp)
    ⟨Nat.le_trans hS.1 (by rw [e1]; exact hz), fun q h1 h2 => by rw [e1, hk q (Nat.lt_of_lt_of_le h1 hS.1) (fun z => h2 (hsub q z))]; exact hS.2.1 q h1 h2, fun q hq => by
      rcases List.mem_append.mp hq with h | h
      · exact hS.2.2 q h
      · exact hsub _ (hL q h)⟩ T' rfl X'
  exact ⟨t2, stp t2 a1, b1⟩
end STEP
theorem csT_ok {x : Int32} {d : Prop} {f : Nat → Prop} {pc : Nat} : ∀ (offs : List Int) (cs : List (Int32 × Nat)) (a : Int), csT pc a offs cs = true → wsw x d f cs → (∃ (j : Nat) (off : Int) (t : Nat), offs[j]? = some off ∧ x.toInt = a + j ∧ (pc : Int) + off = (t : Int) ∧ f t) ∨ ((∀ j : Nat, j < offs.length → x.toInt ≠ a + j) ∧ d)
  | [], [], a, _, h => Or.inr ⟨fun j hj => absurd hj (Nat.not_lt_zero j), h⟩
  | [], q :: r', a, h, _ => by simp [csT] at h
  | o :: r, [], a, h, _ => by simp [csT] at h
  | o :: r, q :: r', a, h, hw => by
    simp only [csT, Bool.and_eq_true, decide_eq_true_eq] at h
    obtain ⟨h1, h2, h3⟩ := h
    by_cases hx : x = q.1
    · exact Or.inl ⟨0, o, q.2, rfl, by rw [hx, h1]; simp, h2, hw.1 hx⟩
    · rcases csT_ok r r' (a + 1) h3 (hw.2 hx) with ⟨j, off, t, e1, e2, e3, e4⟩ | ⟨e1, e2⟩
      · exact Or.inl ⟨j + 1, off, t, by simpa using e1, by rw [e2]; push_cast; omega, e3, e4⟩
      · refine Or.inr ⟨fun j hj => ?_, e2⟩
        cases j with
        | zero =>
          intro hq
          exact hx (Int32.toInt_inj.mp (by rw [h1, hq]; simp))
        | succ j =>
          have := e1 j (by simpa using hj)
          intro hq
          apply this
          rw [hq]; push_cast; omega
theorem csL_ok {x : Int32} {d : Prop} {f : Nat → Prop} {pc : Nat} {dflt : Int} : ∀ (ps : List (Int × Int)) (cs : List (Int32 × Nat)), csL pc ps cs = true → wsw x d f cs → (∃ (off : Int) (t : Nat), Op.lookupswitch.offset ps dflt x.toInt = off ∧ (pc : Int) + off = (t : Int) ∧ f t) ∨ (Op.lookupswitch.offset ps dflt x.toInt = dflt ∧ d)
  | [], [], _, h => Or.inr ⟨rfl, h⟩
  | [], q :: r', h, _ => by simp [csL] at h
  | o :: r, [], h, _ => by simp [csL] at h
  | (oa, ob) :: r, q :: r', h, hw => by
    simp only [csL, Bool.and_eq_true, decide_eq_true_eq] at h
    obtain ⟨h1, h2, h3⟩ := h
    by_cases hx : x = q.1
    · refine Or.inl ⟨ob, q.2, ?_, h2, hw.1 hx⟩
      rw [Op.lookupswitch.offset_cons, if_pos (by rw [hx, h1])]
    · rw [lv_osw hx h1]
      exact csL_ok r r' h3 (hw.2 hx)
theorem i32_ge {x y : Int32} (h : y ≤ x) : ¬ x < y := by
  rw [Int32.le_iff_toInt_le] at h
  rw [Int32.lt_iff_toInt_lt]
  omega
theorem i32_nge {x y : Int32} (h : ¬ y ≤ x) : x < y := by
  rw [Int32.le_iff_toInt_le] at h
  rw [Int32.lt_iff_toInt_lt]
  omega
theorem wt_I {Y : List kd} {x : Int32} : wtv Y (.inl x) := trivial
theorem wt_J {Y : List kd} {x : Int64} : wtv Y (.inr (.inl x)) := trivial
theorem cat2_1 {ad : Nat → Nat} {v : sv} (h : cat2 v = false) : (cv ad v).category = 1 := by rw [cv_cat, h]; rfl
theorem take_rev (ad : Nat → Nat) (t : Nat) (st : List sv) : st.map (cv ad) = ((st.take t).reverse.map (cv ad)).reverse ++ (st.drop t).map (cv ad) := by
  rw [← List.map_reverse, List.reverse_reverse, ← List.map_append, List.take_append_drop]

theorem condT {b : Bool} {P : Prop} (h : cond b P False) : b = true ∧ P := by
  cases b with
  | false => exact h.elim
  | true => exact ⟨rfl, h⟩
theorem goodALL {ws : List Cond} (h : ∀ w ∈ ws, w ∈ ALL) : GoodIn ALL ws := fun w hw => ⟨h w hw, ALL_good w (h w hw)⟩
theorem drop_take {st : List sv} {n : Nat} {v : sv} {r : List sv} (h : st.drop n = v :: r) : (st.take (n + 1)).reverse = v :: (st.take n).reverse ∧ st.drop (n + 1) = r := by
  have h0 : st[n]? = some v := by
    have : (st.drop n)[0]? = some v := by rw [h]; rfl
    rw [List.getElem?_drop] at this
    simpa using this
  refine ⟨?_, ?_⟩
  · rw [List.take_add_one, h0]
    simp
  · have : st.drop (n + 1) = (st.drop n).drop 1 := by rw [List.drop_drop]
    rw [this, h]
    rfl
theorem take_revV (ad : Nat → Nat) {st : List sv} {n b ci : Nat} {r : List sv} (h : st.drop n = .inr (.inr (b, .inl ci)) :: r) : st.map (cv ad) = ((st.take n).reverse.map (cv ad)).reverse ++ .ref (ad b) :: (st.drop (n + 1)).map (cv ad) := by
  rw [(drop_take h).2]
  have := take_rev ad n st
  rw [h] at this
  exact this
theorem rV_out {ret : Option FieldType} {rest : List sv} {K : List sv → sS → Prop} {r : Option sv} {σ : sS} (h : rV ret rest K r σ) : K (r.toList ++ rest) σ := by
  unfold rV at h
  split at h
  · unfold rN at h
    split at h
    · exact h
    · exact h.elim
  · unfold rJ at h
    split at h
    · exact h
    · exact h.elim
  · unfold rI at h
    split at h
    · exact h
    · exact h.elim
section WCALL
variable {p : Program} {l : Launch} {en : Env} {R : Room} {s : State} {m : MethodId} {args : Array Value} {below : List Frame} {meth : Method} {c : Code} {H : Heap} {locs : List Loc} {Qf : State → Prop}
variable {Y : List kd} {D : va_G} {cA : ClassId} {ad : Nat → Nat} {A : Nat → Prop} {σ : sS} {lsA : Array Slot} {pc d t : Nat} {st : List sv} {e : sE} {K3 : List sv → sS → Prop}
theorem wcall_go (hy : yOK Y e) (h : wcall Y d e t st σ K3) (hY : lok Y) (hws : wtS Y st) (hD : va_D A (wl cA ad σ Y)) (hS : va_S A s.heap H locs) (hA : ∀ q : Nat, s.heap.size ≤ q → A q)
    (run : ∀ (Q' : Option sv → sS → Prop), Met l e.2.2.2.1.1 (wsY e.2.2.2.1) (rmD d) (sPc Y D cA ad σ (st.take t).reverse H.size) (sQc Y D cA ad (va_A (wl cA ad σ Y) H.size) Q') 0 0 (va_A (wl cA ad σ Y) H.size) →
      (2 * (F0 m pc lsA (st.map (cv ad))).monitorRoom + (((st.drop t).map (cv ad)).map fun v => v.category).sum ≤ 8 ∧ ((st.take t).reverse.map (cv ad)).length = t ∧ t ≤ st.length) →
      va_Run p l en R s m args below meth c H locs 0 0 0 0 (F0 m pc lsA (st.map (cv ad))) ((st.drop t).map (cv ad)) (sQc Y D cA ad (va_A (wl cA ad σ Y) H.size) Q' ((st.take t).reverse.map (cv ad)).toArray) (va_A (wl cA ad σ Y) H.size))
    (go3 : ∀ (st' : List sv) (σ' : sS), K3 st' σ' → ∀ (H1 : Heap) (locs1 : List Loc), va_P D classes (wl cA ad σ' Y) H1 → va_S A s.heap H1 locs1 → wtS Y st' → W p l en R s m args below meth c H1 locs1 0 0 Qf (F0 m (pc + 3) lsA (st'.map (cv ad)))) :
    W p l en R s m args below meth c H locs 0 0 Qf (F0 m pc lsA (st.map (cv ad))) := by
  unfold wcall at h
  cases hc : (Nat.ble t st.length && (Nat.ble (wsum (st.drop t)) 8 && Nat.ble (wsum (st.take t).reverse) e.2.2.2.1.2.2.1)) with
  | false => rw [hc] at h; exact h.elim
  | true =>
  rw [hc] at h
  simp only [Bool.and_eq_true] at hc
  have c1 := Nat.le_of_ble_eq_true hc.1
  have c2 := Nat.le_of_ble_eq_true hc.2.1
  have c3 := Nat.le_of_ble_eq_true hc.2.2
  have hwa : wtS Y (st.take t).reverse := fun v hv => hws v (List.mem_of_mem_take (List.mem_reverse.mp hv))
  obtain ⟨y1, y2, y3, y4, y5, hpr⟩ := hy
  have hcall : ∃ Q' : Option sv → sS → Prop, CJ Y d e.2.2.2.1 (st.take t).reverse σ Q' ∧ ∀ r σ', Q' r σ' → K3 (r.toList ++ st.drop t) σ' := by
    cases hp : e.2.2.2.2.2.2.2 (st.take t).reverse σ with
    | none =>
      rw [hp] at h
      exact ⟨_, h, fun r σ' hr => rV_out hr⟩
    | some q =>
      obtain ⟨r, σ'⟩ := q
      rw [hp] at h
      exact ⟨fun r0 σ0 => r0 = r ∧ σ0 = σ', hpr _ _ _ _ hp hwa d _ ⟨rfl, rfl⟩, fun r0 σ0 hr => by obtain ⟨rfl, rfl⟩ := hr; exact h⟩
  obtain ⟨Q', hcj, hK⟩ := hcall
  have hM := met_of hcj y1 hY hwa l D cA ad H.size (by rw [wsum_sl]; exact c3)
  have hr := run Q' hM ⟨lv_room (by rw [wsum_cat]; exact c2), by simp [c1], c1⟩
  refine call_go hr hS hD hA (fun r σ' H1 locs1 hwr hq hP1 hS1 => ?_)
  have hcv : (r.map (cv ad)).toList ++ (st.drop t).map (cv ad) = (r.toList ++ st.drop t).map (cv ad) := by
    cases r <;> simp
  rw [hcv]
  exact go3 _ _ (hK r σ' hq) H1 locs1 hP1 hS1 (fun v hv => by
    rcases List.mem_append.mp hv with h1 | h1
    · exact hwr v (by simpa using h1)
    · exact hws v (List.mem_of_mem_drop h1))
end WCALL
set_option maxHeartbeats 4000000 in
set_option maxRecDepth 100000 in
theorem wp1_ok {Y : List kd} {d : Nat} {y : sY} {ft : List (Nat × Nat × Nat × sF)} {ct : List sE} (hF : ∀ q ∈ ft, fOK y.1.cls q) (hC : ∀ q ∈ ct, eOK Y y.1.cls q) {e : sT} (hT : sTok y.1.cls y.2.1 e) {ls : sL} {st : List sv} {σ : sS} {K : Nat → sL → List sv → sS → Prop} {Q : Option sv → sS → Prop}
    (h : wp1 Y d y.2.2.1 y.2.2.2 ft ct e ls st σ K Q) (hK : ∀ pc ls st σ, K pc ls st σ → Jd Y d y pc ls st σ Q) : Jd Y d y e.1 ls st σ Q := by
  intro l D cA ad A p en R s m args below meth c hCx hA H locs lsA hP hD hS hl hw hws
  obtain ⟨hx, hb, hml, hown, hr, hlk, hts, hN, hKK, hfr, hlo, hY⟩ := id hCx
  have go : ∀ (pc : Nat) (ls : sL) (st : List sv) (σ : sS), K pc ls st σ → ∀ (H : Heap) (locs : List Loc) (lsA : Array Slot), va_P D classes (wl cA ad σ Y) H → va_D A (wl cA ad σ Y) → va_S A s.heap H locs → lv_has lsA y.2.2.1 (cvL ad ls) → wtL Y ls → wtS Y st → W p l en R s m args below meth c H locs 0 0 (MQ below (sQc Y D cA ad A Q) args s 0 0 A) (F0 m pc lsA (st.map (cv ad))) := fun pc ls st σ hk => hK pc ls st σ hk l D cA ad A p en R s m args below meth c hCx hA
  obtain ⟨pc, len, i, tgt, cs, k1, k2⟩ := e
  obtain ⟨hdg, hside⟩ := hT
  have hlen1 : ∀ n : Nat, Nat.beq len n = true → len = n := fun n h => Nat.eq_of_beq_eq_true h
  cases i with
  | iconst n =>
    obtain ⟨hk1, hln⟩ := Bool.and_eq_true_iff.mp hside
    have hln := hlen1 1 hln
    subst hln
    have hk1 := of_decide_eq_true hk1
    exact lv_iconst hx hb hdg hk1 (go _ _ _ _ h H locs lsA hP hD hS hl hw (wtS_cons wt_I hws))
  | bipush n =>
    obtain ⟨hk1, hln⟩ := Bool.and_eq_true_iff.mp hside
    have hln := hlen1 2 hln
    subst hln
    have hk1 := of_decide_eq_true hk1
    exact lv_bipush hx hb hdg hk1 (go _ _ _ _ h H locs lsA hP hD hS hl hw (wtS_cons wt_I hws))
  | sipush n =>
    obtain ⟨hk1, hln⟩ := Bool.and_eq_true_iff.mp hside
    have hln := hlen1 3 hln
    subst hln
    have hk1 := of_decide_eq_true hk1
    exact lv_sipush hx hb hdg hk1 (go _ _ _ _ h H locs lsA hP hD hS hl hw (wtS_cons wt_I hws))
  | ldc i =>
    obtain ⟨hk1, hln⟩ := Bool.and_eq_true_iff.mp hside
    have hln := hlen1 2 hln
    subst hln
    have hk1 := of_decide_eq_true hk1
    exact lv_ldc hx hb hown (hts _ (CK_in _ hk1)) hdg (go _ _ _ _ h H locs lsA hP hD hS hl hw (wtS_cons wt_I hws))
  | ldc_w i =>
    obtain ⟨hk1, hln⟩ := Bool.and_eq_true_iff.mp hside
    have hln := hlen1 3 hln
    subst hln
    have hk1 := of_decide_eq_true hk1
    exact lv_ldcw hx hb hown (hts _ (CK_in _ hk1)) hdg (go _ _ _ _ h H locs lsA hP hD hS hl hw (wtS_cons wt_I hws))
  | lconst n =>
    obtain ⟨hk1, hln⟩ := Bool.and_eq_true_iff.mp hside
    have hln := hlen1 1 hln
    subst hln
    have hk1 := of_decide_eq_true hk1
    exact lv_lconst hx hb hdg hk1 (go _ _ _ _ h H locs lsA hP hD hS hl hw (wtS_cons wt_J hws))
  | ldc2_w i =>
    have hside : (decide ((y.1.cls, i, k2) ∈ CKL) && Nat.beq len 3) = true := hside
    obtain ⟨hk1, hln⟩ := Bool.and_eq_true_iff.mp hside
    have hln := hlen1 3 hln
    subst hln
    have hk1 := of_decide_eq_true hk1
    exact lv_ldc2 hx hb hown (hts _ (CKL_in _ hk1)) hdg (go _ _ _ _ h H locs lsA hP hD hS hl hw (wtS_cons wt_J hws))
  | iload_n k =>
    have hln := hlen1 1 hside
    subst hln
    obtain ⟨x, hg, hk⟩ := wgI_inv h
    exact lv_iload_n hx hb hdg rfl (lv_gl hl hg) (go _ _ _ _ hk H locs lsA hP hD hS hl hw (wtS_cons wt_I hws))
  | iload k =>
    have hln := hlen1 2 hside
    subst hln
    obtain ⟨x, hg, hk⟩ := wgI_inv h
    exact lv_iload hx hb hdg (lv_gl hl hg) (go _ _ _ _ hk H locs lsA hP hD hS hl hw (wtS_cons wt_I hws))
  | lload_n k =>
    have hln := hlen1 1 hside
    subst hln
    obtain ⟨x, hg, hk⟩ := wgJ_inv h
    exact lv_lload_n hx hb hdg rfl (lv_gl hl hg) (go _ _ _ _ hk H locs lsA hP hD hS hl hw (wtS_cons wt_J hws))
  | lload k =>
    have hln := hlen1 2 hside
    subst hln
    obtain ⟨x, hg, hk⟩ := wgJ_inv h
    exact lv_lload hx hb hdg (lv_gl hl hg) (go _ _ _ _ hk H locs lsA hP hD hS hl hw (wtS_cons wt_J hws))
  | aload_n k =>
    have hln := hlen1 1 hside
    subst hln
    have h2 : wgR k.val ls (fun b kk => K (pc + 1) ls (.inr (.inr (b, kk)) :: st) σ) := h
    obtain ⟨b, kk, hg, hk⟩ := wgR_inv h2
    exact lv_aload_n hx hb hdg rfl (lv_gl hl hg) (go _ _ _ _ hk H locs lsA hP hD hS hl hw (wtS_cons (wt_gl hw hg) hws))
  | aload k =>
    have hln := hlen1 2 hside
    subst hln
    have h2 : wgR k ls (fun b kk => K (pc + 2) ls (.inr (.inr (b, kk)) :: st) σ) := h
    obtain ⟨b, kk, hg, hk⟩ := wgR_inv h2
    exact lv_aload hx hb hdg (lv_gl hl hg) (go _ _ _ _ hk H locs lsA hP hD hS hl hw (wtS_cons (wt_gl hw hg) hws))
  | istore_n k =>
    have hln := hlen1 1 hside
    subst hln
    obtain ⟨x, r, rfl, hk⟩ := w1I_inv h
    replace hk := condT hk
    have hn : k.val < y.2.2.1 := Nat.le_of_ble_eq_true hk.1
    exact lv_istore_n hx hb hdg rfl hl hn rfl (fun ls2 hl2 => go _ _ _ _ hk.2 H locs ls2 hP hD hS (lv_has_mono hl2 sl1_mem) (wt_sl1 hw wt_I) (wtS_tail hws))
  | istore k =>
    have hln := hlen1 2 hside
    subst hln
    obtain ⟨x, r, rfl, hk⟩ := w1I_inv h
    replace hk := condT hk
    have hn : k < y.2.2.1 := Nat.le_of_ble_eq_true hk.1
    exact lv_istore hx hb hdg hl hn rfl (fun ls2 hl2 => go _ _ _ _ hk.2 H locs ls2 hP hD hS (lv_has_mono hl2 sl1_mem) (wt_sl1 hw wt_I) (wtS_tail hws))
  | lstore_n k =>
    have hln := hlen1 1 hside
    subst hln
    obtain ⟨x, r, rfl, hk⟩ := w1J_inv h
    replace hk := condT hk
    have hn : k.val + 1 < y.2.2.1 := Nat.le_of_ble_eq_true hk.1
    exact lv_lstore_n hx hb hdg rfl hl hn rfl (fun ls2 hl2 => go _ _ _ _ hk.2 H locs ls2 hP hD hS (lv_has_mono hl2 sl2_mem) (wt_sl2 hw wt_J) (wtS_tail hws))
  | lstore k =>
    have hln := hlen1 2 hside
    subst hln
    obtain ⟨x, r, rfl, hk⟩ := w1J_inv h
    replace hk := condT hk
    have hn : k + 1 < y.2.2.1 := Nat.le_of_ble_eq_true hk.1
    exact lv_lstore hx hb hdg hl hn rfl (fun ls2 hl2 => go _ _ _ _ hk.2 H locs ls2 hP hD hS (lv_has_mono hl2 sl2_mem) (wt_sl2 hw wt_J) (wtS_tail hws))
  | iinc i n =>
    obtain ⟨hk1, hln⟩ := Bool.and_eq_true_iff.mp hside
    have hln := hlen1 3 hln
    subst hln
    have hk1 := of_decide_eq_true hk1
    obtain ⟨x, hg, hk⟩ := wgI_inv h
    replace hk := condT hk
    have hn : i < y.2.2.1 := Nat.le_of_ble_eq_true hk.1
    obtain ⟨j, hj, hj2⟩ := List.mem_iff_getElem?.mp (cvL_mem (ad := ad) (gl_mem ls i _ hg)) |> fun ⟨j, hj⟩ => (⟨j, hj, trivial⟩ : ∃ j, (cvL ad ls)[j]? = some (i, cv ad (.inl x)) ∧ True)
    exact lv_iinc (k := j) (x := x) (v := x + k1) hx hb hdg hl hj (by rw [hk1]) hn rfl (fun ls2 hl2 => go _ _ _ _ hk.2 H locs ls2 hP hD hS (lv_has_mono hl2 (sl1_mem (v := .inl (x + k1)))) (wt_sl1 hw wt_I) hws)
  | iadd =>
    have hln := hlen1 1 hside
    subst hln
    obtain ⟨x, z, r, rfl, hk⟩ := w2I_inv h
    exact lv_iadd hx hb hdg (go _ _ _ _ hk H locs lsA hP hD hS hl hw (wtS_cons wt_I (wtS_tail (wtS_tail hws))))
  | isub =>
    have hln := hlen1 1 hside
    subst hln
    obtain ⟨x, z, r, rfl, hk⟩ := w2I_inv h
    exact lv_isub hx hb hdg (go _ _ _ _ hk H locs lsA hP hD hS hl hw (wtS_cons wt_I (wtS_tail (wtS_tail hws))))
  | imul =>
    have hln := hlen1 1 hside
    subst hln
    obtain ⟨x, z, r, rfl, hk⟩ := w2I_inv h
    exact lv_imul hx hb hdg (go _ _ _ _ hk H locs lsA hP hD hS hl hw (wtS_cons wt_I (wtS_tail (wtS_tail hws))))
  | iand =>
    have hln := hlen1 1 hside
    subst hln
    obtain ⟨x, z, r, rfl, hk⟩ := w2I_inv h
    exact lv_iand hx hb hdg (go _ _ _ _ hk H locs lsA hP hD hS hl hw (wtS_cons wt_I (wtS_tail (wtS_tail hws))))
  | ior =>
    have hln := hlen1 1 hside
    subst hln
    obtain ⟨x, z, r, rfl, hk⟩ := w2I_inv h
    exact lv_ior hx hb hdg (go _ _ _ _ hk H locs lsA hP hD hS hl hw (wtS_cons wt_I (wtS_tail (wtS_tail hws))))
  | ishl =>
    have hln := hlen1 1 hside
    subst hln
    obtain ⟨x, z, r, rfl, hk⟩ := w2I_inv h
    exact lv_ishl hx hb hdg (go _ _ _ _ hk H locs lsA hP hD hS hl hw (wtS_cons wt_I (wtS_tail (wtS_tail hws))))
  | ishr =>
    have hln := hlen1 1 hside
    subst hln
    obtain ⟨x, z, r, rfl, hk⟩ := w2I_inv h
    exact lv_ishr hx hb hdg (go _ _ _ _ hk H locs lsA hP hD hS hl hw (wtS_cons wt_I (wtS_tail (wtS_tail hws))))
  | iushr =>
    have hln := hlen1 1 hside
    subst hln
    obtain ⟨x, z, r, rfl, hk⟩ := w2I_inv h
    exact lv_iushr hx hb hdg rfl (go _ _ _ _ hk H locs lsA hP hD hS hl hw (wtS_cons wt_I (wtS_tail (wtS_tail hws))))
  | idiv =>
    have hln := hlen1 1 hside
    subst hln
    obtain ⟨x, z, r, rfl, hk⟩ := w2I_inv h
    exact lv_idiv hx hb hdg hk.1 (go _ _ _ _ hk.2 H locs lsA hP hD hS hl hw (wtS_cons wt_I (wtS_tail (wtS_tail hws))))
  | irem =>
    have hln := hlen1 1 hside
    subst hln
    obtain ⟨x, z, r, rfl, hk⟩ := w2I_inv h
    exact lv_irem hx hb hdg hk.1 (go _ _ _ _ hk.2 H locs lsA hP hD hS hl hw (wtS_cons wt_I (wtS_tail (wtS_tail hws))))
  | ineg =>
    have hln := hlen1 1 hside
    subst hln
    obtain ⟨x, r, rfl, hk⟩ := w1I_inv h
    exact lv_ineg hx hb hdg (go _ _ _ _ hk H locs lsA hP hD hS hl hw (wtS_cons wt_I (wtS_tail hws)))
  | i2l =>
    have hln := hlen1 1 hside
    subst hln
    obtain ⟨x, r, rfl, hk⟩ := w1I_inv h
    exact lv_i2l hx hb hdg rfl (go _ _ _ _ hk H locs lsA hP hD hS hl hw (wtS_cons wt_J (wtS_tail hws)))
  | ladd =>
    have hln := hlen1 1 hside
    subst hln
    obtain ⟨x, z, r, rfl, hk⟩ := w2J_inv h
    exact lv_ladd hx hb hdg (go _ _ _ _ hk H locs lsA hP hD hS hl hw (wtS_cons wt_J (wtS_tail (wtS_tail hws))))
  | lsub =>
    have hln := hlen1 1 hside
    subst hln
    obtain ⟨x, z, r, rfl, hk⟩ := w2J_inv h
    exact lv_lsub hx hb hdg (go _ _ _ _ hk H locs lsA hP hD hS hl hw (wtS_cons wt_J (wtS_tail (wtS_tail hws))))
  | lmul =>
    have hln := hlen1 1 hside
    subst hln
    obtain ⟨x, z, r, rfl, hk⟩ := w2J_inv h
    exact lv_lmul hx hb hdg (go _ _ _ _ hk H locs lsA hP hD hS hl hw (wtS_cons wt_J (wtS_tail (wtS_tail hws))))
  | ldiv =>
    have hln := hlen1 1 hside
    subst hln
    obtain ⟨x, z, r, rfl, hk⟩ := w2J_inv h
    exact lv_ldiv hx hb hdg hk.1 (go _ _ _ _ hk.2 H locs lsA hP hD hS hl hw (wtS_cons wt_J (wtS_tail (wtS_tail hws))))
  | lrem =>
    have hln := hlen1 1 hside
    subst hln
    obtain ⟨x, z, r, rfl, hk⟩ := w2J_inv h
    exact lv_lrem hx hb hdg hk.1 (go _ _ _ _ hk.2 H locs lsA hP hD hS hl hw (wtS_cons wt_J (wtS_tail (wtS_tail hws))))
  | lcmp =>
    have hln := hlen1 1 hside
    subst hln
    obtain ⟨x, z, r, rfl, hk⟩ := w2J_inv h
    exact W.lcmp hx hb hdg (go _ _ _ _ hk H locs lsA hP hD hS hl hw (wtS_cons wt_I (wtS_tail (wtS_tail hws))))
  | dup =>
    have hln := hlen1 1 hside
    subst hln
    match st, hws, h with
    | v :: r, hws, h =>
      cases hv : cat2 v with
      | true => simp only [wp1, hv] at h; exact h.elim
      | false =>
        simp only [wp1, hv] at h
        exact lv_dup hx hb hdg (cat2_1 hv) (go _ _ _ _ h H locs lsA hP hD hS hl hw (wtS_cons (wtS_head hws) hws))
    | [], hws, h => exact False.elim h
  | pop =>
    have hln := hlen1 1 hside
    subst hln
    match st, hws, h with
    | v :: r, hws, h =>
      cases hv : cat2 v with
      | true => simp only [wp1, hv] at h; exact h.elim
      | false =>
        simp only [wp1, hv] at h
        exact lv_pop hx hb hdg (cat2_1 hv) (go _ _ _ _ h H locs lsA hP hD hS hl hw (wtS_tail hws))
    | [], hws, h => exact False.elim h
  | dup2 =>
    have hln := hlen1 1 hside
    subst hln
    match st, hws, h with
    | v :: w :: r, hws, h =>
      cases hv : cat2 v with
      | true => simp only [wp1, hv, Bool.true_or] at h; exact h.elim
      | false =>
        cases hw2 : cat2 w with
        | true => simp only [wp1, hv, hw2, Bool.false_or] at h; exact h.elim
        | false =>
          simp only [wp1, hv, hw2, Bool.false_or] at h
          exact lv_dup2_11 hx hb hdg (cat2_1 hv) (cat2_1 hw2) (go _ _ _ _ h H locs lsA hP hD hS hl hw (wtS_cons (wtS_head hws) (wtS_cons (wtS_head (wtS_tail hws)) hws)))
    | [_], hws, h => exact False.elim h
    | [], hws, h => exact False.elim h
  | goto o =>
    obtain ⟨hk1, hln⟩ := Bool.and_eq_true_iff.mp hside
    have hln := hlen1 3 hln
    subst hln
    have hk1 := of_decide_eq_true hk1
    exact lv_goto hx hb hdg hk1 (go _ _ _ _ h H locs lsA hP hD hS hl hw hws)
  | ifnull o =>
    obtain ⟨hk1, hln⟩ := Bool.and_eq_true_iff.mp hside
    have hln := hlen1 3 hln
    subst hln
    have hk1 := of_decide_eq_true hk1
    have h2 : w1R st (fun _ _ r => K (pc + 3) ls r σ) := h
    obtain ⟨b, k, r, rfl, hk⟩ := w1R_inv h2
    exact lv_ifnull hx hb hdg (go _ _ _ _ hk H locs lsA hP hD hS hl hw (wtS_tail hws))
  | ifnonnull o =>
    obtain ⟨hk1, hln⟩ := Bool.and_eq_true_iff.mp hside
    have hln := hlen1 3 hln
    subst hln
    have hk1 := of_decide_eq_true hk1
    have h2 : w1R st (fun _ _ r => K tgt ls r σ) := h
    obtain ⟨b, k, r, rfl, hk⟩ := w1R_inv h2
    exact lv_ifnonnull hx hb hdg hk1 (go _ _ _ _ hk H locs lsA hP hD hS hl hw (wtS_tail hws))
  | if_icmp cnd o =>
    obtain ⟨hk1, hln⟩ := Bool.and_eq_true_iff.mp hside
    have hln := hlen1 3 hln
    subst hln
    have hk1 := of_decide_eq_true hk1
    cases cnd with
    | eq =>
      obtain ⟨x, z, r, rfl, hk⟩ := w2I_inv h
      exact lv_icmp_eq hx hb hdg hk1 (fun z => (go _ _ _ _ (hk.1 z) H locs lsA hP hD hS hl hw (wtS_tail (wtS_tail hws)))) (fun z => (go _ _ _ _ (hk.2 z) H locs lsA hP hD hS hl hw (wtS_tail (wtS_tail hws))))
    | ne =>
      obtain ⟨x, z, r, rfl, hk⟩ := w2I_inv h
      exact lv_icmp_ne hx hb hdg hk1 (fun z => (go _ _ _ _ (hk.1 z) H locs lsA hP hD hS hl hw (wtS_tail (wtS_tail hws)))) (fun z => (go _ _ _ _ (hk.2 z) H locs lsA hP hD hS hl hw (wtS_tail (wtS_tail hws))))
    | lt =>
      obtain ⟨x, z, r, rfl, hk⟩ := w2I_inv h
      exact lv_icmp_lt hx hb hdg hk1 (fun z => (go _ _ _ _ (hk.1 z) H locs lsA hP hD hS hl hw (wtS_tail (wtS_tail hws)))) (fun z => (go _ _ _ _ (hk.2 z) H locs lsA hP hD hS hl hw (wtS_tail (wtS_tail hws))))
    | ge =>
      obtain ⟨x, z, r, rfl, hk⟩ := w2I_inv h
      exact lv_icmp_ge hx hb hdg hk1 (fun z => (go _ _ _ _ (hk.1 (i32_ge z)) H locs lsA hP hD hS hl hw (wtS_tail (wtS_tail hws)))) (fun z => (go _ _ _ _ (hk.2 (i32_nge z)) H locs lsA hP hD hS hl hw (wtS_tail (wtS_tail hws))))
    | gt =>
      obtain ⟨x, z, r, rfl, hk⟩ := w2I_inv h
      exact lv_icmp_gt hx hb hdg hk1 (fun z => (go _ _ _ _ (hk.1 z) H locs lsA hP hD hS hl hw (wtS_tail (wtS_tail hws)))) (fun z => (go _ _ _ _ (hk.2 z) H locs lsA hP hD hS hl hw (wtS_tail (wtS_tail hws))))
    | le =>
      obtain ⟨x, z, r, rfl, hk⟩ := w2I_inv h
      exact lv_icmp_le hx hb hdg hk1 (fun z => (go _ _ _ _ (hk.1 (i32_ge z)) H locs lsA hP hD hS hl hw (wtS_tail (wtS_tail hws)))) (fun z => (go _ _ _ _ (hk.2 (i32_nge z)) H locs lsA hP hD hS hl hw (wtS_tail (wtS_tail hws))))
  | ifCond cnd o =>
    obtain ⟨hk1, hln⟩ := Bool.and_eq_true_iff.mp hside
    have hln := hlen1 3 hln
    subst hln
    have hk1 := of_decide_eq_true hk1
    cases cnd with
    | eq =>
      obtain ⟨x, r, rfl, hk⟩ := w1I_inv h
      exact lv_if_eq hx hb hdg hk1 (fun z => (go _ _ _ _ (hk.1 z) H locs lsA hP hD hS hl hw (wtS_tail hws))) (fun z => (go _ _ _ _ (hk.2 z) H locs lsA hP hD hS hl hw (wtS_tail hws)))
    | ne =>
      obtain ⟨x, r, rfl, hk⟩ := w1I_inv h
      exact lv_if_ne hx hb hdg hk1 (fun z => (go _ _ _ _ (hk.1 z) H locs lsA hP hD hS hl hw (wtS_tail hws))) (fun z => (go _ _ _ _ (hk.2 z) H locs lsA hP hD hS hl hw (wtS_tail hws)))
    | lt =>
      obtain ⟨x, r, rfl, hk⟩ := w1I_inv h
      exact lv_if_lt hx hb hdg hk1 (fun z => (go _ _ _ _ (hk.1 z) H locs lsA hP hD hS hl hw (wtS_tail hws))) (fun z => (go _ _ _ _ (hk.2 z) H locs lsA hP hD hS hl hw (wtS_tail hws)))
    | ge =>
      obtain ⟨x, r, rfl, hk⟩ := w1I_inv h
      exact lv_if_ge hx hb hdg hk1 (fun z => (go _ _ _ _ (hk.1 (i32_ge z)) H locs lsA hP hD hS hl hw (wtS_tail hws))) (fun z => (go _ _ _ _ (hk.2 (i32_nge z)) H locs lsA hP hD hS hl hw (wtS_tail hws)))
    | gt =>
      obtain ⟨x, r, rfl, hk⟩ := w1I_inv h
      exact lv_if_gt hx hb hdg hk1 (fun z => (go _ _ _ _ (hk.1 z) H locs lsA hP hD hS hl hw (wtS_tail hws))) (fun z => (go _ _ _ _ (hk.2 z) H locs lsA hP hD hS hl hw (wtS_tail hws)))
    | le =>
      obtain ⟨x, r, rfl, hk⟩ := w1I_inv h
      exact lv_if_le hx hb hdg hk1 (fun z => (go _ _ _ _ (hk.1 (i32_ge z)) H locs lsA hP hD hS hl hw (wtS_tail hws))) (fun z => (go _ _ _ _ (hk.2 (i32_nge z)) H locs lsA hP hD hS hl hw (wtS_tail hws)))
  | tableswitch dd lo hi offs =>
    obtain ⟨x, r, rfl, hk⟩ := w1I_inv h
    obtain ⟨h1, h23⟩ := Bool.and_eq_true_iff.mp hside
    obtain ⟨h2, h3⟩ := Bool.and_eq_true_iff.mp h23
    have h1 := of_decide_eq_true h1
    have h2 := of_decide_eq_true h2
    rcases csT_ok offs.toList cs lo h3 hk with ⟨j, off, t, e1, e2, e3, e4⟩ | ⟨e1, e2⟩
    · have hj : j < offs.size := by
        have := (List.getElem?_eq_some_iff.mp e1).1
        simpa using this
      have e5 : offs[(x.toInt - lo).toNat]? = some off := by
        have : (x.toInt - lo).toNat = j := by omega
        rw [this, ← Array.getElem?_toList]
        exact e1
      exact lv_tableIn hx hb hdg (by omega) (by omega) e5 e3 (go _ _ _ _ e4 H locs lsA hP hD hS hl hw (wtS_tail hws))
    · have hout : x.toInt < lo ∨ hi < x.toInt := by
        by_cases q1 : x.toInt < lo
        · exact Or.inl q1
        · by_cases q2 : hi < x.toInt
          · exact Or.inr q2
          · exfalso
            refine e1 (x.toInt - lo).toNat ?_ ?_
            · simp only [Array.length_toList]; omega
            · omega
      exact lv_tableOut hx hb hdg hout h1 (go _ _ _ _ e2 H locs lsA hP hD hS hl hw (wtS_tail hws))
  | lookupswitch dd ps =>
    obtain ⟨x, r, rfl, hk⟩ := w1I_inv h
    obtain ⟨h1, h23⟩ := Bool.and_eq_true_iff.mp hside
    obtain ⟨h2, h3⟩ := Bool.and_eq_true_iff.mp h23
    have h1 := of_decide_eq_true h1
    rcases csL_ok (dflt := dd) ps.toList cs h3 hk with ⟨off, t, e1, e2, e3⟩ | ⟨e1, e2⟩
    · exact lv_lookup hx hb hdg h2 e1 e2 (go _ _ _ _ e3 H locs lsA hP hD hS hl hw (wtS_tail hws))
    · exact lv_lookup hx hb hdg h2 e1 h1 (go _ _ _ _ e2 H locs lsA hP hD hS hl hw (wtS_tail hws))
  | arraylength =>
    have hln := hlen1 1 hside
    subst hln
    obtain ⟨b, n, r, rfl, hk⟩ := wA_inv h
    have hb1 : Y[b]? = some (.inr n) := wtS_head hws
    exact va_alen hx hb hKK hP b 0 (wl_get hb1) rfl rfl hdg (go _ _ _ _ hk H locs lsA hP hD hS hl hw (wtS_cons wt_I (wtS_tail hws)))
  | iaload =>
    have hln := hlen1 1 hside
    subst hln
    obtain ⟨i, b, n, r, rfl, hin, hk⟩ := wIA_inv h
    have hb1 : Y[b]? = some (.inr n) := wtS_head (wtS_tail hws)
    exact va_iald hx hb hKK hP b 0 (wl_get hb1) rfl hin hdg (go _ _ _ _ hk H locs lsA hP hD hS hl hw (wtS_cons wt_I (wtS_tail (wtS_tail hws))))
  | iastore =>
    have hln := hlen1 1 hside
    subst hln
    obtain ⟨x, i, b, n, r, rfl, hin, hk⟩ := wIIA_inv h
    have hb1 : Y[b]? = some (.inr n) := wtS_head (wtS_tail (wtS_tail hws))
    have hset := wl_set (cA := cA) (ad := ad) (σ := σ) (σ' := up σ b i.toNatClampNeg x) hb1 (fun c hc => up_ne σ _ _ hc) (x := .inl (cA, n, .inl (upd (σ b) i.toNatClampNeg x))) (by simp only [ent, up_same])
    refine va_iast hx hb hKK hP hD hS b 0 (wl_get hb1) rfl hin hdg ?_
    intro H1 locs1 hP1 hD1 hS1
    rw [hset] at hP1 hD1
    exact go _ _ _ _ hk H1 locs1 lsA hP1 hD1 hS1 hl hw (wtS_tail (wtS_tail (wtS_tail hws)))
  | ireturn =>
    have hln := hlen1 1 hside
    subst hln
    match st, hws, h with
    | [.inl x], hws, h =>
      have hend : ∀ t : State, t.heap = H → s.WarmedH t.vm → Q (some (.inl x)) σ → sQc Y D cA ad A Q args s (.returned (some (.int x))) t := fun t ht hW hq => ⟨⟨some (.inl x), σ, rfl, (fun v hv => by cases hv; trivial), hq, by rw [ht]; exact hP⟩, hS.F ht⟩
      have h : (match y.2.2.2 with
        | some .int => Q (some (.inl x)) σ
        | some .boolean => (x = 0 ∨ x = 1) ∧ Q (some (.inl x)) σ
        | _ => False) := h
      split at h
      · rename_i hret
        exact W.iret hx hb (hr.trans hret) (fun t ht hW => hend t ht hW h) hS.2.2 hdg hlk
      · rename_i hret
        exact W.zret hx hb (hr.trans hret) (by rcases h.1 with rfl | rfl <;> rfl) (fun t ht hW => hend t ht hW h.2) hS.2.2 hdg hlk
      · exact h.elim
  | lreturn =>
    have hln := hlen1 1 hside
    subst hln
    match st, hws, h with
    | [.inr (.inl x)], hws, h =>
      have hend : ∀ t : State, t.heap = H → s.WarmedH t.vm → Q (some (.inr (.inl x))) σ → sQc Y D cA ad A Q args s (.returned (some (.long x))) t := fun t ht hW hq => ⟨⟨some (.inr (.inl x)), σ, rfl, (fun v hv => by cases hv; trivial), hq, by rw [ht]; exact hP⟩, hS.F ht⟩
      have h : (match [(.inr (.inl x) : sv)], y.2.2.2 with
        | [.inr (.inl x)], some .long => Q (some (.inr (.inl x))) σ
        | _, _ => False) := h
      split at h
      · rename_i z hz hret
        cases hz
        exact W.lret hx hb (hr.trans hret) (fun t ht hW => hend t ht hW h) hS.2.2 hdg hlk
      · exact h.elim
  | return_ =>
    have hln := hlen1 1 hside
    subst hln
    match st, hws, h with
    | [], hws, h =>
      have hend : ∀ t : State, t.heap = H → s.WarmedH t.vm → Q none σ → sQc Y D cA ad A Q args s (.returned none) t := fun t ht hW hq => ⟨⟨none, σ, rfl, (fun v hv => by cases hv), hq, by rw [ht]; exact hP⟩, hS.F ht⟩
      have h : (match ([] : List sv), y.2.2.2 with
        | [], none => Q none σ
        | _, _ => False) := h
      split at h
      · rename_i hret
        exact W.vret hx hb (hr.trans hret) (fun t ht hW => hend t ht hW h) hS.2.2 hdg hlk
      · exact h.elim
  | getfield idx =>
    have hln := hlen1 3 hside
    subst hln
    obtain ⟨b, ci, r, rfl, hk⟩ := w1O_inv h
    have hb1 : Y[b]? = some (.inl ci) := wtS_head hws
    have hfd : ∀ (k : Nat) (sf : sF), ffind idx ci ft = some (k, sf) → (∀ (v : sv), wtv Y v → cv ad v = fv ad σ b k sf → K (pc + 3) ls (v :: r) σ → W p l en R s m args below meth c H locs 0 0 (MQ below (sQc Y D cA ad A Q) args s 0 0 A) (F0 m pc lsA ((.inr (.inr (b, .inl ci)) :: r : List sv).map (cv ad)))) := by
      intro k sf hfi v hv hcv hkk
      obtain ⟨C, T, N, ref, ⟨q1, q2, q3, ty0, q4⟩, q5, q6, q7, q8, -⟩ := hF _ (ffind_mem hfi)
      have hval : (fvs ad σ b 0 (cfs.getD ci []))[k]? = some (cv ad v) := by
        rw [hcv, fvs_get ad σ b _ 0 k sf q8, Nat.zero_add]
      refine va_get (D := D) hx hb hts q2 hown hKK hP b (wl_get hb1) q1 k q5 (hts _ q6) ?_ hval hdg (go _ _ _ _ hkk H locs lsA hP hD hS hl hw (wtS_cons hv (wtS_tail hws)))
      intro x9 h9
      rcases q7 with e | e
      · rw [e]; exact h9
      · exact u_same (hts _ e) x9 h9
    split at hk
    · rename_i k a1 a2 hfi
      exact hfd k _ hfi _ wt_I rfl hk
    · rename_i k a1 a2 hfi
      exact hfd k _ hfi _ wt_I rfl hk
    · rename_i k off kk hfi
      have hwt : Y[b + off]? = some kk := by
        obtain ⟨C, T, N, ref, -, -, -, -, q8, -⟩ := hF _ (ffind_mem hfi)
        exact hY.2 b ci hb1 k _ q8 rfl
      exact hfd k _ hfi (.inr (.inr (b + off, kk))) hwt rfl hk
    · rename_i k a1 kk hfi
      exact hfd k _ hfi (.inr (.inr ((σ b k).toNatClampNeg, kk))) hk.1 rfl hk.2
    · exact hk.elim
  | putfield idx =>
    have hln := hlen1 3 hside
    subst hln
    obtain ⟨v, b, ci, r, rfl, hk⟩ := wXO_inv h
    have hb1 : Y[b]? = some (.inl ci) := wtS_head (wtS_tail hws)
    have hfd : ∀ (k : Nat) (sf : sF) (x : Int32) (ty : FieldType), ffind idx ci ft = some (k, sf) → cv ad v = fv ad (up σ b k x) b k sf → (∀ (T : u_T) , (sf.1 = 0 → parseFieldDescriptor (T k).2.2.1 = some .int ∧ (T k).2.2.2 = false) → (sf.1 = 3 → parseFieldDescriptor (T k).2.2.1 = some .boolean ∧ (T k).2.2.2 = false) → (sf.1 = 2 → ∃ o, parseFieldDescriptor (T k).2.2.1 = some (.object o) ∧ (T k).2.2.2 = false) → ∃ ty, parseFieldDescriptor (T k).2.2.1 = some ty ∧ (T k).2.2.2 = false ∧ narrow ty (cv ad v) = cv ad v ∧ fits ty (cv ad v) = true) → K (pc + 3) ls r (up σ b k x) → W p l en R s m args below meth c H locs 0 0 (MQ below (sQc Y D cA ad A Q) args s 0 0 A) (F0 m pc lsA ((v :: .inr (.inr (b, .inl ci)) :: r : List sv).map (cv ad))) := by
      intro k sf x ty hfi hcv hty hkk
      obtain ⟨C, T, N, ref, ⟨q1, q2, q3, ty0, q4⟩, q5, q6, q7, q8, z0, z3, z2⟩ := hF _ (ffind_mem hfi)
      obtain ⟨ty, t1, t2, t3, t4⟩ := hty T z0 z3 z2
      have hset := wl_set (cA := cA) (ad := ad) (σ := σ) (σ' := up σ b k x) hb1 (fun c hc => up_ne σ _ _ hc) (x := .inr (ci, (fvs ad σ b 0 (cfs.getD ci [])).set k (cv ad v))) (by
        have := fvs_set ad σ b k x (cfs.getD ci []) 0 sf (Nat.zero_le _) (by simpa using q8)
        simp only [Nat.sub_zero] at this
        simp only [ent]
        rw [hcv, this])
      refine va_put (D := D) hx hb hts q2 ty0 q4 q3 hown hKK hP hD hS b (wl_get hb1) q1 k q5 (hts _ q6) ?_ t2 t1 t3 t4 ?_ hdg ?_
      · intro x9 h9
        rcases q7 with e | e
        · rw [e]; exact h9
        · exact u_same (hts _ e) x9 h9
      · rw [fvs_len]
        exact (List.getElem?_eq_some_iff.mp q8).1
      · intro H1 locs1 hP1 hD1 hS1
        rw [hset] at hP1 hD1
        exact go _ _ _ _ hkk H1 locs1 lsA hP1 hD1 hS1 hl hw (wtS_tail (wtS_tail hws))
    split at hk
    · rename_i k a1 a2 x hfi
      refine hfd k _ x .int hfi (by simp [cv, fv, up_same, upd]) (fun T z0 _ _ => ⟨.int, (z0 rfl).1, (z0 rfl).2, rfl, rfl⟩) hk
    · rename_i k a1 a2 x hfi
      refine hfd k _ x .boolean hfi (by simp [cv, fv, up_same, upd]) (fun T _ z3 _ => ⟨.boolean, (z3 rfl).1, (z3 rfl).2, ?_, ?_⟩) hk.2
      · rcases hk.1 with rfl | rfl <;> rfl
      · rcases hk.1 with rfl | rfl <;> rfl
    · rename_i k a1 kk b' kk' hfi
      cases hkb : kbeq kk' kk with
      | false => rw [hkb] at hk; exact hk.elim
      | true =>
        rw [hkb] at hk
        have hb' : Y[b']? = some kk' := wtS_head hws
        have hlt : b' < 2 ^ 31 := Nat.lt_trans (List.getElem?_eq_some_iff.mp hb').1 hY.1
        refine hfd k _ (nI b') .int hfi (by simp [cv, fv, up_same, upd, nI_clamp hlt]) (fun T _ _ z2 => ?_) hk
        obtain ⟨o, z4, z5⟩ := z2 rfl
        exact ⟨.object o, z4, z5, rfl, rfl⟩
    · exact hk.elim
  | invokestatic idx =>
    have hln := hlen1 3 hside
    subst hln
    replace h : wstat Y d ct idx st σ (K (pc + 3) ls) := h
    cases d with
    | zero => exact h.elim
    | succ d =>
    unfold wstat at h
    cases hcf : cfind idx ct with
    | none => simp only [hcf] at h
    | some ce =>
    simp only [hcf] at h
    obtain ⟨hmem, hidx⟩ := cfind_mem hcf
    have hE := hC ce hmem
    subst hidx
    have hfix : CallFix p m c y.2.1 y.2.2.1 s args ALL y.1.cls := ⟨hx, hb, hml, hown, hts⟩
    have go3 : ∀ (st' : List sv) (σ' : sS), K (pc + 3) ls st' σ' → ∀ (H1 : Heap) (locs1 : List Loc), va_P D classes (wl cA ad σ' Y) H1 → va_S A s.heap H1 locs1 → wtS Y st' → W p l en R s m args below meth c H1 locs1 0 0 (MQ below (sQc Y D cA ad A Q) args s 0 0 A) (F0 m (pc + 3) lsA (st'.map (cv ad))) := fun st' σ' hk H1 locs1 hP1 hS1 hw1 => go _ _ _ _ hk H1 locs1 lsA hP1 (wl_D σ' hD) hS1 hl hw hw1
    have w8 : ∀ (r : List sv) (P : Prop), cond (Nat.ble (wsum r) 8) P False → wsum r ≤ 8 ∧ P := by
      intro r P hh
      cases hbl : Nat.ble (wsum r) 8 with
      | false => rw [hbl] at hh; exact hh.elim
      | true => rw [hbl] at hh; exact ⟨Nat.le_of_ble_eq_true hbl, hh⟩
    unfold eOK at hE
    unfold wstatE at h
    split at h
    · rename_i h5
      rw [h5] at hE
      obtain ⟨x, z, r, rfl, hk⟩ := w2I_inv h
      obtain ⟨h8, hk⟩ := w8 _ _ hk
      refine va_mmin hx hb (by rw [hml, hl.1]) hown (hts _ hE.1) (hts _ hE.2.1) (hts _ hE.2.2.1) (hts _ hE.2.2.2) (by omega) ?_ (Nat.zero_le _) (Nat.zero_le _) hdg (go3 _ _ hk H locs hP hS (wtS_cons wt_I (wtS_tail (wtS_tail hws))))
      have := wsum_cat ad r
      show ((r.map (cv ad)).map fun v => v.category).sum + 13 ≤ R.locals
      omega
    · rename_i h5
      rw [h5] at hE
      obtain ⟨x, z, r, rfl, hk⟩ := w2I_inv h
      obtain ⟨h8, hk⟩ := w8 _ _ hk
      refine va_mmax hx hb (by rw [hml, hl.1]) hown (hts _ hE.1) (hts _ hE.2.1) (hts _ hE.2.2.1) (hts _ hE.2.2.2) (by omega) ?_ (Nat.zero_le _) (Nat.zero_le _) hdg (go3 _ _ hk H locs hP hS (wtS_cons wt_I (wtS_tail (wtS_tail hws))))
      have := wsum_cat ad r
      show ((r.map (cv ad)).map fun v => v.category).sum + 13 ≤ R.locals
      omega
    · rename_i h5
      rw [h5] at hE
      obtain ⟨n, dp, a, n1, sp, a0, n0, r, rfl, hk⟩ := wCp_inv h
      obtain ⟨h8, ⟨g1, g2, g3, g4, g5⟩, hk⟩ := w8 _ _ hk
      have ha1 : Y[a]? = some (.inr n1) := wtS_head (wtS_tail (wtS_tail hws))
      have ha0 : Y[a0]? = some (.inr n0) := wtS_head (wtS_tail (wtS_tail (wtS_tail (wtS_tail hws))))
      have hset := wl_set (cA := cA) (ad := ad) (σ := σ) (σ' := upA σ a (va_cpy (σ a0) (σ a) sp.toNatClampNeg dp.toNatClampNeg n.toNatClampNeg)) ha1 (fun c hc => by simp [upA, hc]) (x := .inl (cA, n1, .inl (va_cpy (σ a0) (σ a) sp.toNatClampNeg dp.toNatClampNeg n.toNatClampNeg))) (by simp [ent, upA])
      refine va_copyi hx hb (by rw [hml, hl.1]) hown (hts _ hE.1) (hts _ hE.2.1) (hts _ hE.2.2.1) (hts _ hE.2.2.2) hKK hP hD hS a0 a 0 0 (wl_get ha0) (wl_get ha1) rfl rfl rfl g1 g2 g3 g4 g5 (fun i hi => rfl) (by omega) ?_ hdg ?_
      · have := wsum_cat ad r
        have e9 : nativeFrameWords "java/lang/System" "arraycopy" 5 ≤ 40 := Nat.le_of_ble_eq_true rfl
        show ((r.map (cv ad)).map fun v => v.category).sum + (nativeFrameWords "java/lang/System" "arraycopy" 5 + 11) ≤ R.locals
        omega
      · intro H1 locs1 hP1 hD1 hS1
        rw [hset] at hP1
        exact go3 _ _ hk H1 locs1 hP1 hS1 (wtS_tail (wtS_tail (wtS_tail (wtS_tail (wtS_tail hws)))))
    · rename_i h5
      rw [h5] at hE
      obtain ⟨hy, e1, e2, e3⟩ := hE
      refine wcall_go hy h hY hws hD hS hA (fun Q' hM h8 => ?_) go3
      obtain ⟨y1, y2, y3, y4, y5, -⟩ := hy
      exact va_runSN hfix hM ⟨va_cnB _ hts (goodALL fun w hw => (List.mem_cons.mp hw).elim (fun e => e ▸ y2) id) rfl rfl rfl (hN _ e1) (hts _ e3) ⟨y4.1, y4.2, y5⟩ ⟨by show d + 1 ≤ R.frames; omega, by show 8 + (_ + 11) + (40 * d + 40) ≤ R.locals; omega⟩, hts _ e2, trivial⟩ ⟨sPc_blind, fun U hU hW => ⟨rfl, by rw [hU], by rw [hU]; exact hP, va_K.moved hW.alike hKK, hD.weaken (fun _ _ _ _ => trivial), fun w hw => NW_warm hW w hw (hN w hw)⟩⟩ rfl h8.2.1 hl.1 (take_rev ad _ st) h8.1 hdg ⟨Nat.zero_le _, Nat.zero_le _⟩
    · rename_i h5
      rw [h5] at hE
      obtain ⟨hy, e1, e2, e3⟩ := hE
      refine wcall_go hy h hY hws hD hS hA (fun Q' hM h8 => ?_) go3
      obtain ⟨y1, y2, y3, y4, y5, -⟩ := hy
      exact va_runS hfix hM (va_cwS _ hts (goodALL fun w hw => by
        rcases List.mem_append.mp hw with hw | hw
        · simp only [List.mem_cons, List.not_mem_nil, or_false] at hw
          rcases hw with rfl | rfl | rfl
          · exact e1
          · exact e2
          · exact e3
        · exact (List.mem_cons.mp hw).elim (fun e => e ▸ y2) id) rfl rfl rfl ⟨y4.1, y4.2, y5⟩ ⟨by show d + 1 ≤ R.frames; omega, by show 8 + (_ + 11) + (40 * d + 40) ≤ R.locals; omega⟩) ⟨sPc_blind, fun U hU hW => ⟨rfl, by rw [hU], by rw [hU]; exact hP, va_K.moved hW.alike hKK, hD.weaken (fun _ _ _ _ => trivial), fun w hw => NW_warm hW w hw (hN w hw)⟩⟩ rfl h8.2.1 hl.1 (take_rev ad _ st) h8.1 hdg ⟨Nat.zero_le _, Nat.zero_le _⟩
    · exact h.elim
  | invokevirtual idx =>
    have hln := hlen1 3 hside
    subst hln
    replace h : wvirt Y d ct idx st σ (K (pc + 3) ls) := h
    cases d with
    | zero => exact h.elim
    | succ d =>
    unfold wvirt at h
    cases hcf : cfind idx ct with
    | none => simp only [hcf] at h
    | some c0 =>
    simp only [hcf] at h
    obtain ⟨b, ci, r9, hdrop, hh⟩ := w1O_inv h
    clear h
    cases hcr : cfindR idx ci ct with
    | none => simp only [hcr] at hh
    | some ce =>
    simp only [hcr] at hh
    obtain ⟨hmem, hidx, hci⟩ := cfindR_mem hcr
    have hE := hC ce hmem
    subst hidx; subst hci
    have hfix : CallFix p m c y.2.1 y.2.2.1 s args ALL y.1.cls := ⟨hx, hb, hml, hown, hts⟩
    have go3 : ∀ (st' : List sv) (σ' : sS), K (pc + 3) ls st' σ' → ∀ (H1 : Heap) (locs1 : List Loc), va_P D classes (wl cA ad σ' Y) H1 → va_S A s.heap H1 locs1 → wtS Y st' → W p l en R s m args below meth c H1 locs1 0 0 (MQ below (sQc Y D cA ad A Q) args s 0 0 A) (F0 m (pc + 3) lsA (st'.map (cv ad))) := fun st' σ' hk H1 locs1 hP1 hS1 hw1 => go _ _ _ _ hk H1 locs1 lsA hP1 (wl_D σ' hD) hS1 hl hw hw1
    have wb : ∀ (a b : Nat) (P : Prop), cond (Nat.beq a b) P False → a = b ∧ P := by
      intro a b P hh
      cases hbl : Nat.beq a b with
      | false => rw [hbl] at hh; exact hh.elim
      | true => rw [hbl] at hh; exact ⟨Nat.eq_of_beq_eq_true hbl, hh⟩
    have hbY : Y[b]? = some (.inl ce.2.2.1) := hws (.inr (.inr (b, .inl ce.2.2.1))) (by
      have : (.inr (.inr (b, .inl ce.2.2.1)) : sv) ∈ st.drop c0.2.2.2.2.1 := by rw [hdrop]; exact List.mem_cons_self
      exact List.mem_of_mem_drop this)
    have h := hh
    clear hh
    unfold eOK at hE
    unfold wvirtE at h
    split at h
    · rename_i h5
      rw [h5] at hE
      obtain ⟨hna, h⟩ := wb _ _ _ h
      rw [← hna] at hdrop
      obtain ⟨htk, hdp⟩ := drop_take hdrop
      obtain ⟨hy, C, T, N, e0, e1, e2, e3, e4, e5⟩ := hE
      refine wcall_go hy h hY hws hD hS hA (fun Q' hM h8 => ?_) go3
      obtain ⟨y1, y2, y3, y4, y5, -⟩ := hy
      rw [htk] at hM ⊢
      have h9 : ((st.take ce.2.2.2.2.1).reverse).length = ce.2.2.2.2.1 := by
        have := h8.2.1
        rw [htk] at this
        simp only [List.map_cons, List.length_cons, List.length_map] at this
        omega
      exact va_runV hfix hM (cwV _ hts (goodALL fun w hw => by
        rcases List.mem_append.mp hw with hw | hw
        · simp only [List.mem_cons, List.not_mem_nil, or_false] at hw
          rcases hw with rfl | rfl | rfl | rfl
          · exact e2
          · exact e3
          · exact e4
          · exact e5
        · exact (List.mem_cons.mp hw).elim (fun e => e ▸ y2) id) rfl rfl rfl ⟨e1, y4.1, y4.2, y5⟩ ⟨by show d + 1 ≤ R.frames; omega, by show 8 + (_ + 11) + (40 * d + 40) ≤ R.locals; omega⟩) ⟨sPc_blind, va_recv hKK hP e0 (wl_get hbY), fun U hU hW => ⟨rfl, by rw [hU], by rw [hU]; exact hP, va_K.moved hW.alike hKK, hD.weaken (fun _ _ _ _ => trivial), fun w hw => NW_warm hW w hw (hN w hw)⟩⟩ rfl (by rw [List.length_map]; exact h9) hl.1 (take_revV ad hdrop) h8.1 hdg ⟨Nat.zero_le _, Nat.zero_le _⟩
    · rename_i h5
      rw [h5] at hE
      obtain ⟨hna, h⟩ := wb _ _ _ h
      rw [← hna] at hdrop
      obtain ⟨htk, hdp⟩ := drop_take hdrop
      obtain ⟨hy, C, T, N, e0, e1, e2, e3, e4, e5, e6, e7⟩ := hE
      refine wcall_go hy h hY hws hD hS hA (fun Q' hM h8 => ?_) go3
      obtain ⟨y1, y2, y3, y4, y5, -⟩ := hy
      rw [htk] at hM ⊢
      have h9 : ((st.take ce.2.2.2.2.1).reverse).length = ce.2.2.2.2.1 := by
        have := h8.2.1
        rw [htk] at this
        simp only [List.map_cons, List.length_cons, List.length_map] at this
        omega
      have y5' : (parseMethodDescriptor ce.2.2.2.2.2.1.desc).map (fun d => d.parameters.length) = some ce.2.2.2.2.1 := by
        rw [e1] at y5
        exact y5
      exact va_runU hfix hM (va_cwU _ hts (goodALL fun w hw => by
        rcases List.mem_append.mp hw with hw | hw
        · simp only [List.mem_cons, List.not_mem_nil, or_false] at hw
          rcases hw with rfl | rfl | rfl | rfl | rfl
          · exact e2
          · exact e3
          · exact e4
          · exact e5
          · exact e6
        · exact (List.mem_cons.mp hw).elim (fun e => e ▸ y2) id) rfl rfl rfl e1 ⟨e7.1, e7.2, y5'⟩ ⟨by show d + 1 ≤ R.frames; omega, by show 8 + (_ + 11) + (40 * d + 40) ≤ R.locals; omega⟩) ⟨sPc_blind, va_recv hKK hP e0 (wl_get hbY), fun U hU hW => ⟨rfl, by rw [hU], by rw [hU]; exact hP, va_K.moved hW.alike hKK, hD.weaken (fun _ _ _ _ => trivial), fun w hw => NW_warm hW w hw (hN w hw)⟩⟩ rfl (by rw [List.length_map]; exact h9) hl.1 (take_revV ad hdrop) h8.1 hdg ⟨Nat.zero_le _, Nat.zero_le _⟩
    · rename_i h5
      rw [h5] at hE
      obtain ⟨hna, h⟩ := wb _ _ _ h
      rw [← hna] at hdrop
      obtain ⟨htk, hdp⟩ := drop_take hdrop
      obtain ⟨hy, C, T, N, e0, e2, e3, e4, e5, e6, e7, e8, y5'⟩ := hE
      refine wcall_go hy h hY hws hD hS hA (fun Q' hM h8 => ?_) go3
      obtain ⟨y1, y2, y3, y4, y5, -⟩ := hy
      rw [htk] at hM ⊢
      have h9 : ((st.take ce.2.2.2.2.1).reverse).length = ce.2.2.2.2.1 := by
        have := h8.2.1
        rw [htk] at this
        simp only [List.map_cons, List.length_cons, List.length_map] at this
        omega
      exact va_runU hfix hM (va_cwA _ hts (goodALL fun w hw => by
        rcases List.mem_append.mp hw with hw | hw
        · simp only [List.mem_cons, List.not_mem_nil, or_false] at hw
          rcases hw with rfl | rfl | rfl | rfl | rfl
          · exact e2
          · exact e3
          · exact e4
          · exact e5
          · exact e6
        · exact (List.mem_cons.mp hw).elim (fun e => e ▸ y2) id) rfl rfl rfl (hN _ e8) ⟨e7.1, e7.2, y5'⟩ ⟨by show d + 1 ≤ R.frames; omega, by show 8 + (_ + 11) + (40 * d + 40) ≤ R.locals; omega⟩) ⟨sPc_blind, va_recv hKK hP e0 (wl_get hbY), fun U hU hW => ⟨rfl, by rw [hU], by rw [hU]; exact hP, va_K.moved hW.alike hKK, hD.weaken (fun _ _ _ _ => trivial), fun w hw => NW_warm hW w hw (hN w hw)⟩⟩ rfl (by rw [List.length_map]; exact h9) hl.1 (take_revV ad hdrop) h8.1 hdg ⟨Nat.zero_le _, Nat.zero_le _⟩
    · exact h.elim
  | _ => exact False.elim h
