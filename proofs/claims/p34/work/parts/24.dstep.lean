/-! dm: one step -/
section DCALL
variable {p : Program} {l : Launch} {en : Env} {R : Room} {s : State} {m : MethodId} {args : Array Value} {below : List Frame} {meth : Method} {c : Code} {H : Heap} {locs : List Loc} {Qf : State → Prop} {cells slots u1 : Nat}
variable {B : dB} {D : va_G} {K : dK} {ax : Nat → Nat} {A : Nat → Prop} {σ : sS} {μ : dW} {ws : va_W} {lsA : Array Slot} {pc : Nat} {st0 rest : List Value} {Q' : dQ} {as' : Array Value}
theorem dcall_go (hr : va_Run p l en R s m args below meth c H locs cells slots u1 u1 (F0 m pc lsA st0) rest (dQc D K ax (va_A (wG K ax σ ++ ws) H.size) Q' as') (va_A (wG K ax σ ++ ws) H.size)) (hS : va_S A s.heap H locs) (hD : va_D A (wG K ax σ ++ ws)) (hA : ∀ q : Nat, s.heap.size ≤ q → A q)
    (kk : ∀ (r : Option Value) (σ' : sS) (μ' : dW) (ws' : va_W) (H1 : Heap) (locs1 : List Loc), Q' r σ' μ' → dP D K ax σ' ws' μ' A H1 → va_S A s.heap H1 locs1 → W p l en R s m args below meth c H1 locs1 (cells + u1) (slots + u1) Qf (F0 m (pc + 3) lsA (r.toList ++ rest))) : W p l en R s m args below meth c H locs cells slots Qf (F0 m pc lsA st0) := by
  have hsub : ∀ q, va_A (wG K ax σ ++ ws) H.size q → A q := by
    intro q hq
    rcases hq with ⟨k, en, hk⟩ | hq
    · exact hD.2 k _ hk
    · exact hA q (Nat.le_trans hS.1 hq)
  intro T hT X
  obtain ⟨v, st₀, t, T', L, h0, X', hL, e1, e2, ⟨⟨r, σ', μ', ws', hv, hq, hp⟩, hz, hk⟩, stp⟩ := hr T hT X
  cases hv
  rw [h0] at hz hk
  obtain ⟨t2, a1, b1⟩ := kk v σ' μ' ws' T'.heap (locs ++ L) hq (by rw [e1]; exact ⟨hp.1, hp.2.1, hp.2.2.weaken (fun k q _ h => hsub q.1 h)⟩)
    ⟨Nat.le_trans hS.1 (by rw [e1]; exact hz), fun q h1 h2 => by rw [e1, hk q (Nat.lt_of_lt_of_le h1 hS.1) (fun z => h2 (hsub q z))]; exact hS.2.1 q h1 h2, fun q hq => by
      rcases List.mem_append.mp hq with h | h
      · exact hS.2.2 q h
      · exact hsub _ (hL q h)⟩ T' rfl X'
  exact ⟨t2, stp t2 a1, b1⟩
end DCALL
theorem takeV {st : List Value} {t : Nat} : st = (st.take t).reverse.reverse ++ st.drop t := by rw [List.reverse_reverse, List.take_append_drop]
theorem c1s_take : ∀ {st : List Value} (t : Nat), c1s st = true → c1s (st.take t) = true ∧ c1s (st.drop t) = true
  | [], t, _ => by simp [c1s]
  | v :: r, 0, h => ⟨by simp [c1s], h⟩
  | v :: r, t + 1, h => by
    simp only [c1s, Bool.and_eq_true] at h
    obtain ⟨e1, e2⟩ := c1s_take t h.2
    exact ⟨by simp [c1s, h.1, e1], by simpa using e2⟩
theorem c1s_app : ∀ {a b : List Value}, c1s a = true → c1s b = true → c1s (a ++ b) = true
  | [], b, _, h => h
  | v :: r, b, h, hb => by
    simp only [c1s, Bool.and_eq_true] at h
    simp only [List.cons_append, c1s, h.1, c1s_app h.2 hb, Bool.and_self]
theorem c1s_rev : ∀ {a : List Value}, c1s a = true → c1s a.reverse = true
  | [], _ => rfl
  | v :: r, h => by
    simp only [c1s, Bool.and_eq_true] at h
    rw [List.reverse_cons]
    exact c1s_app (c1s_rev h.2) (by simp [c1s, h.1])
theorem toI_cv (ad : Nat → Nat) : ∀ {a : List Value}, allI a = true → (toI a).map (cv ad) = a
  | [], _ => rfl
  | v :: r, h => by
    simp only [allI, Bool.and_eq_true] at h
    have hr := toI_cv ad h.2
    cases v with
    | int x => simp only [toI, List.map_cons, hr]; rfl
    | _ => exact absurd h.1 (by simp)
theorem allI_app : ∀ {a b : List Value}, allI a = true → allI b = true → allI (a ++ b) = true
  | [], b, _, h => h
  | v :: r, b, h, hb => by
    simp only [allI, Bool.and_eq_true] at h
    simp only [List.cons_append, allI, h.1, allI_app h.2 hb, Bool.and_self]
theorem allI_rev : ∀ {a : List Value}, allI a = true → allI a.reverse = true
  | [], _ => rfl
  | v :: r, h => by
    simp only [allI, Bool.and_eq_true] at h
    rw [List.reverse_cons]
    exact allI_app (allI_rev h.2) (by simp [allI, h.1])
theorem toI_len : ∀ a : List Value, (toI a).length = a.length
  | [] => rfl
  | _ :: r => by simp [toI, toI_len r]
theorem toI_wt (Y : List kd) : ∀ a : List Value, wtS Y (toI a)
  | [] => fun v hv => by cases hv
  | v :: r => by
    refine wtS_cons ?_ (toI_wt Y r)
    cases v <;> exact trivial
theorem toI_sum : ∀ a : List Value, wsum (toI a) = a.length
  | [] => rfl
  | v :: r => by
    have := toI_sum r
    cases v <;> (simp only [toI, wsum, List.length_cons, this, cat2]; simp; omega)
theorem split_ref {st r : List Value} {n a : Nat} (hdr : st.drop n = .ref a :: r) : st = (st.take n).reverse.reverse ++ .ref a :: st.drop (n + 1) ∧ (st.take (n + 1)).reverse = .ref a :: (st.take n).reverse := by
  refine ⟨?_, ?_⟩
  · rw [List.reverse_reverse]
    have e9 : st.drop (n + 1) = r := by
      have : st.drop (n + 1) = (st.drop n).drop 1 := by rw [List.drop_drop]
      rw [this, hdr]
      rfl
    rw [e9, ← hdr, List.take_append_drop]
  · have h0 : st[n]? = some (.ref a) := by
      have : (st.drop n)[0]? = some (.ref a) := by rw [hdr]; rfl
      rw [List.getElem?_drop] at this
      simpa using this
    rw [List.take_add_one, h0]
    simp
section DGO
variable {p : Program} {l : Launch} {en : Env} {R : Room} {s : State} {m : MethodId} {args : Array Value} {below : List Frame} {meth : Method} {c : Code} {H : Heap} {locs : List Loc} {Qf : State → Prop} {cells slots mc ms : Nat}
variable {B : dB} {D : va_G} {K : dK} {ax : Nat → Nat} {A : Nat → Prop} {σ : sS} {μ : dW} {ws : va_W} {lsA : Array Slot} {pc d u t rk : Nat} {st : List Value} {y y0 : sY} {KK : List Value → Nat → sS → dW → Prop}
theorem dgo_go (h : dgo B ax d u y t rk st σ μ KK) (hy : plainName y.1.cls = true) (hCx : dCx B (d + 1) y0 D K A p R s m args meth c) (hP : dP D K ax σ ws μ A H) (hS : va_S A s.heap H locs) (h1 : cells + u ≤ mc) (h2 : slots + u ≤ ms) (h3 : mc ≤ R.cells) (h4 : ms ≤ R.slots)
    (run : ∀ (u1 : Nat) (Q' : dQ), cells + u1 ≤ R.cells ∧ slots + u1 ≤ R.slots → Met l y.1 (wsY y) (rmU d u1) (dPc B D K ax σ ws μ (st.take t).reverse H.size) (dQc D K ax (va_A (wG K ax σ ++ ws) H.size) Q') u1 u1 (va_A (wG K ax σ ++ ws) H.size) →
      (2 * (F0 m pc lsA st).monitorRoom + ((st.drop t).map fun v => v.category).sum ≤ 8 ∧ (st.take t).reverse.length = t ∧ t ≤ st.length) →
      (∀ U : State, U.heap = H → s.WarmedH U.vm → dPc B D K ax σ ws μ (st.take t).reverse H.size (st.take t).reverse.toArray U) →
      va_Run p l en R s m args below meth c H locs cells slots u1 u1 (F0 m pc lsA st) (st.drop t) (dQc D K ax (va_A (wG K ax σ ++ ws) H.size) Q' (st.take t).reverse.toArray) (va_A (wG K ax σ ++ ws) H.size))
    (go3 : ∀ (st' : List Value) (u' : Nat) (σ' : sS) (μ' : dW), KK st' u' σ' μ' → ∀ (H1 : Heap) (locs1 : List Loc) (ws1 : va_W) (cells1 slots1 : Nat), dP D K ax σ' ws1 μ' A H1 → va_S A s.heap H1 locs1 → cells1 + u' ≤ mc → slots1 + u' ≤ ms → W p l en R s m args below meth c H1 locs1 cells1 slots1 Qf (F0 m (pc + 3) lsA st')) :
    W p l en R s m args below meth c H locs cells slots Qf (F0 m pc lsA st) := by
  obtain ⟨hx, hb, hml, hown, hr, hlk, hts, hN, hN2, hcs, ho1, ho2, hKK, hfr, hlo, hA, hb1, hb2, hnm⟩ := hCx
  unfold dgo at h
  obtain ⟨hc, u1, hu1, hcj⟩ := condT h
  simp only [Bool.and_eq_true] at hc
  have g1 := Nat.le_of_ble_eq_true hc.1
  have g3 := Nat.le_of_ble_eq_true hc.2.2.1
  have g4 := Nat.le_of_ble_eq_true hc.2.2.2
  rw [lenV_eq] at g1 g3
  obtain ⟨k1, k2⟩ := c1s_take t hc.2.1
  have hlen : (st.take t).reverse.length = t := by rw [List.length_reverse, List.length_take]; omega
  have hM := met_ofD hcj hy (c1s_rev k1) (by rw [hlen]; exact g4) l D K ws H.size
  have hsub : ∀ q, va_A (wG K ax σ ++ ws) H.size q → A q := by
    intro q hq
    rcases hq with ⟨k, en, hk⟩ | hq
    · exact hP.2.2.2 k _ hk
    · exact hA q (Nat.le_trans hS.1 hq)
  have hbl : B.1 < s.heap.size := by obtain ⟨scr, h1, -⟩ := hb2; exact (Array.getElem?_eq_some_iff.mp h1).1
  have hpre : ∀ U : State, U.heap = H → s.WarmedH U.vm → dPc B D K ax σ ws μ (st.take t).reverse H.size (st.take t).reverse.toArray U := fun U hU hW =>
    ⟨rfl, by rw [hU], ⟨hP.1, by rw [hU]; exact hP.2.1, hP.2.2.weaken (fun _ _ _ _ => trivial)⟩, va_K.moved hW.alike hKK, fun w hw => NW_warm hW w hw (hN w hw), fun w hw => NW2_warm hW w hw (hN2 w hw), va_Nw.warmC hW hcs, va_AO.moved hW.alike ho1, va_AO.moved hW.alike ho2, fun z => hb1 (hsub _ z), by rw [hU]; exact (hb2.moved hW.alike).kept (hS.2.1 _ hbl hb1)⟩
  have hrun := run u1 _ ⟨by omega, by omega⟩ hM ⟨lv_room (by rw [c1s_sum k2]; exact g3), hlen, g1⟩ hpre
  refine dcall_go hrun hS hP.2.2 hA (fun r σ' μ' ws' H1 locs1 hq hP1 hS1 => ?_)
  exact go3 _ _ _ _ (dret_out hq) H1 locs1 ws' _ _ hP1 hS1 (by omega) (by omega)
end DGO
set_option maxHeartbeats 4000000 in
set_option maxRecDepth 100000 in
theorem wp1D_ok {B : dB} {ax : Nat → Nat} {d u : Nat} {y : sY} {ft : List dF} {ct : List dCl} {ini : Bool} (hini : ini = true → y.1.name = "<init>") (hF : ∀ q ∈ ft, dFOK y.1.cls q) (hC : ∀ q ∈ ct, dCOK y.1.cls q) {e : sT} (hT : dTok y.1.cls y.2.1 e) {ls : dL} {st : List Value} {σ : sS} {μ : dW} {KK : Nat → dL → List Value → Nat → sS → dW → Prop} {Q : dQ}
    (h : wp1D B ax d u ini y.2.2.1 y.2.2.2 ft ct e ls st σ μ KK Q) (hK : ∀ pc ls st u σ μ, KK pc ls st u σ μ → DJ B ax d u y pc ls st σ μ Q) : DJ B ax d u y e.1 ls st σ μ Q := by
  intro l D K A p en R s m args below meth c hCx H locs lsA ws cells slots mc ms hP hS hl hu1 hu2 hu3 hu4
  obtain ⟨hx, hb, hml, hown, hr, hlk, hts, hN, hN2, hcs, ho1, ho2, hKK, hfr, hlo, hA, hb1, hb2, hnm⟩ := id hCx
  have go : ∀ (pc : Nat) (ls : dL) (st : List Value) (u : Nat) (σ : sS) (μ : dW), KK pc ls st u σ μ → ∀ (H : Heap) (locs : List Loc) (lsA : Array Slot) (ws : va_W) (cells slots : Nat), dP D K ax σ ws μ A H → va_S A s.heap H locs → lv_has lsA y.2.2.1 ls → cells + u ≤ mc → slots + u ≤ ms → W p l en R s m args below meth c H locs cells slots (MQ below (dQc D K ax A Q) args s mc ms A) (F0 m pc lsA st) := fun pc ls st u σ μ hk H locs lsA ws cells slots a1 a2 a3 a4 a5 => hK pc ls st u σ μ hk l D K A p en R s m args below meth c hCx H locs lsA ws cells slots mc ms a1 a2 a3 a4 a5 hu3 hu4
  have hbl : B.1 < s.heap.size := by obtain ⟨scr, h1, -⟩ := hb2; exact (Array.getElem?_eq_some_iff.mp h1).1
  have fin : ∀ (v : Option Value), Q v σ μ → ∀ t : State, t.heap = H → dQc D K ax A Q args s (.returned v) t := fun v hq t ht => ⟨⟨v, σ, μ, ws, rfl, hq, by rw [ht]; exact hP⟩, hS.F ht⟩
  obtain ⟨pc, len, i, tgt, cs, k1, k2⟩ := e
  obtain ⟨hdg, hside⟩ := hT
  have hlen1 : ∀ n : Nat, Nat.beq len n = true → len = n := fun n h => Nat.eq_of_beq_eq_true h
  cases i with
  | iconst n =>
    obtain ⟨hk1, hln⟩ := Bool.and_eq_true_iff.mp hside
    have hln := hlen1 1 hln
    subst hln
    have hk1 := of_decide_eq_true hk1
    exact lv_iconst hx hb hdg hk1 (go _ _ _ _ _ _ h H locs lsA ws cells slots hP hS hl hu1 hu2)
  | bipush n =>
    obtain ⟨hk1, hln⟩ := Bool.and_eq_true_iff.mp hside
    have hln := hlen1 2 hln
    subst hln
    have hk1 := of_decide_eq_true hk1
    exact lv_bipush hx hb hdg hk1 (go _ _ _ _ _ _ h H locs lsA ws cells slots hP hS hl hu1 hu2)
  | sipush n =>
    obtain ⟨hk1, hln⟩ := Bool.and_eq_true_iff.mp hside
    have hln := hlen1 3 hln
    subst hln
    have hk1 := of_decide_eq_true hk1
    exact lv_sipush hx hb hdg hk1 (go _ _ _ _ _ _ h H locs lsA ws cells slots hP hS hl hu1 hu2)
  | ldc i =>
    obtain ⟨hk1, hln⟩ := Bool.and_eq_true_iff.mp hside
    have hln := hlen1 2 hln
    subst hln
    have hk1 := of_decide_eq_true hk1
    exact lv_ldc hx hb hown (hts _ (CK_in _ hk1)) hdg (go _ _ _ _ _ _ h H locs lsA ws cells slots hP hS hl hu1 hu2)
  | aconst_null =>
    have hln := hlen1 1 hside
    subst hln
    exact lv_null hx hb hdg (go _ _ _ _ _ _ h H locs lsA ws cells slots hP hS hl hu1 hu2)
  | iload_n k =>
    have hln := hlen1 1 hside
    subst hln
    obtain ⟨x, hg, hk⟩ := vgI_inv h
    exact lv_iload_n hx hb hdg rfl (lv_gv hl hg) (go _ _ _ _ _ _ hk H locs lsA ws cells slots hP hS hl hu1 hu2)
  | iload k =>
    have hln := hlen1 2 hside
    subst hln
    obtain ⟨x, hg, hk⟩ := vgI_inv h
    exact lv_iload hx hb hdg (lv_gv hl hg) (go _ _ _ _ _ _ hk H locs lsA ws cells slots hP hS hl hu1 hu2)
  | aload_n k =>
    have hln := hlen1 1 hside
    subst hln
    obtain ⟨x, hg, hk⟩ := vgR_inv h
    exact lv_aload_n hx hb hdg rfl (lv_gv hl hg) (go _ _ _ _ _ _ hk H locs lsA ws cells slots hP hS hl hu1 hu2)
  | aload k =>
    have hln := hlen1 2 hside
    subst hln
    obtain ⟨x, hg, hk⟩ := vgR_inv h
    exact lv_aload hx hb hdg (lv_gv hl hg) (go _ _ _ _ _ _ hk H locs lsA ws cells slots hP hS hl hu1 hu2)
  | istore_n k =>
    have hln := hlen1 1 hside
    subst hln
    obtain ⟨x, r, rfl, hk⟩ := x1I_inv h
    replace hk := condT hk
    have hn : k.val < y.2.2.1 := Nat.le_of_ble_eq_true hk.1
    exact lv_istore_n hx hb hdg rfl hl hn rfl (fun ls2 hl2 => go _ _ _ _ _ _ hk.2 H locs ls2 ws cells slots hP hS (lv_has_mono hl2 sv1_mem) hu1 hu2)
  | istore k =>
    have hln := hlen1 2 hside
    subst hln
    obtain ⟨x, r, rfl, hk⟩ := x1I_inv h
    replace hk := condT hk
    have hn : k < y.2.2.1 := Nat.le_of_ble_eq_true hk.1
    exact lv_istore hx hb hdg hl hn rfl (fun ls2 hl2 => go _ _ _ _ _ _ hk.2 H locs ls2 ws cells slots hP hS (lv_has_mono hl2 sv1_mem) hu1 hu2)
  | astore_n k =>
    have hln := hlen1 1 hside
    subst hln
    obtain ⟨x, r, rfl, hk⟩ := x1R_inv h
    replace hk := condT hk
    have hn : k.val < y.2.2.1 := Nat.le_of_ble_eq_true hk.1
    exact lv_astore_n hx hb hdg rfl hl hn rfl (fun ls2 hl2 => go _ _ _ _ _ _ hk.2 H locs ls2 ws cells slots hP hS (lv_has_mono hl2 sv1_mem) hu1 hu2)
  | astore k =>
    have hln := hlen1 2 hside
    subst hln
    obtain ⟨x, r, rfl, hk⟩ := x1R_inv h
    replace hk := condT hk
    have hn : k < y.2.2.1 := Nat.le_of_ble_eq_true hk.1
    exact lv_astore hx hb hdg hl hn rfl (fun ls2 hl2 => go _ _ _ _ _ _ hk.2 H locs ls2 ws cells slots hP hS (lv_has_mono hl2 sv1_mem) hu1 hu2)
  | iinc i n =>
    obtain ⟨hk1, hln⟩ := Bool.and_eq_true_iff.mp hside
    have hln := hlen1 3 hln
    subst hln
    have hk1 := of_decide_eq_true hk1
    obtain ⟨x, hg, hk⟩ := vgI_inv h
    replace hk := condT hk
    have hn : i < y.2.2.1 := Nat.le_of_ble_eq_true hk.1
    obtain ⟨j, hj⟩ := List.getElem?_of_mem (gv_mem ls i _ hg)
    exact lv_iinc (k := j) (x := x) (v := x + k1) hx hb hdg hl hj (by rw [hk1]) hn rfl (fun ls2 hl2 => go _ _ _ _ _ _ hk.2 H locs ls2 ws cells slots hP hS (lv_has_mono hl2 sv1_mem) hu1 hu2)
  | iadd =>
    have hln := hlen1 1 hside
    subst hln
    obtain ⟨x, z, r, rfl, hk⟩ := x2I_inv h
    exact lv_iadd hx hb hdg (go _ _ _ _ _ _ hk H locs lsA ws cells slots hP hS hl hu1 hu2)
  | isub =>
    have hln := hlen1 1 hside
    subst hln
    obtain ⟨x, z, r, rfl, hk⟩ := x2I_inv h
    exact lv_isub hx hb hdg (go _ _ _ _ _ _ hk H locs lsA ws cells slots hP hS hl hu1 hu2)
  | imul =>
    have hln := hlen1 1 hside
    subst hln
    obtain ⟨x, z, r, rfl, hk⟩ := x2I_inv h
    exact lv_imul hx hb hdg (go _ _ _ _ _ _ hk H locs lsA ws cells slots hP hS hl hu1 hu2)
  | iand =>
    have hln := hlen1 1 hside
    subst hln
    obtain ⟨x, z, r, rfl, hk⟩ := x2I_inv h
    exact lv_iand hx hb hdg (go _ _ _ _ _ _ hk H locs lsA ws cells slots hP hS hl hu1 hu2)
  | ishr =>
    have hln := hlen1 1 hside
    subst hln
    obtain ⟨x, z, r, rfl, hk⟩ := x2I_inv h
    exact lv_ishr hx hb hdg (go _ _ _ _ _ _ hk H locs lsA ws cells slots hP hS hl hu1 hu2)
  | idiv =>
    have hln := hlen1 1 hside
    subst hln
    obtain ⟨x, z, r, rfl, hk⟩ := x2I_inv h
    exact lv_idiv hx hb hdg hk.1 (go _ _ _ _ _ _ hk.2 H locs lsA ws cells slots hP hS hl hu1 hu2)
  | irem =>
    have hln := hlen1 1 hside
    subst hln
    obtain ⟨x, z, r, rfl, hk⟩ := x2I_inv h
    exact lv_irem hx hb hdg hk.1 (go _ _ _ _ _ _ hk.2 H locs lsA ws cells slots hP hS hl hu1 hu2)
  | dup =>
    have hln := hlen1 1 hside
    subst hln
    match st, h with
    | v :: r, h =>
      obtain ⟨hv, h⟩ := condT h
      exact lv_dup hx hb hdg (c1_cat hv) (go _ _ _ _ _ _ h H locs lsA ws cells slots hP hS hl hu1 hu2)
    | [], h => exact False.elim h
  | pop =>
    have hln := hlen1 1 hside
    subst hln
    match st, h with
    | v :: r, h =>
      obtain ⟨hv, h⟩ := condT h
      exact lv_pop hx hb hdg (c1_cat hv) (go _ _ _ _ _ _ h H locs lsA ws cells slots hP hS hl hu1 hu2)
    | [], h => exact False.elim h
  | goto o =>
    obtain ⟨hk1, hln⟩ := Bool.and_eq_true_iff.mp hside
    have hln := hlen1 3 hln
    subst hln
    have hk1 := of_decide_eq_true hk1
    exact lv_goto hx hb hdg hk1 (go _ _ _ _ _ _ h H locs lsA ws cells slots hP hS hl hu1 hu2)
  | ifnonnull o =>
    obtain ⟨hk1, hln⟩ := Bool.and_eq_true_iff.mp hside
    have hln := hlen1 3 hln
    subst hln
    have hk1 := of_decide_eq_true hk1
    obtain ⟨v, r, rfl, hk⟩ := x1V_inv h
    obtain ⟨g1, g2, g3⟩ := hk
    rcases g3 with rfl | ⟨a, rfl⟩
    · exact lv_ifnonnullN hx hb hdg (go _ _ _ _ _ _ (g1 rfl) H locs lsA ws cells slots hP hS hl hu1 hu2)
    · exact lv_ifnonnull hx hb hdg hk1 (go _ _ _ _ _ _ (g2 a rfl) H locs lsA ws cells slots hP hS hl hu1 hu2)
  | if_icmp cnd o =>
    obtain ⟨hk1, hln⟩ := Bool.and_eq_true_iff.mp hside
    have hln := hlen1 3 hln
    subst hln
    have hk1 := of_decide_eq_true hk1
    cases cnd with
    | eq =>
      obtain ⟨x, z, r, rfl, hk⟩ := x2I_inv h
      exact lv_icmp_eq hx hb hdg hk1 (fun z => (go _ _ _ _ _ _ (hk.1 z) H locs lsA ws cells slots hP hS hl hu1 hu2)) (fun z => (go _ _ _ _ _ _ (hk.2 z) H locs lsA ws cells slots hP hS hl hu1 hu2))
    | ne =>
      obtain ⟨x, z, r, rfl, hk⟩ := x2I_inv h
      exact lv_icmp_ne hx hb hdg hk1 (fun z => (go _ _ _ _ _ _ (hk.1 z) H locs lsA ws cells slots hP hS hl hu1 hu2)) (fun z => (go _ _ _ _ _ _ (hk.2 z) H locs lsA ws cells slots hP hS hl hu1 hu2))
    | lt =>
      obtain ⟨x, z, r, rfl, hk⟩ := x2I_inv h
      exact lv_icmp_lt hx hb hdg hk1 (fun z => (go _ _ _ _ _ _ (hk.1 z) H locs lsA ws cells slots hP hS hl hu1 hu2)) (fun z => (go _ _ _ _ _ _ (hk.2 z) H locs lsA ws cells slots hP hS hl hu1 hu2))
    | ge =>
      obtain ⟨x, z, r, rfl, hk⟩ := x2I_inv h
      exact lv_icmp_ge hx hb hdg hk1 (fun z => (go _ _ _ _ _ _ (hk.1 (i32_ge z)) H locs lsA ws cells slots hP hS hl hu1 hu2)) (fun z => (go _ _ _ _ _ _ (hk.2 (i32_nge z)) H locs lsA ws cells slots hP hS hl hu1 hu2))
    | gt =>
      obtain ⟨x, z, r, rfl, hk⟩ := x2I_inv h
      exact lv_icmp_gt hx hb hdg hk1 (fun z => (go _ _ _ _ _ _ (hk.1 z) H locs lsA ws cells slots hP hS hl hu1 hu2)) (fun z => (go _ _ _ _ _ _ (hk.2 z) H locs lsA ws cells slots hP hS hl hu1 hu2))
    | le =>
      obtain ⟨x, z, r, rfl, hk⟩ := x2I_inv h
      exact lv_icmp_le hx hb hdg hk1 (fun z => (go _ _ _ _ _ _ (hk.1 (i32_ge z)) H locs lsA ws cells slots hP hS hl hu1 hu2)) (fun z => (go _ _ _ _ _ _ (hk.2 (i32_nge z)) H locs lsA ws cells slots hP hS hl hu1 hu2))
  | ifCond cnd o =>
    obtain ⟨hk1, hln⟩ := Bool.and_eq_true_iff.mp hside
    have hln := hlen1 3 hln
    subst hln
    have hk1 := of_decide_eq_true hk1
    cases cnd with
    | eq =>
      obtain ⟨x, r, rfl, hk⟩ := x1I_inv h
      exact lv_if_eq hx hb hdg hk1 (fun z => (go _ _ _ _ _ _ (hk.1 z) H locs lsA ws cells slots hP hS hl hu1 hu2)) (fun z => (go _ _ _ _ _ _ (hk.2 z) H locs lsA ws cells slots hP hS hl hu1 hu2))
    | ne =>
      obtain ⟨x, r, rfl, hk⟩ := x1I_inv h
      exact lv_if_ne hx hb hdg hk1 (fun z => (go _ _ _ _ _ _ (hk.1 z) H locs lsA ws cells slots hP hS hl hu1 hu2)) (fun z => (go _ _ _ _ _ _ (hk.2 z) H locs lsA ws cells slots hP hS hl hu1 hu2))
    | lt =>
      obtain ⟨x, r, rfl, hk⟩ := x1I_inv h
      exact lv_if_lt hx hb hdg hk1 (fun z => (go _ _ _ _ _ _ (hk.1 z) H locs lsA ws cells slots hP hS hl hu1 hu2)) (fun z => (go _ _ _ _ _ _ (hk.2 z) H locs lsA ws cells slots hP hS hl hu1 hu2))
    | ge =>
      obtain ⟨x, r, rfl, hk⟩ := x1I_inv h
      exact lv_if_ge hx hb hdg hk1 (fun z => (go _ _ _ _ _ _ (hk.1 (i32_ge z)) H locs lsA ws cells slots hP hS hl hu1 hu2)) (fun z => (go _ _ _ _ _ _ (hk.2 (i32_nge z)) H locs lsA ws cells slots hP hS hl hu1 hu2))
    | gt =>
      obtain ⟨x, r, rfl, hk⟩ := x1I_inv h
      exact lv_if_gt hx hb hdg hk1 (fun z => (go _ _ _ _ _ _ (hk.1 z) H locs lsA ws cells slots hP hS hl hu1 hu2)) (fun z => (go _ _ _ _ _ _ (hk.2 z) H locs lsA ws cells slots hP hS hl hu1 hu2))
    | le =>
      obtain ⟨x, r, rfl, hk⟩ := x1I_inv h
      exact lv_if_le hx hb hdg hk1 (fun z => (go _ _ _ _ _ _ (hk.1 (i32_ge z)) H locs lsA ws cells slots hP hS hl hu1 hu2)) (fun z => (go _ _ _ _ _ _ (hk.2 (i32_nge z)) H locs lsA ws cells slots hP hS hl hu1 hu2))
  | arraylength =>
    have hln := hlen1 1 hside
    subst hln
    obtain ⟨a, r, rfl, hk⟩ := x1R_inv h
    replace hk : (match (generalizing := false) tgt with
      | 0 => lA μ a (fun x => KK (pc + 1) ls (.int x :: r) u σ μ)
      | 1 => a = B.1 ∧ KK (pc + 1) ls (.int (nI B.2.1) :: r) u σ μ
      | _ => lR μ a (fun x => KK (pc + 1) ls (.int x :: r) u σ μ)) := hk
    split at hk
    · obtain ⟨k, n, g, hm, hk1, hk⟩ := hk
      obtain ⟨j, hj⟩ := dP_at hP hm
      rcases (show k = 0 ∨ k = 1 by omega) with rfl | rfl
      · exact va_alen hx hb hKK hP.2.1 _ 0 hj rfl rfl hdg (go _ _ _ _ _ _ hk H locs lsA ws cells slots hP hS hl hu1 hu2)
      · exact va_alen hx hb hKK hP.2.1 _ 1 hj rfl rfl hdg (go _ _ _ _ _ _ hk H locs lsA ws cells slots hP hS hl hu1 hu2)
    · obtain ⟨rfl, hk⟩ := hk
      exact va_slen hx hb hb2 hbl hb1 hS hdg (go _ _ _ _ _ _ hk H locs lsA ws cells slots hP hS hl hu1 hu2)
    · obtain ⟨k, n, g, hm, hk1, hk⟩ := hk
      obtain ⟨j, hj⟩ := dP_at hP hm
      rcases (show k = 0 ∨ k = 1 by omega) with rfl | rfl
      · exact va_alen hx hb hKK hP.2.1 _ 2 hj rfl rfl hdg (go _ _ _ _ _ _ hk H locs lsA ws cells slots hP hS hl hu1 hu2)
      · exact va_alen hx hb hKK hP.2.1 _ 3 hj rfl rfl hdg (go _ _ _ _ _ _ hk H locs lsA ws cells slots hP hS hl hu1 hu2)
  | iaload =>
    have hln := hlen1 1 hside
    subst hln
    obtain ⟨i, a, r, rfl, hk⟩ := xIR_inv h
    replace hk : (match (generalizing := false) tgt with
      | 0 => rdA μ 0 a i (fun x => KK (pc + 1) ls (.int x :: r) u σ μ)
      | _ => a = B.1 ∧ vp_in i B.2.1 ∧ KK (pc + 1) ls (.int (B.2.2 i.toNatClampNeg) :: r) u σ μ) := hk
    split at hk
    · obtain ⟨n, g, hm, hin, hk⟩ := hk
      obtain ⟨j, hj⟩ := dP_at hP hm
      exact va_iald hx hb hKK hP.2.1 _ 0 hj rfl hin hdg (go _ _ _ _ _ _ hk H locs lsA ws cells slots hP hS hl hu1 hu2)
    · obtain ⟨rfl, hin, hk⟩ := hk
      exact va_sld hx hb hb2 hbl hb1 hS hin hdg (go _ _ _ _ _ _ hk H locs lsA ws cells slots hP hS hl hu1 hu2)
  | baload =>
    have hln := hlen1 1 hside
    subst hln
    obtain ⟨i, a, r, rfl, n, g, hm, hin, hk⟩ := xIR_inv h
    obtain ⟨j, hj⟩ := dP_at hP hm
    exact va_zald hx hb hKK hP.2.1 _ 1 hj rfl hin hdg (go _ _ _ _ _ _ hk H locs lsA ws cells slots hP hS hl hu1 hu2)
  | iastore =>
    have hln := hlen1 1 hside
    subst hln
    obtain ⟨x, i, a, r, rfl, n, g, hm, hin, hk⟩ := xIIR_inv h
    obtain ⟨j, hj⟩ := dP_at hP hm
    exact va_iast hx hb hKK hP.2.1 hP.2.2 hS _ 0 hj rfl hin hdg (fun H1 locs1 hP1 hD1 hS1 => go _ _ _ _ _ _ hk H1 locs1 lsA _ cells slots (dP_set hP hj hP1 hD1) hS1 hl hu1 hu2)
  | bastore =>
    have hln := hlen1 1 hside
    subst hln
    obtain ⟨x, i, a, r, rfl, hx01, n, g, hm, hin, hk⟩ := xIIR_inv h
    obtain ⟨j, hj⟩ := dP_at hP hm
    have e0 : vp_nar .boolean x = x := by rcases hx01 with rfl | rfl <;> decide
    refine va_zast hx hb hKK hP.2.1 hP.2.2 hS _ 1 hj rfl (x := x) hin hdg (fun H1 locs1 hP1 hD1 hS1 => ?_)
    rw [e0] at hP1 hD1
    exact go _ _ _ _ _ _ hk H1 locs1 lsA _ cells slots (dP_set hP hj hP1 hD1) hS1 hl hu1 hu2
  | aaload =>
    have hln := hlen1 1 hside
    subst hln
    obtain ⟨i, a, r, rfl, k, n, g, b, hm, hk1, hin, hgb, hk⟩ := xIR_inv h
    obtain ⟨j, hj⟩ := dP_at hP hm
    rcases (show k = 0 ∨ k = 1 by omega) with rfl | rfl
    · refine va_aldq (f := g) hx hb hKK hP.2.1 _ 2 hj rfl hin hdg ?_
      rw [hgb]
      exact go _ _ _ _ _ _ hk H locs lsA ws cells slots hP hS hl hu1 hu2
    · refine va_aldq (f := g) hx hb hKK hP.2.1 _ 3 hj rfl hin hdg ?_
      rw [hgb]
      exact go _ _ _ _ _ _ hk H locs lsA ws cells slots hP hS hl hu1 hu2
  | aastore =>
    have hln := hlen1 1 hside
    subst hln
    obtain ⟨v, i, a, r, rfl, k, n, g, fs, hm, hk1, hin, hv, hk⟩ := xRIR_inv h
    obtain ⟨j, hj⟩ := dP_at hP hm
    obtain ⟨j2, hj2⟩ := dP_at hP hv
    rcases (show k = 0 ∨ k = 1 by omega) with rfl | rfl
    · exact va_astq (r := (R7_, T7_, 4)) hx hb hKK hP.2.1 hP.2.2 hS _ 2 _ 7 hj rfl hj2 rfl hin hdg (fun H1 locs1 hP1 hD1 hS1 => go _ _ _ _ _ _ hk H1 locs1 lsA _ cells slots (dP_set hP hj hP1 hD1) hS1 hl hu1 hu2)
    · exact va_astq (r := (R8_, T8_, 6)) hx hb hKK hP.2.1 hP.2.2 hS _ 3 _ 8 hj rfl hj2 rfl hin hdg (fun H1 locs1 hP1 hD1 hS1 => go _ _ _ _ _ _ hk H1 locs1 lsA _ cells slots (dP_set hP hj hP1 hD1) hS1 hl hu1 hu2)
  | getfield idx =>
    have hln := hlen1 3 hside
    subst hln
    obtain ⟨a, r, rfl, hk⟩ := x1R_inv h
    have main : ∀ (ci k sort fin : Nat) (fs : List Value) (v : Value), dff idx ft = some (ci, k, sort, fin) → μ a = some (eO ci fs) → fs[k]? = some v → KK (pc + 3) ls (v :: r) u σ μ → W p l en R s m args below meth c H locs cells slots (MQ below (dQc D K ax A Q) args s mc ms A) (F0 m pc lsA (.ref a :: r)) := by
      intro ci k sort fin fs v hfi hm hv hkk
      obtain ⟨C, T, N, ⟨q1, q2, q3, ty0, q4⟩, q5, q6, -⟩ := hF _ (dff_mem hfi)
      obtain ⟨j, hj⟩ := dP_at hP hm
      exact va_get (D := D) hx hb hts q2 hown hKK hP.2.1 _ hj q1 k q5 (hts _ q6) (fun _ h9 => h9) hv hdg (go _ _ _ _ _ _ hkk H locs lsA ws cells slots hP hS hl hu1 hu2)
    split at hk
    · rename_i ci k fin hfi
      obtain ⟨fs, x, hm, hv, hk⟩ := hk
      exact main _ _ _ _ _ _ hfi hm hv hk
    · rename_i ci k fin hfi
      obtain ⟨fs, x, hm, hv, hk⟩ := hk
      exact main _ _ _ _ _ _ hfi hm hv hk
    · exact hk.elim
  | putfield idx =>
    have hln := hlen1 3 hside
    subst hln
    have main : ∀ (a ci k sort fin : Nat) (fs r : List Value) (v : Value) (ty : FieldType), dff idx ft = some (ci, k, sort, fin) → (Nat.beq fin 0 || (ini && Nat.beq fin 1)) = true → μ a = some (eO ci fs) → k < fs.length → (∀ (C : String) (T : u_T) (N : Nat), cOK ci C T N → parseFieldDescriptor (T k).2.2.1 = some ty) → narrow ty v = v → fits ty v = true → KK (pc + 3) ls r u σ (dset μ a (eO ci (fs.set k v))) → W p l en R s m args below meth c H locs cells slots (MQ below (dQc D K ax A Q) args s mc ms A) (F0 m pc lsA (v :: .ref a :: r)) := by
      intro a ci k sort fin fs r v ty hfi hfin hm hlt hty hn hf hkk
      obtain ⟨C, T, N, ⟨q1, q2, q3, ty0, q4⟩, q5, q6, -, -, q7, q8⟩ := hF _ (dff_mem hfi)
      have hd := hty C T N ⟨q1, q2, q3, ty0, q4⟩
      obtain ⟨j, hj⟩ := dP_at hP hm
      by_cases z : fin = 0
      · exact va_put (D := D) hx hb hts q2 ty0 q4 q3 hown hKK hP.2.1 hP.2.2 hS _ hj q1 k q5 (hts _ q6) (fun _ h9 => h9) (q7 z) hd hn hf hlt hdg (fun H1 locs1 hP1 hD1 hS1 => go _ _ _ _ _ _ hkk H1 locs1 lsA _ cells slots (dP_set (e := eO ci (fs.set k v)) hP hj hP1 hD1) hS1 hl hu1 hu2)
      · have hw : ini = true ∧ fin = 1 := by
          rcases Bool.or_eq_true_iff.mp hfin with w | w
          · exact absurd (Nat.eq_of_beq_eq_true w) z
          · exact ⟨(Bool.and_eq_true_iff.mp w).1, Nat.eq_of_beq_eq_true (Bool.and_eq_true_iff.mp w).2⟩
        have hi := hw.1
        have z := hw.2
        exact va_putF (D := D) hx hb hts q2 ty0 q4 q3 hown hKK hP.2.1 hP.2.2 hS _ hj q1 k q5 (hts _ q6) (fun _ h9 => h9) (q8 z).1 (hnm.trans (hini hi)) (q8 z).2 hd hn hf hlt hdg (fun H1 locs1 hP1 hD1 hS1 => go _ _ _ _ _ _ hkk H1 locs1 lsA _ cells slots (dP_set (e := eO ci (fs.set k v)) hP hj hP1 hD1) hS1 hl hu1 hu2)
    have uniq : ∀ (ci : Nat) (C C' : String) (T T' : u_T) (N N' : Nat), cOK ci C T N → cOK ci C' T' N' → T = T' := fun ci C C' T T' N N' h1 h2 => by
      have := Option.some.inj (h1.1.symm.trans h2.1)
      cases this
      rfl
    replace h : (match (generalizing := false) dff idx ft with
      | some (ci, k, 0, fin) => xIR st (fun x a r => cond (Nat.beq fin 0 || (ini && Nat.beq fin 1)) (pF μ a ci k (.int x) (fun μ' => KK (pc + 3) ls r u σ μ')) False)
      | some (ci, k, 1, fin) => xRR st (fun b a r => cond (Nat.beq fin 0 || (ini && Nat.beq fin 1)) (pF μ a ci k (.ref b) (fun μ' => KK (pc + 3) ls r u σ μ')) False)
      | _ => False) := h
    split at h
    · rename_i ci k fin hfi
      obtain ⟨x, a, r, rfl, hk⟩ := xIR_inv h
      obtain ⟨hf, fs, hm, hlt, hk⟩ := condT hk
      refine main _ _ _ _ _ _ _ _ .int hfi hf hm hlt (fun C T N hc => ?_) rfl rfl hk
      obtain ⟨C', T', N', g1, g2, g3, g4, -⟩ := hF _ (dff_mem hfi)
      rw [uniq _ _ _ _ _ _ _ hc g1]
      exact g4 rfl
    · rename_i ci k fin hfi
      obtain ⟨b, a, r, rfl, hk⟩ := xRR_inv h
      obtain ⟨hf, fs, hm, hlt, hk⟩ := condT hk
      obtain ⟨C', T', N', g1, g2, g3, -, g5, -⟩ := hF _ (dff_mem hfi)
      obtain ⟨ty, g6, g7⟩ := g5 rfl
      refine main _ _ _ _ _ _ _ _ ty hfi hf hm hlt (fun C T N hc => ?_) (g7 b).1 (g7 b).2 hk
      rw [uniq _ _ _ _ _ _ _ hc g1]
      exact g6
    · exact h.elim
  | new idx =>
    have hln := hlen1 3 hside
    subst hln
    replace h : (match (generalizing := false) dcf idx ct with
      | some (_, 20, _, _, _, ci) => nwO μ u ci (fun q μ' => KK (pc + 3) ls (.ref q :: st) (u - (dNf ci + 1)) σ μ')
      | _ => False) := h
    split at h
    · rename_i i1 y1 n1 n2 ci hcf
      obtain ⟨hmem, hidx⟩ := dcf_mem hcf
      have hE := hC _ hmem
      obtain ⟨C, T, N, ⟨q1, q2, q3, -⟩, hNN, ⟨ty, q4, q5⟩, e1, e2, e3⟩ := hE
      have hidx : i1 = idx := hidx
      subst hidx
      obtain ⟨hroom, hk⟩ := h
      have hNN : N = dNf ci := hNN
      subst hNN
      refine va_new (ci := ci) (fs := dfl ci) hx hb hts q2 ty q4 hown (hts _ e1) (hts _ e2) (hts _ e3) hKK hP.2.1 hP.2.2 hS hA q1 q5 (by omega) (by omega) hdg (fun q H1 hP1 hD1 hS1 => ?_)
      obtain ⟨hq, hP2⟩ := dP_push (e := eO ci (dfl ci)) hP hP1 hD1
      exact go _ _ _ _ _ _ (hk q hq) H1 locs lsA _ _ _ hP2 hS1 hl (by omega) (by omega)
    · exact h.elim
  | anewarray idx =>
    have hln := hlen1 3 hside
    subst hln
    replace h : (match (generalizing := false) dcf (idx + 10000) ct with
      | some (_, 21, _, _, _, k) => x1I st (fun n r => nwR μ u k n (fun q μ' => KK (pc + 3) ls (.ref q :: r) (u - (n.toNatClampNeg + 1)) σ μ'))
      | _ => False) := h
    split at h
    · rename_i i1 y1 n1 n2 k hcf
      obtain ⟨hmem, hidx⟩ := dcf_mem hcf
      have hE := hC _ hmem
      have hidx : i1 = idx + 10000 := hidx
      subst hidx
      obtain ⟨n, r, rfl, hn, hroom, hbig, hk⟩ := x1I_inv h
      rcases hE with ⟨rfl, e1⟩ | ⟨rfl, e1⟩ <;> (have e1 := (Nat.add_sub_cancel (n := idx) (m := 10000)) ▸ e1)
      · refine x_newq (t0 := 2) (C := nmV) rfl hown (hts _ e1) ho1 hx hb hKK hP.2.1 hP.2.2 hS hA n.toNatClampNeg hn rfl (by omega) (by omega) (by omega) hdg (fun q H1 hP1 hD1 hS1 => ?_)
        obtain ⟨hq, hP2⟩ := dP_push (e := eR 0 n.toNatClampNeg (fun _ => none)) hP hP1 hD1
        exact go _ _ _ _ _ _ (hk q hq) H1 locs lsA _ _ _ hP2 hS1 hl (by omega) (by omega)
      · refine x_newq (t0 := 3) (C := nmC) rfl hown (hts _ e1) ho2 hx hb hKK hP.2.1 hP.2.2 hS hA n.toNatClampNeg hn rfl (by omega) (by omega) (by omega) hdg (fun q H1 hP1 hD1 hS1 => ?_)
        obtain ⟨hq, hP2⟩ := dP_push (e := eR 1 n.toNatClampNeg (fun _ => none)) hP hP1 hD1
        exact go _ _ _ _ _ _ (hk q hq) H1 locs lsA _ _ _ hP2 hS1 hl (by omega) (by omega)
    · exact h.elim
  | newarray at_ =>
    have hln := hlen1 2 hside
    subst hln
    cases at_ with
    | int =>
      obtain ⟨n, r, rfl, hn, hroom, hbig, hk⟩ := x1I_inv h
      refine x_newa hx hb hts (hKK.sub (tys' := [(K.1, .int)]) [0] rfl) hP.2.1 hP.2.2 hS hA n.toNatClampNeg hn rfl (by omega) (by omega) (by omega) hdg (fun q H1 hP1 hD1 hS1 => ?_)
      obtain ⟨hq, hP2⟩ := dP_push (e := eA 0 n.toNatClampNeg (fun _ => 0)) hP hP1 hD1
      exact go _ _ _ _ _ _ (hk q hq) H1 locs lsA _ _ _ hP2 hS1 hl (by omega) (by omega)
    | boolean =>
      obtain ⟨n, r, rfl, hn, hroom, hbig, hk⟩ := x1I_inv h
      refine x_newz (hts _ aw_bool) hx hb hKK hP.2.1 hP.2.2 hS hA n.toNatClampNeg hn rfl (by omega) (by omega) (by omega) hdg (fun q H1 hP1 hD1 hS1 => ?_)
      obtain ⟨hq, hP2⟩ := dP_push (e := eA 1 n.toNatClampNeg (fun _ => 0)) hP hP1 hD1
      exact go _ _ _ _ _ _ (hk q hq) H1 locs lsA _ _ _ hP2 hS1 hl (by omega) (by omega)
    | _ => exact False.elim h
  | checkcast idx =>
    have hln := hlen1 3 hside
    subst hln
    replace h : (match (generalizing := false) dcf idx ct with
      | some (_, 22, _, _, _, _) => x1R st (fun a r => (∃ (n : Nat) (g : Nat → Int32), μ a = some (eA 0 n g)) ∧ KK (pc + 3) ls (.ref a :: r) u σ μ)
      | _ => False) := h
    split at h
    · rename_i i1 y1 n1 n2 k hcf
      obtain ⟨hmem, hidx⟩ := dcf_mem hcf
      have hE := hC _ hmem
      have hidx : i1 = idx := hidx
      subst hidx
      obtain ⟨a, r, rfl, ⟨n, g, hm⟩, hk⟩ := x1R_inv h
      obtain ⟨j, hj⟩ := dP_at hP hm
      exact va_castA (nm := "[I") hx hb hown (hts _ hE) hP.2.1 _ hj (hKK.2 0 _ rfl).2 hdg (go _ _ _ _ _ _ hk H locs lsA ws cells slots hP hS hl hu1 hu2)
    · exact h.elim
  | invokestatic idx =>
    have hln := hlen1 3 hside
    subst hln
    replace h : dinv d idx ct (fun d ce => dstat B ax d u ce st σ μ (KK (pc + 3) ls)) := h
    cases d with
    | zero => exact h.elim
    | succ d =>
    unfold dinv at h
    split at h
    · rename_i hd; exact absurd hd (by omega)
    · rename_i d' hdd
      have hdd : d' = d := by omega
      subst hdd
      split at h
      · rename_i ce hcf
        obtain ⟨hmem, hidx⟩ := dcf_mem hcf
        have hE := hC ce hmem
        subst hidx
        have hfix : CallFix p m c y.2.1 y.2.2.1 s args ALL y.1.cls := ⟨hx, hb, hml, hown, hts⟩
        unfold dCOK at hE
        unfold dstat at h
        split at h
        · rename_i h5
          rw [h5] at hE
          obtain ⟨⟨y1, y2, y3, y4, y5⟩, e1, e2, e3⟩ := hE
          refine dgo_go h y1 hCx hP hS hu1 hu2 hu3 hu4 (fun u1 Q' hf hM h8 hpre => ?_) (fun st' u' σ' μ' hk H1 locs1 ws1 c1 s1 hP1 hS1 a1 a2 => go _ _ _ _ _ _ hk H1 locs1 lsA ws1 c1 s1 hP1 hS1 hl a1 a2)
          exact va_runS hfix hM (va_cwS _ hts (goodALL fun w hw => by
            rcases List.mem_append.mp hw with hw | hw
            · simp only [List.mem_cons, List.not_mem_nil, or_false] at hw
              rcases hw with rfl | rfl | rfl
              · exact e1
              · exact e2
              · exact e3
            · exact (List.mem_cons.mp hw).elim (fun e => e ▸ y2) id) rfl rfl rfl ⟨y4.1, y4.2, y5⟩ ⟨by show d' + 1 ≤ R.frames; omega, by show 8 + (_ + 11) + (40 * d' + 40) ≤ R.locals; omega⟩) ⟨dPc_blind, hpre⟩ rfl h8.2.1 hl.1 takeV h8.1 hdg hf
        · rename_i h5
          rw [h5] at hE
          obtain ⟨x, z, r, rfl, hk⟩ := x2I_inv h
          obtain ⟨hc8, hk⟩ := condT hk
          simp only [Bool.and_eq_true] at hc8
          have h8 := Nat.le_of_ble_eq_true hc8.2
          rw [lenV_eq] at h8
          refine va_mmin hx hb (by rw [hml, hl.1]) hown (hts _ hE.1) (hts _ hE.2.1) (hts _ hE.2.2.1) (hts _ hE.2.2.2) (by omega) ?_ (by omega) (by omega) hdg (go _ _ _ _ _ _ hk H locs lsA ws cells slots hP hS hl hu1 hu2)
          rw [c1s_sum hc8.1]
          omega
        · exact h.elim
      · exact h.elim
  | invokevirtual idx =>
    have hln := hlen1 3 hside
    subst hln
    replace h : dinv d idx ct (fun d ce => dvirt B ax d u ce st σ μ (KK (pc + 3) ls)) := h
    cases d with
    | zero => exact h.elim
    | succ d =>
    unfold dinv at h
    split at h
    · rename_i hd; exact absurd hd (by omega)
    · rename_i d' hdd
      have hdd : d' = d := by omega
      subst hdd
      split at h
      · rename_i ce hcf
        obtain ⟨hmem, hidx⟩ := dcf_mem hcf
        have hE := hC ce hmem
        subst hidx
        have hfix : CallFix p m c y.2.1 y.2.2.1 s args ALL y.1.cls := ⟨hx, hb, hml, hown, hts⟩
        unfold dCOK at hE
        unfold dvirt at h
        split at h
        · rename_i h5
          rw [h5] at hE
          obtain ⟨⟨y1, y2, y3, y4, y5⟩, C, T, N, e0, rfl, e2, e3, e4, e5⟩ := hE
          obtain ⟨a, r, hdr, ⟨fs, hm⟩, h⟩ := x1R_inv h
          obtain ⟨j, hj⟩ := dP_at hP hm
          obtain ⟨hst, htk⟩ := split_ref hdr
          refine dgo_go h y1 hCx hP hS hu1 hu2 hu3 hu4 (fun u1 Q' hf hM h8 hpre => ?_) (fun st' u' σ' μ' hk H1 locs1 ws1 c1 s1 hP1 hS1 a1 a2 => go _ _ _ _ _ _ hk H1 locs1 lsA ws1 c1 s1 hP1 hS1 hl a1 a2)
          have hn1 : (st.take ce.2.2.2.1).reverse.length = ce.2.2.2.1 := by rw [List.length_reverse, List.length_take]; omega
          rw [htk] at hM hpre ⊢
          exact va_runV (C := ce.2.2.1.1.cls) hfix hM (cwV _ hts (goodALL fun w hw => by
            rcases List.mem_append.mp hw with hw | hw
            · simp only [List.mem_cons, List.not_mem_nil, or_false] at hw
              rcases hw with rfl | rfl | rfl | rfl
              · exact e2
              · exact e3
              · exact e4
              · exact e5
            · exact (List.mem_cons.mp hw).elim (fun e => e ▸ y2) id) rfl rfl rfl ⟨rfl, y4.1, y4.2, y5⟩ ⟨by show d' + 1 ≤ R.frames; omega, by show 8 + (_ + 11) + (40 * d' + 40) ≤ R.locals; omega⟩) ⟨dPc_blind, va_recv hKK hP.2.1 e0 hj, hpre⟩ rfl hn1 hl.1 hst h8.1 hdg hf
        · rename_i h5
          rw [h5] at hE
          obtain ⟨a, r, hdr, hk⟩ := x1R_inv h
          obtain ⟨hc8, hax, hk9⟩ := condT hk
          subst hax
          simp only [Bool.and_eq_true] at hc8
          have h8 := Nat.le_of_ble_eq_true hc8.2.2.2
          have h9 := Nat.le_of_ble_eq_true hc8.2.1
          rw [lenV_eq] at h8
          have hI := allI_rev hc8.1
          have hst : st = ((toI (st.take ce.2.2.2.1).reverse).map (cv ax)).reverse ++ .ref (ax 0) :: r := by
            rw [toI_cv ax hI, List.reverse_reverse, ← hdr, List.take_append_drop]
          have hP0 : va_P D classes (wl K.1 ax σ LX) H := fun k q hq => hP.2.1 k q (by rw [List.getElem?_append_left (List.getElem?_eq_some_iff.mp hq).1]; exact hq)
          have hD0 : va_D A (wl K.1 ax σ LX) := ⟨fun i j x y hi hj hxy => hP.2.2.1 i j x y (by rw [List.getElem?_append_left (List.getElem?_eq_some_iff.mp hi).1]; exact hi) (by rw [List.getElem?_append_left (List.getElem?_eq_some_iff.mp hj).1]; exact hj) hxy, fun k q hq => hP.2.2.2 k q (by rw [List.getElem?_append_left (List.getElem?_eq_some_iff.mp hq).1]; exact hq)⟩
          have hlen : (toI (st.take ce.2.2.2.1).reverse).length = ce.2.2.2.1 := by
            rw [toI_len, List.length_reverse, List.length_take]
            have : (st.drop ce.2.2.2.1).length = r.length + 1 := by rw [hdr]; rfl
            rw [List.length_drop] at this
            omega
          have hE2 := hE
          unfold eOK at hE2
          obtain ⟨⟨_, _, z3, _, z5, _⟩, _⟩ := hE2
          refine sm_call (Y := LX) (ad := ax) (d := d') (b := 0) (as0 := toI (st.take ce.2.2.2.1).reverse) (rest := r) hE rfl rfl hk9 LX_ok (toI_wt LX _) hx hb hml hown hts hN (hKK.sub (tys' := [(K.1, .int)]) [0] rfl) hP0 hD0 hS hA hl.1 (by rw [c1s_sum hc8.2.2.1]; exact h8) hlen ?_ ⟨by omega, by omega⟩ ⟨by omega, by omega⟩ hdg hst ?_
          · show 1 + wsum (toI _) ≤ ce.2.2.1.2.2.1
            rw [toI_sum, ← toI_len, hlen]
            omega
          · intro r1 σ' H1 locs1 hq hP1 hz hkk hS1
            have hP2 := dP_gf hP hP1 hkk
            unfold rI at hq
            split at hq
            · exact go _ _ _ _ _ _ hq H1 locs1 lsA ws cells slots hP2 hS1 hl hu1 hu2
            · exact hq.elim
        · rename_i h5
          rw [h5] at hE
          obtain ⟨e1, e2, e3, e4, e5⟩ := hE
          obtain ⟨a, r, rfl, hk⟩ := x1R_inv h
          obtain ⟨hc8, n, g, hm, hroom, hk⟩ := condT hk
          simp only [Bool.and_eq_true] at hc8
          have h8 := Nat.le_of_ble_eq_true hc8.2
          rw [lenV_eq] at h8
          obtain ⟨j, hj⟩ := dP_at hP hm
          refine va_clone (ad := "[I") hx hb (by rw [hml, hl.1]) hown (hts _ e1) (hts _ e2) (hts _ e3) (hts _ e4) (hts _ e5) hcs hKK hP.2.1 hP.2.2 hS hA _ 0 hj rfl (hKK.2 0 _ rfl).2 (fun i v hv => ?_) (by omega) (by rw [c1s_sum hc8.1]; omega) (by omega) (by show slots + n ≤ R.slots; omega) hdg (fun q H1 _ hP1 hD1 hS1 => ?_)
          · rw [show vp_cell _ (n, Sum.inl g) = arrV _ n (fun j => .int (g j)) from rfl] at hv
            have hlt := (Array.getElem?_eq_some_iff.mp hv).1
            rw [arrV_size] at hlt
            rw [arrV_read _ _ hlt] at hv
            cases hv
            rfl
          · obtain ⟨hq, hP2⟩ := dP_push (e := eA 0 n g) hP hP1 hD1
            exact go _ _ _ _ _ _ (hk q hq) H1 locs lsA _ _ _ hP2 hS1 hl (by omega) (by show slots + n + _ ≤ ms; omega)
        · exact h.elim
      · exact h.elim
  | invokespecial idx =>
    have hln := hlen1 3 hside
    subst hln
    replace h : dinv d idx ct (fun d ce => dspec B ax d u ce st σ μ (KK (pc + 3) ls)) := h
    cases d with
    | zero => exact h.elim
    | succ d =>
    unfold dinv at h
    split at h
    · rename_i hd; exact absurd hd (by omega)
    · rename_i d' hdd
      have hdd : d' = d := by omega
      subst hdd
      split at h
      · rename_i ce hcf
        obtain ⟨hmem, hidx⟩ := dcf_mem hcf
        have hE := hC ce hmem
        subst hidx
        have hfix : CallFix p m c y.2.1 y.2.2.1 s args ALL y.1.cls := ⟨hx, hb, hml, hown, hts⟩
        unfold dCOK at hE
        unfold dspec at h
        split at h
        · rename_i h5
          rw [h5] at hE
          obtain ⟨⟨y1, y2, y3, y4, y5⟩, z1, z2, e1, e2, e3⟩ := hE
          obtain ⟨b, r, hdr, h⟩ := x1R_inv h
          obtain ⟨hst, htk⟩ := split_ref hdr
          have hws : wsY ce.2.2.1 = Cond.code ce.2.2.1.1 ce.2.2.1.2.1 ce.2.2.1.2.2.1 none :: ALL := by unfold wsY; rw [z2]
          refine dgo_go h y1 hCx hP hS hu1 hu2 hu3 hu4 (fun u1 Q' hf hM h8 hpre => ?_) (fun st' u' σ' μ' hk H1 locs1 ws1 c1 s1 hP1 hS1 a1 a2 => go _ _ _ _ _ _ hk H1 locs1 lsA ws1 c1 s1 hP1 hS1 hl a1 a2)
          have hn1 : (st.take ce.2.2.2.1).reverse.length = ce.2.2.2.1 := by rw [List.length_reverse, List.length_take]; omega
          rw [htk] at hM hpre ⊢
          exact va_runI hfix hM (cwI _ hts (goodALL fun w hw => (List.mem_cons.mp hw).elim (fun e => e ▸ y2) id) hws rfl rfl (hts _ e1) (hts _ e2) (hts _ e3) z1 ⟨y4.1, y4.2, y5⟩ ⟨by show d' + 1 ≤ R.frames; omega, by show 8 + (_ + 11) + (40 * d' + 40) ≤ R.locals; omega⟩) ⟨dPc_blind, hpre⟩ rfl hn1 hl.1 hst h8.1 hdg hf
        · rename_i h5
          rw [h5] at hE
          obtain ⟨⟨y1, y2, y3, y4, y5⟩, z1, z2, e1, ⟨host, e2⟩, e3⟩ := hE
          obtain ⟨b, r, hdr, h⟩ := x1R_inv h
          obtain ⟨hst, htk⟩ := split_ref hdr
          have hws : wsY ce.2.2.1 = Cond.code ce.2.2.1.1 ce.2.2.1.2.1 ce.2.2.1.2.2.1 none :: ALL := by unfold wsY; rw [z2]
          refine dgo_go h y1 hCx hP hS hu1 hu2 hu3 hu4 (fun u1 Q' hf hM h8 hpre => ?_) (fun st' u' σ' μ' hk H1 locs1 ws1 c1 s1 hP1 hS1 a1 a2 => go _ _ _ _ _ _ hk H1 locs1 lsA ws1 c1 s1 hP1 hS1 hl a1 a2)
          have hn1 : (st.take ce.2.2.2.1).reverse.length = ce.2.2.2.1 := by rw [List.length_reverse, List.length_take]; omega
          rw [htk] at hM hpre ⊢
          exact va_runIN hfix hM ⟨va_cnB _ hts (goodALL fun w hw => (List.mem_cons.mp hw).elim (fun e => e ▸ y2) id) hws rfl rfl (hN2 _ e2) (hts _ e1) ⟨y4.1, y4.2, y5⟩ ⟨by show d' + 1 ≤ R.frames; omega, by show 8 + (_ + 11) + (40 * d' + 40) ≤ R.locals; omega⟩, z1, hts _ e3⟩ ⟨dPc_blind, hpre⟩ rfl hn1 hl.1 hst h8.1 hdg hf
        · rename_i h5
          rw [h5] at hE
          obtain ⟨e1, e2, e3⟩ := hE
          obtain ⟨a, r, rfl, hk⟩ := x1R_inv h
          obtain ⟨hc8, hk⟩ := condT hk
          simp only [Bool.and_eq_true] at hc8
          have h8 := Nat.le_of_ble_eq_true hc8.2
          rw [lenV_eq] at h8
          refine W.objInit hx hb hown (hts _ e1) (hts _ e2) (hts _ e3) rfl (by rw [hml]; exact hl.1) rfl hdg (by omega) ?_ ?_
          · rw [c1s_sum hc8.1]
            show 2 * 0 + _ + 12 ≤ R.locals
            omega
          · exact W.eq (g2 := F0 m (pc + 3) lsA r) rfl (go _ _ _ _ _ _ hk H locs lsA ws cells slots hP hS hl hu1 hu2)
        · exact h.elim
      · exact h.elim
  | ireturn =>
    have hln := hlen1 1 hside
    subst hln
    match st, h with
    | [.int x], h =>
      have h : (match y.2.2.2 with
        | some .int => Q (some (.int x)) σ μ
        | some .boolean => (x = 0 ∨ x = 1) ∧ Q (some (.int x)) σ μ
        | _ => False) := h
      refine W.widen (k := mc) (n := ms) (by omega) (by omega) ?_
      split at h
      · rename_i hret
        exact W.iret hx hb (hr.trans hret) (fun t ht hW => fin _ h t ht) hS.2.2 hdg hlk
      · rename_i hret
        exact W.zret hx hb (hr.trans hret) (by rcases h.1 with rfl | rfl <;> rfl) (fun t ht hW => fin _ h.2 t ht) hS.2.2 hdg hlk
      · exact h.elim
  | areturn =>
    have hln := hlen1 1 hside
    subst hln
    have isr : isRef y.2.2.2 = true → ∃ rt, y.2.2.2 = some rt ∧ ((∃ n, rt = .object n) ∨ ∃ t, rt = .array t) := by
      intro hh
      unfold isRef at hh
      split at hh
      · rename_i n he; exact ⟨_, he, Or.inl ⟨_, rfl⟩⟩
      · rename_i t he; exact ⟨_, he, Or.inr ⟨_, rfl⟩⟩
      · cases hh
    match st, h with
    | [.ref a], h =>
      obtain ⟨h1, h2⟩ := condT h
      obtain ⟨rt, hrt, hor⟩ := isr h1
      refine W.widen (k := mc) (n := ms) (by omega) (by omega) ?_
      exact W.aret hx hb (hr.trans hrt) hor (Or.inr ⟨a, rfl⟩) (fun t ht hW => fin _ h2 t ht) hS.2.2 hdg hlk
    | [.null], h =>
      obtain ⟨h1, h2⟩ := condT h
      obtain ⟨rt, hrt, hor⟩ := isr h1
      refine W.widen (k := mc) (n := ms) (by omega) (by omega) ?_
      exact W.aret hx hb (hr.trans hrt) hor (Or.inl rfl) (fun t ht hW => fin _ h2 t ht) hS.2.2 hdg hlk
  | return_ =>
    have hln := hlen1 1 hside
    subst hln
    match st, h with
    | [], h =>
      have h : (match ([] : List Value), y.2.2.2 with
        | [], none => Q none σ μ
        | _, _ => False) := h
      refine W.widen (k := mc) (n := ms) (by omega) (by omega) ?_
      split at h
      · rename_i hret
        exact W.vret hx hb (hr.trans hret) (fun t ht hW => fin _ h t ht) hS.2.2 hdg hlk
      · exact h.elim
  | _ => exact False.elim h
