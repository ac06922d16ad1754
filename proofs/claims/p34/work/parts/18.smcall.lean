/-! a call of a method of ours from a walk over the machine -/
section SMC
variable {p : Program} {l : Launch} {e : Env} {R : Room} {s : State} {m : MethodId} {args : Array Value} {below : List Frame} {meth : Method} {c : Code} {H : Heap} {locs : List Loc} {cells slots : Nat} {Qf : State → Prop}
variable {cc : ByteArray} {pc nL : Nat} {ls : Array Slot} {rest : List Value} {D : va_G} {cA : ClassId} {A : Nat → Prop} {H0 : Heap} {Y : List kd} {ad : Nat → Nat} {σ : sS}
theorem sm_call {own : String} {q : sE} {d b : Nat} {as0 : List sv} {Q' : Option sv → sS → Prop} {st0 : List Value} (hE : eOK Y own q) (hq : q.2.1 = 0) (hb0 : Y[b]? = some (.inl q.2.2.1)) (hcj : CJ Y d q.2.2.2.1 (.inr (.inr (b, .inl q.2.2.1)) :: as0) σ Q') (hY : lok Y) (hwt : wtS Y as0)
    (hx : p.tables.exec = Jvm.exec) (hb : c.code = cc) (hml : c.maxLocals = nL) (hown : s.vm.findClass own = some m.cls) (hts : ∀ w ∈ ALL, w.before args s = true) (hN : ∀ w ∈ NW, va_Nw w s) (hK : va_K D classes [(cA, .int)] s)
    (hP : va_P D classes (wl cA ad σ Y) H) (hD : va_D A (wl cA ad σ Y)) (hS : va_S A H0 H locs) (hA : ∀ q : Nat, H0.size ≤ q → A q) (hsz : ls.size = nL) (hcat : (rest.map fun v => v.category).sum ≤ 8) (hna : as0.length = q.2.2.2.2.1) (hwd : wsum (.inr (.inr (b, .inl q.2.2.1)) :: as0) ≤ q.2.2.2.1.2.2.1)
    (hR : d + 1 ≤ R.frames ∧ 40 * d + 80 ≤ R.locals) (hcells : cells ≤ R.cells ∧ slots ≤ R.slots) (hdg : decode cc pc = .ok (.invokevirtual q.1, 3)) (hst : st0 = (as0.map (cv ad)).reverse ++ .ref (ad b) :: rest)
    (kk : ∀ (r : Option sv) (σ' : sS) (H1 : Heap) (locs1 : List Loc), Q' r σ' → va_P D classes (wl cA ad σ' Y) H1 → H.size ≤ H1.size → (∀ q : Nat, q < H.size → ¬ va_A (wl cA ad σ Y) H.size q → H1[q]? = H[q]?) → va_S A H0 H1 locs1 → W p l e R s m args below meth c H1 locs1 cells slots Qf (F0 m (pc + 3) ls ((r.map (cv ad)).toList ++ rest))) :
    W p l e R s m args below meth c H locs cells slots Qf (F0 m pc ls st0) := by
  subst hst
  have hsub : ∀ z, va_A (wl cA ad σ Y) H.size z → A z := by
    intro z hz
    rcases hz with ⟨k, en, hk⟩ | hz
    · exact hD.2 k _ hk
    · exact hA z (Nat.le_trans hS.1 hz)
  unfold eOK at hE
  rw [hq] at hE
  obtain ⟨⟨y1, y2, y3, y4, y5, -⟩, C, T, N, e0, e1, e2, e3, e4, e5⟩ := hE
  have hwa : wtS Y (.inr (.inr (b, .inl q.2.2.1)) :: as0) := wtS_cons hb0 hwt
  have hM := met_of hcj y1 hY hwa l D cA ad H.size (by rw [wsum_sl]; exact hwd)
  have hr := va_runV (p := p) (e := e) (R := R) (s := s) (m := m) (args := args) (below := below) (meth := meth) (c := c) (H := H) (locs := locs) (cells := cells) (slots := slots) (rest := rest) (g := F0 m pc ls ((as0.map (cv ad)).reverse ++ .ref (ad b) :: rest)) (b := ad b) (As := as0.map (cv ad)) ⟨hx, hb, hml, hown, hts⟩ hM (cwV _ hts (goodALL fun w hw => by
        rcases List.mem_append.mp hw with hw | hw
        · simp only [List.mem_cons, List.not_mem_nil, or_false] at hw
          rcases hw with rfl | rfl | rfl | rfl
          · exact e2
          · exact e3
          · exact e4
          · exact e5
        · exact (List.mem_cons.mp hw).elim (fun e => e ▸ y2) id) rfl rfl rfl ⟨e1, y4.1, y4.2, y5⟩ ⟨by show d + 1 ≤ R.frames; omega, by show 8 + (_ + 11) + (40 * d + 40) ≤ R.locals; omega⟩) ⟨sPc_blind, va_recv hK hP e0 (wl_get hb0), fun U hU hW => ⟨rfl, by rw [hU], by rw [hU]; exact hP, va_K.moved hW.alike hK, hD.weaken (fun _ _ _ _ => trivial), fun w hw => NW_warm hW w hw (hN w hw)⟩⟩ rfl (by rw [List.length_map]; exact hna) hsz rfl (lv_room hcat) hdg ⟨hcells.1, hcells.2⟩
  intro T hT X
  obtain ⟨v, st₀, t, T', L, h0, X', hLL, e7, e8, ⟨⟨r, σ', hv, hw, hqq, hp⟩, hz, hk⟩, stp⟩ := hr T hT X
  cases hv
  rw [h0] at hz hk
  obtain ⟨t2, a1, b1⟩ := kk r σ' T'.heap (locs ++ L) hqq (by rw [e7]; exact hp) (by rw [e7]; exact hz) (fun z h1 h2 => by rw [e7]; exact hk z h1 h2)
    ⟨Nat.le_trans hS.1 (by rw [e7]; exact hz), fun z h1 h2 => by rw [e7, hk z (Nat.lt_of_lt_of_le h1 hS.1) (fun zz => h2 (hsub z zz))]; exact hS.2.1 z h1 h2, fun z hz => by
      rcases List.mem_append.mp hz with h | h
      · exact hS.2.2 z h
      · exact hsub _ (hLL z h)⟩ T' rfl X'
  exact ⟨t2, stp t2 a1, b1⟩
/-- a call of the static method set on one array of a walk's list -/
theorem x_set {own : String} {idx n a k q0 : Nat} {i v : Int32} {f : Nat → Int32} {ws : va_W} {x : MethodName} {host : String} (hE : eOK [.inr n] own (idx, 1, 0, y_GF_set, 3, x, host, pr_set)) (hn : n < 2 ^ 31) (hi0 : ¬ i < 0) (hik : i.toNatClampNeg = k) (hkn : k < n) (hq0 : ws[q0]? = some (a, .inl (cA, n, .inl f)))
    (hx : p.tables.exec = Jvm.exec) (hb : c.code = cc) (hml : c.maxLocals = nL) (hown : s.vm.findClass own = some m.cls) (hts : ∀ w ∈ ALL, w.before args s = true) (hN : ∀ w ∈ NW, va_Nw w s) (hK : va_K D classes [(cA, .int)] s)
    (hP : va_P D classes ws H) (hD : va_D A ws) (hS : va_S A H0 H locs) (hA : ∀ q : Nat, H0.size ≤ q → A q) (hsz : ls.size = nL) (hcat : (rest.map fun v => v.category).sum ≤ 8)
    (hR : 1 ≤ R.frames ∧ 80 ≤ R.locals) (hcells : cells ≤ R.cells ∧ slots ≤ R.slots) (hdg : decode cc pc = .ok (.invokestatic idx, 3))
    (kk : ∀ (H1 : Heap) (locs1 : List Loc), va_P D classes (ws.set q0 (a, .inl (cA, n, .inl (upd f k v)))) H1 → va_D A (ws.set q0 (a, .inl (cA, n, .inl (upd f k v)))) → va_S A H0 H1 locs1 → W p l e R s m args below meth c H1 locs1 cells slots Qf (F0 m (pc + 3) ls rest)) :
    W p l e R s m args below meth c H locs cells slots Qf (F0 m pc ls (.int v :: .int i :: .ref a :: rest)) := by
  have hY : lok [(.inr n : kd)] := ⟨(by decide : 1 < 2 ^ 31), fun b ci hb => by
    cases b with
    | zero => simp at hb
    | succ b => simp at hb⟩
  have hwt : wtS [(.inr n : kd)] [sR 0 (.inr n), sI i, sI v] := wtS_cons rfl (wtS_cons trivial (wtS_cons trivial (fun v hv => by cases hv)))
  have hcj : CJ [(.inr n : kd)] 0 y_GF_set [sR 0 (.inr n), sI i, sI v] (fun _ => f) (fun r σ' => r = none ∧ σ' = wr (fun _ => f) 0 n i v) := by
    refine prk_set _ _ _ _ _ ?_ hwt 0 _ ⟨rfl, rfl⟩
    show cond (Nat.blt n 2147483648) _ _ = _
    rw [show Nat.blt n 2147483648 = true from Nat.ble_eq_true_of_le hn]
    rfl
  have hsub : ∀ z, va_A (wl cA (fun _ => a) (fun _ => f) [(.inr n : kd)]) H.size z → A z := by
    intro z hz
    rcases hz with ⟨j, en, hj⟩ | hz
    · have hm := List.mem_of_getElem? hj
      simp only [wl, List.mapIdx_cons, List.mapIdx_nil, List.mem_singleton, Prod.mk.injEq] at hm
      rw [hm.1]
      exact hD.2 q0 _ hq0
    · exact hA z (Nat.le_trans hS.1 hz)
  have hP0 : va_P D classes (wl cA (fun _ => a) (fun _ => f) [(.inr n : kd)]) H := hP.sub [q0] (by simp [hq0, wl, ent])
  have hD0 : va_D (fun _ => True) (wl cA (fun _ => a) (fun _ => f) [(.inr n : kd)]) := ⟨fun i j p q hi hj _ => by
    have h1 := (List.getElem?_eq_some_iff.mp hi).1
    have h2 := (List.getElem?_eq_some_iff.mp hj).1
    simp [wl] at h1 h2
    omega, fun _ _ _ => trivial⟩
  obtain ⟨⟨y1, y2, y3, y4, y5, -⟩, e1, e2, e3⟩ := hE
  have hM := met_of hcj y1 hY hwt l D cA (fun _ => a) H.size (by rw [wsum_sl]; exact (by decide : wsum [sR 0 (.inr 0), sI 0, sI 0] ≤ 3))
  have hr := va_runSN (p := p) (e := e) (R := R) (s := s) (m := m) (args := args) (below := below) (meth := meth) (c := c) (H := H) (locs := locs) (cells := cells) (slots := slots) (rest := rest) (g := F0 m pc ls (.int v :: .int i :: .ref a :: rest)) (As := [.ref a, .int i, .int v]) ⟨hx, hb, hml, hown, hts⟩ hM ⟨va_cnB _ hts (goodALL fun w hw => (List.mem_cons.mp hw).elim (fun e => e ▸ y2) id) rfl rfl rfl (hN _ e1) (hts _ e3) ⟨y4.1, y4.2, y5⟩ ⟨by show 0 + 1 ≤ R.frames; omega, by show 8 + (_ + 11) + (40 * 0 + 40) ≤ R.locals; have : y_GF_set.2.2.1 = 3 := rfl; omega⟩, hts _ e2, trivial⟩ ⟨sPc_blind, fun U hU hW => ⟨rfl, by rw [hU], by rw [hU]; exact hP0, va_K.moved hW.alike hK, hD0, fun w hw => NW_warm hW w hw (hN w hw)⟩⟩ rfl rfl hsz rfl (lv_room hcat) hdg ⟨hcells.1, hcells.2⟩
  intro T hT X
  obtain ⟨vv, st₀, t, T', L, h0, X', hLL, e7, e8, ⟨⟨r, σ', hv, hw, hqq, hp⟩, hz, hk⟩, stp⟩ := hr T hT X
  cases hv
  obtain ⟨rfl, rfl⟩ := hqq
  rw [h0] at hz hk
  have hfin : va_P D classes (ws.set q0 (a, .inl (cA, n, .inl (upd f k v)))) T'.heap := by
    intro j y hj
    by_cases hjq : j = q0
    · subst hjq
      have hlt := (List.getElem?_eq_some_iff.mp hq0).1
      rw [List.getElem?_set_self hlt] at hj
      cases hj
      have h9 := hp 0 _ (wl_get (k := .inr n) rfl)
      rw [← e7] at h9
      have e10 : wr (fun _ => f) 0 n i v 0 = upd f k v := by
        unfold wr
        rw [if_neg hi0, if_neg (by omega), hik]
        simp [up]
      simpa [ent, e10] using h9
    · rw [List.getElem?_set_ne (fun h => hjq h.symm)] at hj
      have h8 := hP j y hj
      refine h8.kept ?_
      rw [e7]
      refine hk y.1 h8.lt ?_
      rintro (⟨k2, en, hk2⟩ | hq)
      · have hm := List.mem_of_getElem? hk2
        simp only [wl, List.mapIdx_cons, List.mapIdx_nil, List.mem_singleton, Prod.mk.injEq] at hm
        exact hjq (hD.1 j q0 y _ hj hq0 hm.1)
      · have := h8.lt
        omega
  obtain ⟨t2, a1, b1⟩ := kk T'.heap (locs ++ L) hfin (hD.set hq0)
    ⟨Nat.le_trans hS.1 (by rw [e7]; exact hz), fun z h1 h2 => by rw [e7, hk z (Nat.lt_of_lt_of_le h1 hS.1) (fun zz => h2 (hsub z zz))]; exact hS.2.1 z h1 h2, fun z hz => by
      rcases List.mem_append.mp hz with h | h
      · exact hS.2.2 z h
      · exact hsub _ (hLL z h)⟩ T' rfl X'
  exact ⟨t2, stp t2 a1, b1⟩
end SMC
