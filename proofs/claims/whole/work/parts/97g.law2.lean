/-! the law: its loop, and all of it -/
section LAW2
variable {p : Program} {e : Env} {s : State} {m : MethodId} {below : List Frame} {meth : Method} {c : Code} {b L : Nat} {xs : Nat → Int32}
set_option maxHeartbeats 4000000 in
set_option maxRecDepth 100000 in
theorem law_sw (l : Launch) {Rel : sS → sS → Prop} (hL : L ≤ 2048) (C0 : lw_At p s m meth c b L xs) {D : va_G} {cA : ClassId} {ax am : Nat → Nat} (hKK : va_K D classes [(cA, .int)] s) (hDx : va_D (fun q : Nat => s.heap.size ≤ q) (wl cA ax σX0 LX)) (hDm : va_D (fun q : Nat => s.heap.size ≤ q) (wl cA am σM1 LM)) (hdis : ∀ i j : Nat, i < 88 → j < 37 → ax i ≠ am j) (hs : AllSt Rel) {n i : Nat} (hi4 : i + 4 ≤ L) (hn : L + 4 - i < n + 1) (ih : ∀ (i : Nat), i + 4 ≤ L + 4 → L + 4 - i < n → ∀ (σx σm : sS), Rel σx σm → ∀ (H : Heap) (locs : List Loc) (ls : Array Slot), va_P D classes (wl cA ax σx LX) H → va_P D classes (wl cA am σm LM) H → va_S (fun q : Nat => s.heap.size ≤ q) s.heap H locs → lv_has ls 4 [(0, .ref b), (1, .ref (ax 0)), (2, .ref (am 0)), (3, .int (nI i))] → W p l e room_1 s m #[Value.ref b] below meth c H locs 125 46410 (lw_Z below #[Value.ref b] s) (F0 m 18 ls []))
    {σx σm : sS} (hR : Rel σx σm) {H : Heap} {locs : List Loc} {ls : Array Slot} (hPx : va_P D classes (wl cA ax σx LX) H) (hPm : va_P D classes (wl cA am σm LM) H) (hS : va_S (fun q : Nat => s.heap.size ≤ q) s.heap H locs) (hl : lv_has ls 4 [(0, .ref b), (1, .ref (ax 0)), (2, .ref (am 0)), (3, .int (nI i))]) (v : Int32) : W p l e room_1 s m #[Value.ref b] below meth c H locs 125 46410 (lw_Z below #[Value.ref b] s) (F0 m 32 ls [.int v]) := by
  obtain ⟨hx, hb, hr, hml, hown, hts, hX, hbl, hlocks, hgv⟩ := id C0
  have hcs : csT 32 0 [140, 163, 176, 189, 222, 245, 278, 301, 314, 347, 370, 393, 406, 419, 452, 465, 498, 511, 534, 557, 580, 613, 647, 671, 694, 717, 730, 743, 786, 799, 812] [(0, 172), (1, 195), (2, 208), (3, 221), (4, 254), (5, 277), (6, 310), (7, 333), (8, 346), (9, 379), (10, 402), (11, 425), (12, 438), (13, 451), (14, 484), (15, 497), (16, 530), (17, 543), (18, 566), (19, 589), (20, 612), (21, 645), (22, 679), (23, 703), (24, 726), (25, 749), (26, 762), (27, 775), (28, 818), (29, 831), (30, 844)] = true := by decide +kernel
  refine wsw_law (tgt := 867) (cs := [(0, 172), (1, 195), (2, 208), (3, 221), (4, 254), (5, 277), (6, 310), (7, 333), (8, 346), (9, 379), (10, 402), (11, 425), (12, 438), (13, 451), (14, 484), (15, 497), (16, 530), (17, 543), (18, 566), (19, 589), (20, 612), (21, 645), (22, 679), (23, 703), (24, 726), (25, 749), (26, 762), (27, 775), (28, 818), (29, 831), (30, 844)]) hx hb (by decide +kernel : decode code 32 = .ok (.tableswitch 835 0 30 #[140, 163, 176, 189, 222, 245, 278, 301, 314, 347, 370, 393, 406, 419, 452, 465, 498, 511, 534, 557, 580, 613, 647, 671, 694, 717, 730, 743, 786, 799, 812], 140)) (by decide) (by decide) hcs ?_
  obtain ⟨h0, hs⟩ := hs
  obtain ⟨h1, hs⟩ := hs
  obtain ⟨h2, hs⟩ := hs
  obtain ⟨h3, hs⟩ := hs
  obtain ⟨h4, hs⟩ := hs
  obtain ⟨h5, hs⟩ := hs
  obtain ⟨h6, hs⟩ := hs
  obtain ⟨h7, hs⟩ := hs
  obtain ⟨h8, hs⟩ := hs
  obtain ⟨h9, hs⟩ := hs
  obtain ⟨h10, hs⟩ := hs
  obtain ⟨h11, hs⟩ := hs
  obtain ⟨h12, hs⟩ := hs
  obtain ⟨h13, hs⟩ := hs
  obtain ⟨h14, hs⟩ := hs
  obtain ⟨h15, hs⟩ := hs
  obtain ⟨h16, hs⟩ := hs
  obtain ⟨h17, hs⟩ := hs
  obtain ⟨h18, hs⟩ := hs
  obtain ⟨h19, hs⟩ := hs
  obtain ⟨h20, hs⟩ := hs
  obtain ⟨h21, hs⟩ := hs
  obtain ⟨h22, hs⟩ := hs
  obtain ⟨h23, hs⟩ := hs
  obtain ⟨h24, hs⟩ := hs
  obtain ⟨h25, hs⟩ := hs
  obtain ⟨h26, hs⟩ := hs
  obtain ⟨h27, hs⟩ := hs
  obtain ⟨h28, hs⟩ := hs
  obtain ⟨h29, hs⟩ := hs
  have h30 := hs
  have g0 := fun (_ : v = 0) => law_letter l hL C0 hKK hDx hDm hdis h0 hi4 hn ih hR hPx hPm hS hl
  have g1 := fun (_ : v = 1) => law_value l hL C0 hKK hDx hDm hdis h1 hi4 hn ih hR hPx hPm hS hl
  have g2 := fun (_ : v = 2) => law_check l hL C0 hKK hDx hDm hdis h2 hi4 hn ih hR hPx hPm hS hl
  have g3 := fun (_ : v = 3) => law_part l hL C0 hKK hDx hDm hdis h3 hi4 hn ih hR hPx hPm hS hl
  have g4 := fun (_ : v = 4) => law_path l hL C0 hKK hDx hDm hdis h4 hi4 hn ih hR hPx hPm hS hl
  have g5 := fun (_ : v = 5) => law_puts l hL C0 hKK hDx hDm hdis h5 hi4 hn ih hR hPx hPm hS hl
  have g6 := fun (_ : v = 6) => law_drops l hL C0 hKK hDx hDm hdis h6 hi4 hn ih hR hPx hPm hS hl
  have g7 := fun (_ : v = 7) => law_faults l hL C0 hKK hDx hDm hdis h7 hi4 hn ih hR hPx hPm hS hl
  have g8 := fun (_ : v = 8) => law_fault l hL C0 hKK hDx hDm hdis h8 hi4 hn ih hR hPx hPm hS hl
  have g9 := fun (_ : v = 9) => law_coded l hL C0 hKK hDx hDm hdis h9 hi4 hn ih hR hPx hPm hS hl
  have g10 := fun (_ : v = 10) => law_below l hL C0 hKK hDx hDm hdis h10 hi4 hn ih hR hPx hPm hS hl
  have g11 := fun (_ : v = 11) => law_waits l hL C0 hKK hDx hDm hdis h11 hi4 hn ih hR hPx hPm hS hl
  have g12 := fun (_ : v = 12) => law_first l hL C0 hKK hDx hDm hdis h12 hi4 hn ih hR hPx hPm hS hl
  have g13 := fun (_ : v = 13) => law_limited l hL C0 hKK hDx hDm hdis h13 hi4 hn ih hR hPx hPm hS hl
  have g14 := fun (_ : v = 14) => law_total l hL C0 hKK hDx hDm hdis h14 hi4 hn ih hR hPx hPm hS hl
  have g15 := fun (_ : v = 15) => law_same l hL C0 hKK hDx hDm hdis h15 hi4 hn ih hR hPx hPm hS hl
  have g16 := fun (_ : v = 16) => law_different l hL C0 hKK hDx hDm hdis h16 hi4 hn ih hR hPx hPm hS hl
  have g17 := fun (_ : v = 17) => law_often l hL C0 hKK hDx hDm hdis h17 hi4 hn ih hR hPx hPm hS hl
  have g18 := fun (_ : v = 18) => law_without l hL C0 hKK hDx hDm hdis h18 hi4 hn ih hR hPx hPm hS hl
  have g19 := fun (_ : v = 19) => law_mend l hL C0 hKK hDx hDm hdis h19 hi4 hn ih hR hPx hPm hS hl
  have g20 := fun (_ : v = 20) => law_range l hL C0 hKK hDx hDm hdis h20 hi4 hn ih hR hPx hPm hS hl
  have g21 := fun (_ : v = 21) => law_loss l hL C0 hKK hDx hDm hdis h21 hi4 hn ih hR hPx hPm hS hl
  have g22 := fun (_ : v = 22) => law_mean l hL C0 hKK hDx hDm hdis h22 hi4 hn ih hR hPx hPm hS hl
  have g23 := fun (_ : v = 23) => law_which l hL C0 hKK hDx hDm hdis h23 hi4 hn ih hR hPx hPm hS hl
  have g24 := fun (_ : v = 24) => law_row l hL C0 hKK hDx hDm hdis h24 hi4 hn ih hR hPx hPm hS hl
  have g25 := fun (_ : v = 25) => law_judge l hL C0 hKK hDx hDm hdis h25 hi4 hn ih hR hPx hPm hS hl
  have g26 := fun (_ : v = 26) => law_clear l hL C0 hKK hDx hDm hdis h26 hi4 hn ih hR hPx hPm hS hl
  have g27 := fun (_ : v = 27) => law_lots l hL C0 hKK hDx hDm hdis h27 hi4 hn ih hR hPx hPm hS hl
  have g28 := fun (_ : v = 28) => law_image l hL C0 hKK hDx hDm hdis h28 hi4 hn ih hR hPx hPm hS hl
  have g29 := fun (_ : v = 29) => law_on l hL C0 hKK hDx hDm hdis h29 hi4 hn ih hR hPx hPm hS hl
  have g30 := fun (_ : v = 30) => law_count l hL C0 hKK hDx hDm hdis h30 hi4 hn ih hR hPx hPm hS hl
  have gd : W p l e room_1 s m #[Value.ref b] below meth c H locs 125 46410 (lw_Z below #[Value.ref b] s) (F0 m 867 ls []) := by
    refine lv_iinc (v := nI (i + 4)) (lv' := [(3, .int (nI (i + 4))), (0, .ref b), (1, .ref (ax 0)), (2, .ref (am 0))]) hx hb (by decide +kernel : decode code 867 = .ok (.iinc 3 4, 3)) hl (k := 3) rfl (by rw [← nI_add]; rfl) (by decide) rfl (fun ls hl => ?_)
    refine lv_goto (tgt := 18) hx hb (by decide +kernel : decode code 870 = .ok (.goto (-852), 3)) (by decide) ?_
    exact ih (i + 4) (by omega) (by omega) _ _ hR _ _ ls hPx hPm hS (lv_sub hl [1, 2, 3, 0] rfl)
  exact ⟨g0, fun _ => ⟨g1, fun _ => ⟨g2, fun _ => ⟨g3, fun _ => ⟨g4, fun _ => ⟨g5, fun _ => ⟨g6, fun _ => ⟨g7, fun _ => ⟨g8, fun _ => ⟨g9, fun _ => ⟨g10, fun _ => ⟨g11, fun _ => ⟨g12, fun _ => ⟨g13, fun _ => ⟨g14, fun _ => ⟨g15, fun _ => ⟨g16, fun _ => ⟨g17, fun _ => ⟨g18, fun _ => ⟨g19, fun _ => ⟨g20, fun _ => ⟨g21, fun _ => ⟨g22, fun _ => ⟨g23, fun _ => ⟨g24, fun _ => ⟨g25, fun _ => ⟨g26, fun _ => ⟨g27, fun _ => ⟨g28, fun _ => ⟨g29, fun _ => ⟨g30, fun _ => gd⟩⟩⟩⟩⟩⟩⟩⟩⟩⟩⟩⟩⟩⟩⟩⟩⟩⟩⟩⟩⟩⟩⟩⟩⟩⟩⟩⟩⟩⟩⟩
set_option maxHeartbeats 4000000 in
set_option maxRecDepth 100000 in
theorem law_iter (l : Launch) {Rel : sS → sS → Prop} (hL : L ≤ 2048) (C0 : lw_At p s m meth c b L xs) {D : va_G} {cA : ClassId} {ax am : Nat → Nat} (hKK : va_K D classes [(cA, .int)] s) (hDx : va_D (fun q : Nat => s.heap.size ≤ q) (wl cA ax σX0 LX)) (hDm : va_D (fun q : Nat => s.heap.size ≤ q) (wl cA am σM1 LM)) (hdis : ∀ i j : Nat, i < 88 → j < 37 → ax i ≠ am j) (hs : AllSt Rel) {n i : Nat} (hi : i + 4 ≤ L + 4) (hn : L + 4 - i < n + 1) (ih : ∀ (i : Nat), i + 4 ≤ L + 4 → L + 4 - i < n → ∀ (σx σm : sS), Rel σx σm → ∀ (H : Heap) (locs : List Loc) (ls : Array Slot), va_P D classes (wl cA ax σx LX) H → va_P D classes (wl cA am σm LM) H → va_S (fun q : Nat => s.heap.size ≤ q) s.heap H locs → lv_has ls 4 [(0, .ref b), (1, .ref (ax 0)), (2, .ref (am 0)), (3, .int (nI i))] → W p l e room_1 s m #[Value.ref b] below meth c H locs 125 46410 (lw_Z below #[Value.ref b] s) (F0 m 18 ls []))
    {σx σm : sS} (hR : Rel σx σm) {H : Heap} {locs : List Loc} {ls : Array Slot} (hPx : va_P D classes (wl cA ax σx LX) H) (hPm : va_P D classes (wl cA am σm LM) H) (hS : va_S (fun q : Nat => s.heap.size ≤ q) s.heap H locs) (hl : lv_has ls 4 [(0, .ref b), (1, .ref (ax 0)), (2, .ref (am 0)), (3, .int (nI i))]) : W p l e room_1 s m #[Value.ref b] below meth c H locs 125 46410 (lw_Z below #[Value.ref b] s) (F0 m 18 ls []) := by
  obtain ⟨hx, hb, hr, hml, hown, hts, hX, hbl, hlocks, hgv⟩ := id C0
  have hbA : ¬ (fun q : Nat => s.heap.size ≤ q) b := Nat.not_le.mpr hbl
  refine lv_iload_n hx hb (by decide +kernel : decode code 18 = .ok (.iload_n 3, 1)) rfl (lv_at hl 3 rfl) ?_
  refine lv_aload_n hx hb (by decide +kernel : decode code 19 = .ok (.aload_n 0, 1)) rfl (lv_at hl 0 rfl) ?_
  refine va_slen hx hb hX hbl hbA hS (by decide +kernel : decode code 20 = .ok (.arraylength, 1)) ?_
  refine lv_iconst (v := 4) hx hb (by decide +kernel : decode code 21 = .ok (.iconst 4, 1)) (by decide) ?_
  refine lv_isub hx hb (by decide +kernel : decode code 22 = .ok (.isub, 1)) ?_
  have esub : (Int32.ofNat L - 4).toInt = (L : Int) - 4 := by
    rw [Int32.toInt_sub]
    have e1 : (Int32.ofNat L).toInt = (L : Int) := nI_toInt (by omega)
    have e2 : (4 : Int32).toInt = 4 := by decide
    rw [e1, e2]
    exact Int.bmod_eq_of_le (by omega) (by omega)
  have ei : (nI i).toInt = (i : Int) := nI_toInt (by omega)
  refine lv_icmp_gt (tgt := 873) hx hb (by decide +kernel : decode code 23 = .ok (.if_icmp .gt 850, 3)) (by decide) (fun _ => ?_) (fun hlt => ?_)
  · refine lv_iconst (v := 1) hx hb (by decide +kernel : decode code 873 = .ok (.iconst 1, 1)) (by decide) ?_
    refine va_forget hS.2.2 ?_
    refine W.widen (k := 600000) (n := 7302250) (Nat.le_of_ble_eq_true rfl) (Nat.le_of_ble_eq_true rfl) ?_
    exact lw_ret hx hb hr hlocks (by decide +kernel : decode code 874 = .ok (.ireturn, 1))
  · have hi4 : i + 4 ≤ L := by
      rw [Int32.lt_iff_toInt_lt, esub, ei] at hlt
      omega
    refine lv_aload_n hx hb (by decide +kernel : decode code 26 = .ok (.aload_n 0, 1)) rfl (lv_at hl 0 rfl) ?_
    refine lv_iload_n hx hb (by decide +kernel : decode code 27 = .ok (.iload_n 3, 1)) rfl (lv_at hl 3 rfl) ?_
    refine va_sld hx hb hX hbl hbA hS (vp_in_nI (by omega) (by omega)) (by decide +kernel : decode code 28 = .ok (.iaload, 1)) ?_
    refine lv_bipush (v := 31) hx hb (by decide +kernel : decode code 29 = .ok (.bipush 31, 2)) (by decide) ?_
    refine lv_iand hx hb (by decide +kernel : decode code 31 = .ok (.iand, 1)) ?_
    exact law_sw l hL C0 hKK hDx hDm hdis hs hi4 hn ih hR hPx hPm hS hl _
theorem law_loop (l : Launch) {Rel : sS → sS → Prop} (hL : L ≤ 2048) (C0 : lw_At p s m meth c b L xs) {D : va_G} {cA : ClassId} {ax am : Nat → Nat} (hKK : va_K D classes [(cA, .int)] s) (hDx : va_D (fun q : Nat => s.heap.size ≤ q) (wl cA ax σX0 LX)) (hDm : va_D (fun q : Nat => s.heap.size ≤ q) (wl cA am σM1 LM)) (hdis : ∀ i j : Nat, i < 88 → j < 37 → ax i ≠ am j) (hs : AllSt Rel) (n : Nat) : ∀ (i : Nat), i + 4 ≤ L + 4 → L + 4 - i < n → ∀ (σx σm : sS), Rel σx σm → ∀ (H : Heap) (locs : List Loc) (ls : Array Slot), va_P D classes (wl cA ax σx LX) H → va_P D classes (wl cA am σm LM) H → va_S (fun q : Nat => s.heap.size ≤ q) s.heap H locs → lv_has ls 4 [(0, .ref b), (1, .ref (ax 0)), (2, .ref (am 0)), (3, .int (nI i))] → W p l e room_1 s m #[Value.ref b] below meth c H locs 125 46410 (lw_Z below #[Value.ref b] s) (F0 m 18 ls []) := by
  induction n with
  | zero => intro i _ hn; exact absurd hn (Nat.not_lt_zero _)
  | succ n ih => exact fun i hi hn σx σm hR H locs ls hPx hPm hS hl => law_iter l hL C0 hKK hDx hDm hdis hs hi hn ih hR hPx hPm hS hl
set_option maxHeartbeats 4000000 in
set_option maxRecDepth 100000 in
theorem law_all (l : Launch) {Rel : sS → sS → Prop} (h0 : Rel σX0 σM1) (hs : AllSt Rel) (hL : L ≤ 2048) (C0 : lw_At p s m meth c b L xs) : W p l e room_1 s m #[Value.ref b] below meth c s.heap [] 0 0 (lw_Z below #[Value.ref b] s) (entryFrame m ([Value.ref b] : List Value).toArray 4) := by
  obtain ⟨hx, hb, hr, hml, hown, hts, hX, hbl, hlocks, hgv⟩ := id C0
  have hA : ∀ q : Nat, s.heap.size ≤ q → (fun q : Nat => s.heap.size ≤ q) q := fun _ h => h
  have htA := ALL_law hts
  have hN := NW_law hts
  have hN2 := NW2_law hts
  obtain ⟨c0, iS0, hKn0⟩ := u_known (C := R0_) (T := T0_) (N := 11) (n := 11) htA ws0_in (htA (.instantiable R0_ 11) (ALL_in 214 (by decide +kernel) rfl))
  obtain ⟨c1, iS1, hKn1⟩ := u_known (C := R1_) (T := T1_) (N := 5) (n := 5) htA ws1_in (htA (.instantiable R1_ 5) (ALL_in 69 (by decide +kernel) rfl))
  obtain ⟨c2, iS2, hKn2⟩ := u_known (C := R2_) (T := T2_) (N := 15) (n := 15) htA ws2_in (htA (.instantiable R2_ 15) (ALL_in 75 (by decide +kernel) rfl))
  obtain ⟨c3, iS3, hKn3⟩ := u_known (C := R3_) (T := T3_) (N := 7) (n := 7) htA ws3_in (htA (.instantiable R3_ 7) (ALL_in 21 (by decide +kernel) rfl))
  obtain ⟨c4, iS4, hKn4⟩ := u_known (C := R4_) (T := T4_) (N := 6) (n := 6) htA ws4_in (htA (.instantiable R4_ 6) (ALL_in 171 (by decide +kernel) rfl))
  obtain ⟨c5, iS5, hKn5⟩ := u_known (C := R5_) (T := T5_) (N := 14) (n := 14) htA ws5_in (htA (.instantiable R5_ 14) (ALL_in 13 (by decide +kernel) rfl))
  obtain ⟨c6, iS6, hKn6⟩ := u_known (C := R6_) (T := T6_) (N := 54) (n := 54) htA ws6_in (htA (.instantiable R6_ 54) (ALL_in 787 (by decide +kernel) rfl))
  obtain ⟨cA, kA, comp, hc1, hc2, hc3⟩ := Cond.arrayClass_spec (htA _ aw_int)
  obtain ⟨D, hKc⟩ : ∃ (D : va_G), ∀ (k : Nat) (q : vw_C), classes[k]? = some q → u_Kn s q.1 q.2.1 q.2.2 (D.1 k) (D.2 k) := by
    refine ⟨(fun k => match k with | 0 => c0 | 1 => c1 | 2 => c2 | 3 => c3 | 4 => c4 | 5 => c5 | _ => c6, fun k => match k with | 0 => iS0 | 1 => iS1 | 2 => iS2 | 3 => iS3 | 4 => iS4 | 5 => iS5 | _ => iS6), ?_⟩
    intro k q hq
    match k, hq with
    | 0, hq => cases hq; exact hKn0
    | 1, hq => cases hq; exact hKn1
    | 2, hq => cases hq; exact hKn2
    | 3, hq => cases hq; exact hKn3
    | 4, hq => cases hq; exact hKn4
    | 5, hq => cases hq; exact hKn5
    | 6, hq => cases hq; exact hKn6
    | k + 7, hq => simp [classes] at hq
  have hKK : va_K D classes [(cA, .int)] s := ⟨hKc, fun k q h => by
    have hk : k = 0 := by have := (List.getElem?_eq_some_iff.mp h).1; simp at this; exact this
    subst hk
    cases h
    exact ⟨fun n z => ⟨fun k h => (by cases h), kA, hc2, comp, hc3⟩, hc1⟩⟩
  have hS : va_S (fun q : Nat => s.heap.size ≤ q) s.heap s.heap [] := va_S.rf
  have hP : va_P D classes [] s.heap := fun k q h => by simp at h
  have hD : va_D (fun q : Nat => s.heap.size ≤ q) [] := ⟨fun i j p q h => by simp at h, fun k q h => by simp at h⟩
  have hl := lv_entry ([.ref b]) (n := 4) (Nat.le_of_ble_eq_true rfl)
  rw [lg_entry_eq]
  generalize (lg_sl ([.ref b]) ++ List.replicate (4 - (lg_sl ([.ref b])).length) Slot.unset).toArray = ls at hl ⊢
  have hl : lv_has ls 4 [(0, .ref b)] := hl
  refine va_new (ci := 5) (fs := [.null, .null, .null, .null, .null, .null, .int 0, .null, .int 0, .null, .null, .null, .int 0, .int 0]) (C := R5_) (T := T5_) (N := 14) hx hb htA ws5_in ty5_ ty5_ok hown (htA _ (ALL_in 12 (by decide +kernel) rfl)) (htA _ (ALL_in 13 (by decide +kernel) rfl)) (htA _ (ALL_in 1 (by decide +kernel) rfl)) hKK hP hD hS hA rfl df5 (Nat.le_of_ble_eq_true rfl) (Nat.le_of_ble_eq_true rfl) (by decide +kernel : decode code 0 = .ok (.new 7, 3)) (fun q1 H hP hD hS => ?_)
  refine lv_dup hx hb (by decide +kernel : decode code 3 = .ok (.dup, 1)) rfl ?_
  refine x_ctor (wr := []) k_GF lk_LW_9 hx hb hml hown htA hN hN2 hKK hP hD hS hA hl.1 (Nat.le_of_ble_eq_true rfl) ⟨Nat.le_of_ble_eq_true rfl, Nat.le_of_ble_eq_true rfl⟩ ⟨Nat.le_of_ble_eq_true rfl, Nat.le_of_ble_eq_true rfl⟩ (by decide +kernel : decode code 4 = .ok (.invokespecial 9, 3)) (fun ax H locs hu hP2 hD2 hS2 => ?_)
  clear hP hD hS
  subst hu
  have hP := hP2
  have hD := hD2
  have hS := hS2
  clear hP2 hD2 hS2
  rw [List.nil_append, pw_GF_wl] at hP hD
  refine lv_astore_n (lv' := [(1, .ref (ax 0)), (0, .ref b)]) hx hb (by decide +kernel : decode code 7 = .ok (.astore_n 1, 1)) rfl hl (by decide) rfl (fun ls hl => ?_)
  refine va_new (ci := 6) (fs := [.null, .null, .null, .null, .null, .null, .int 0, .null, .null, .null, .null, .null, .null, .null, .null, .null, .null, .null, .null, .null, .int 0, .int 0, .int 0, .int 0, .null, .null, .null, .null, .null, .null, .null, .null, .null, .int 0, .int 0, .int 0, .null, .null, .null, .null, .null, .null, .int 0, .int 0, .int 0, .int 0, .int 0, .null, .int 0, .int 0, .int 0, .null, .int 0, .int 0]) (C := R6_) (T := T6_) (N := 54) hx hb htA ws6_in ty6_ ty6_ok hown (htA _ (ALL_in 786 (by decide +kernel) rfl)) (htA _ (ALL_in 787 (by decide +kernel) rfl)) (htA _ (ALL_in 8 (by decide +kernel) rfl)) hKK hP hD hS hA rfl df6 (Nat.le_of_ble_eq_true rfl) (Nat.le_of_ble_eq_true rfl) (by decide +kernel : decode code 8 = .ok (.new 10, 3)) (fun q2 H hP hD hS => ?_)
  refine lv_dup hx hb (by decide +kernel : decode code 11 = .ok (.dup, 1)) rfl ?_
  refine x_ctor (wr := wl cA ax σX0 LX) k_MO lk_LW_12 hx hb hml hown htA hN hN2 hKK hP hD hS hA hl.1 (Nat.le_of_ble_eq_true rfl) ⟨Nat.le_of_ble_eq_true rfl, Nat.le_of_ble_eq_true rfl⟩ ⟨Nat.le_of_ble_eq_true rfl, Nat.le_of_ble_eq_true rfl⟩ (by decide +kernel : decode code 12 = .ok (.invokespecial 12, 3)) (fun am H locs hu hP2 hD2 hS2 => ?_)
  clear hP hD hS
  subst hu
  have hP := hP2
  have hD := hD2
  have hS := hS2
  clear hP2 hD2 hS2
  have hPx : va_P D classes (wl cA ax σX0 LX) H := fun k q hq => hP k q (by rw [List.getElem?_append_left (List.getElem?_eq_some_iff.mp hq).1]; exact hq)
  have hPm : va_P D classes (wl cA am σM1 LM) H := fun k q hq => hP ((wl cA ax σX0 LX).length + k) q (by rw [List.getElem?_append_right (Nat.le_add_right _ _), Nat.add_sub_cancel_left]; exact hq)
  have hDx : va_D (fun q : Nat => s.heap.size ≤ q) (wl cA ax σX0 LX) := ⟨fun i j x y hi hj hxy => hD.1 i j x y (by rw [List.getElem?_append_left (List.getElem?_eq_some_iff.mp hi).1]; exact hi) (by rw [List.getElem?_append_left (List.getElem?_eq_some_iff.mp hj).1]; exact hj) hxy, fun k q hq => hD.2 k q (by rw [List.getElem?_append_left (List.getElem?_eq_some_iff.mp hq).1]; exact hq)⟩
  have hDm : va_D (fun q : Nat => s.heap.size ≤ q) (wl cA am σM1 LM) := ⟨fun i j x y hi hj hxy => Nat.add_left_cancel (hD.1 ((wl cA ax σX0 LX).length + i) ((wl cA ax σX0 LX).length + j) x y (by rw [List.getElem?_append_right (Nat.le_add_right _ _), Nat.add_sub_cancel_left]; exact hi) (by rw [List.getElem?_append_right (Nat.le_add_right _ _), Nat.add_sub_cancel_left]; exact hj) hxy), fun k q hq => hD.2 ((wl cA ax σX0 LX).length + k) q (by rw [List.getElem?_append_right (Nat.le_add_right _ _), Nat.add_sub_cancel_left]; exact hq)⟩
  have hdis : ∀ i j : Nat, i < 88 → j < 37 → ax i ≠ am j := by
    intro i j hi hj hij
    obtain ⟨ki, hki⟩ : ∃ k, LX[i]? = some k := ⟨_, List.getElem?_eq_getElem (by show i < 88; exact hi)⟩
    obtain ⟨kj, hkj⟩ : ∃ k, LM[j]? = some k := ⟨_, List.getElem?_eq_getElem (by show j < 37; exact hj)⟩
    have g1 := wl_get (cA := cA) (ad := ax) (σ := σX0) hki
    have g2 := wl_get (cA := cA) (ad := am) (σ := σM1) hkj
    have hil := (List.getElem?_eq_some_iff.mp g1).1
    have := hD.1 i ((wl cA ax σX0 LX).length + j) _ _ (by rw [List.getElem?_append_left hil]; exact g1) (by rw [List.getElem?_append_right (Nat.le_add_right _ _), Nat.add_sub_cancel_left]; exact g2) hij
    omega
  refine lv_astore_n (lv' := [(2, .ref (am 0)), (1, .ref (ax 0)), (0, .ref b)]) hx hb (by decide +kernel : decode code 15 = .ok (.astore_n 2, 1)) rfl hl (by decide) rfl (fun ls hl => ?_)
  refine lv_iconst (v := 0) hx hb (by decide +kernel : decode code 16 = .ok (.iconst 0, 1)) (by decide) ?_
  refine lv_istore_n (lv' := [(3, .int 0), (2, .ref (am 0)), (1, .ref (ax 0)), (0, .ref b)]) hx hb (by decide +kernel : decode code 17 = .ok (.istore_n 3, 1)) rfl hl (by decide) rfl (fun ls hl => ?_)
  refine W.widen (k := 125) (n := 46410) (Nat.le_of_ble_eq_true rfl) (Nat.le_of_ble_eq_true rfl) ?_
  have hl : lv_has ls 4 [(3, .int (nI 0)), (2, .ref (am 0)), (1, .ref (ax 0)), (0, .ref b)] := hl
  exact law_loop l hL C0 hKK hDx hDm hdis hs (L + 5) 0 (by omega) (by omega) σX0 σM1 h0 H locs ls hPx hPm hS (lv_sub hl [3, 2, 1, 0] rfl)
end LAW2
