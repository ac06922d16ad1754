/-! the reference: looking, by the frame on top -/
def mF (D : Nat) (σ σ' : sS) : Prop := (∀ x, x ≠ 0 → (x < 20 ∨ 28 < x) → σ' x = σ x) ∧ (∀ i, i ≠ 33 → i ≠ 34 → i ≠ 35 → σ' 0 i = σ 0 i) ∧ ∀ x i, 22 ≤ x → x ≤ 28 → i < D → σ' x i = σ x i
theorem mF.refl (D : Nat) (σ : sS) : mF D σ σ := ⟨fun _ _ _ => rfl, fun _ _ _ _ => rfl, fun _ _ _ _ _ => rfl⟩
theorem mF.trans {D : Nat} {σ σ1 σ2 : sS} (h : mF D σ σ1) (g : mF D σ1 σ2) : mF D σ σ2 := ⟨fun c a b => by rw [g.1 c a b, h.1 c a b], fun i a b e => by rw [g.2.1 i a b e, h.2.1 i a b e], fun x i a b e => by rw [g.2.2 x i a b e, h.2.2 x i a b e]⟩
theorem mF.less {D E : Nat} {σ σ' : sS} (h : mF E σ σ') (hd : D ≤ E) : mF D σ σ' := ⟨h.1, h.2.1, fun x i a b e => h.2.2 x i a b (by omega)⟩
theorem fdK.mF {σ σ' : sS} (h : fdK σ σ') (D : Nat) : mF D σ σ' := ⟨fun x a b => h.1 x a (by omega) (by omega), fun i a b _ => h.2 i a b, fun x i a b _ => by rw [h.1 x (by omega) (by omega) (by omega)]⟩
theorem GM.keptF {D : Nat} {σ σ' : sS} {v : VT} {c : CT} (wc : WFC c) (h : GM σ v c) (hk : mF D σ σ') : GM σ' v c := ⟨h.1.kept (hk.2.1 6 (by omega) (by omega) (by omega)) (fun x a b => hk.1 x (by omega) (by omega)), h.2.kept wc (fun i a b => hk.2.1 i (by omega) (by omega) (by omega)) (fun x a b => hk.1 x (by omega) (by omega))⟩
theorem mF_pop (D : Nat) (σ : sS) (x : Int32) : mF D σ (up σ 0 35 x) := ⟨fun y a _ => up_cell _ _ a, fun i _ _ a => up_other _ _ (Or.inr a), fun y i a _ _ => by rw [up_cell _ _ (by omega)]⟩
theorem mF_top {D a : Nat} (σ : sS) (x : Int32) (h1 : 22 ≤ a) (h2 : a ≤ 28) : mF D σ (up σ a D x) := ⟨fun y _ b => up_cell _ _ (by omega), fun i _ _ _ => by rw [up_cell _ _ (by omega)], fun y i _ _ e => up_other _ _ (Or.inr (by omega))⟩
theorem FM.pop {σ : sS} {L : List Nat} {w : Nat} (h : FM σ L w) (x : Int32) : FM (up σ 0 35 x) L w := ⟨by rw [up_other _ _ (Or.inr (by omega))]; exact h.1, by rw [up_other _ _ (Or.inr (by omega))]; exact h.2.1, fun i y hy => by rw [up_cell _ _ (by omega), up_cell _ _ (by omega)]; exact h.2.2 i y hy⟩
theorem FM.top {σ : sS} {L : List Nat} {w a D : Nat} (h : FM σ L w) (x : Int32) (h1 : 22 ≤ a) (h2 : a ≤ 28) : FM (up σ a D x) L w := ⟨by rw [up_cell _ _ (by omega)]; exact h.1, by rw [up_cell _ _ (by omega)]; exact h.2.1, fun i y hy => by rw [up_cell _ _ (by omega), up_cell _ _ (by omega)]; exact h.2.2 i y hy⟩
/-- what is on top of the stack -/
def Tp (σ : sS) (D q p ph : Nat) : Prop := σ 0 35 = nI (D + 1) ∧ σ 22 D = nI q ∧ σ 23 D = nI p ∧ σ 24 D = nI ph
theorem Tp.pred {σ : sS} {D q p ph : Nat} (h : Tp σ D q p ph) : σ 0 35 - 1 = nI D := by
  rw [h.1, show (1 : Int32) = nI 1 from rfl, nI_subm (by omega), Nat.add_sub_cancel]
theorem c_MO_looks (Y : List kd) (d : Nat) {σ : sS} {E : Nat} (h35 : σ 0 35 = nI E) (hE : E < 400) (q p : Nat) (k : sS → Prop) (hk : ∀ σ', Tp σ' E q p 0 → mF E σ σ' → (∀ x, x ≠ 0 → x ≠ 22 → x ≠ 23 → x ≠ 24 → σ' x = σ x) → (∀ i, i ≠ 35 → σ' 0 i = σ 0 i) → k σ') : CJ Y d y_MO_looks [sR 0 (.inl 6), sI (nI q), sI (nI p)] σ (rN k) := by
  have vE : vp_in (σ 0 35) 400 := by rw [h35]; exact vinI hE (by omega)
  refine s_MO_looks_0 Y d 0 _ _ σ (rN k) ⟨vE, by rw [up_cell _ _ (by omega)]; exact vE, by rw [up_cell _ _ (by omega), up_cell _ _ (by omega)]; exact vE, ?_⟩
  simp only [up_cell _ _ (show (0 : Nat) ≠ 0 + 22 by omega), up_cell _ _ (show (0 : Nat) ≠ 0 + 23 by omega), up_cell _ _ (show (0 : Nat) ≠ 0 + 24 by omega), h35, cl_nI (show E < 2 ^ 31 by omega), nI_s1]
  refine hk _ ⟨up_self _ _ _ _, ?_, ?_, ?_⟩ ⟨fun x a b => ?_, fun i a b e => ?_, fun x i a b e => ?_⟩ (fun x a b e f => ?_) (fun i a => ?_)
  · rw [up_cell _ _ (by omega), up_cell _ _ (by omega), up_cell _ _ (by omega)]; exact up_self σ 22 _ _
  · rw [up_cell _ _ (by omega), up_cell _ _ (by omega)]; exact up_self _ 23 _ _
  · rw [up_cell _ _ (by omega)]; exact up_self _ 24 _ _
  · rw [up_cell _ _ a, up_cell _ _ (by omega), up_cell _ _ (by omega), up_cell _ _ (by omega)]
  · rw [up_other _ _ (Or.inr e), up_cell _ _ (by omega), up_cell _ _ (by omega), up_cell _ _ (by omega)]
  · rw [up_cell _ _ (by omega), up_other _ _ (Or.inr (by omega)), up_other _ _ (Or.inr (by omega)), up_other _ _ (Or.inr (by omega))]
  · rw [up_cell _ _ a, up_cell _ _ (by omega), up_cell _ _ (by omega), up_cell _ _ (by omega)]
  · rw [up_other _ _ (Or.inr a), up_cell _ _ (by omega), up_cell _ _ (by omega), up_cell _ _ (by omega)]
theorem FM.far {σ σ' : sS} {L : List Nat} {w : Nat} (h : FM σ L w) (h1 : ∀ x, x ≠ 0 → x ≠ 22 → x ≠ 23 → x ≠ 24 → σ' x = σ x) (h2 : ∀ i, i ≠ 35 → σ' 0 i = σ 0 i) : FM σ' L w := ⟨by rw [h2 33 (by omega)]; exact h.1, by rw [h2 34 (by omega)]; exact h.2.1, fun i y hy => by rw [h1 20 (by omega) (by omega) (by omega) (by omega), h1 21 (by omega) (by omega) (by omega) (by omega)]; exact h.2.2 i y hy⟩
theorem c_MO_looksAs (Y : List kd) (d : Nat) {σ : sS} {D q p ph : Nat} (ht : Tp σ D q p ph) (hD : D < 400) (r : Nat) (k : sS → Prop) (hk : ∀ σ', Tp σ' D r p 0 → mF D σ σ' → (∀ x, x ≠ 0 → x ≠ 22 → x ≠ 23 → x ≠ 24 → σ' x = σ x) → (∀ i, i ≠ 35 → σ' 0 i = σ 0 i) → k σ') : CJ Y d y_MO_looksAs [sR 0 (.inl 6), sI (nI r)] σ (rN k) := by
  have vD : vp_in (σ 0 35 - 1) 400 := by rw [ht.pred]; exact vinI hD (by omega)
  refine s_MO_looksAs_0 Y d 0 _ σ (rN k) ⟨vD, by rw [up_cell _ _ (by omega)]; exact vD, ?_⟩
  rw [up_cell _ _ (show (0 : Nat) ≠ 0 + 22 by omega), ht.pred, cl_nI (by omega)]
  refine hk _ ⟨?_, ?_, ?_, ?_⟩ ⟨fun x a b => ?_, fun i a b e => ?_, fun x i a b e => ?_⟩ (fun x a b e f => ?_) (fun i a => ?_)
  · rw [up_cell _ _ (by omega), up_cell _ _ (by omega)]; exact ht.1
  · rw [up_cell _ _ (by omega)]; exact up_self σ 22 _ _
  · rw [up_cell _ _ (by omega), up_cell _ _ (by omega)]; exact ht.2.2.1
  · exact up_self _ 24 _ _
  · rw [up_cell _ _ (by omega), up_cell _ _ (by omega)]
  · rw [up_cell _ _ (by omega), up_cell _ _ (by omega)]
  · rw [up_other _ _ (Or.inr (by omega)), up_other _ _ (Or.inr (by omega))]
  · rw [up_cell _ _ (by omega), up_cell _ _ (by omega)]
  · rw [up_cell _ _ (by omega), up_cell _ _ (by omega)]
abbrev hdM (Y : List kd) (d : Nat) (σ : sS) (Q : Option sv → sS → Prop) : Prop := Jd Y (d + 7) y_MO_findFaults 21 [(0, sR 0 (.inl 6))] [] σ Q
theorem itM (Y : List kd) (d : Nat) {σ : sS} {D q p ph : Nat} (ht : Tp σ D q p ph) (hD : D < 400) (Q : Option sv → sS → Prop) (h : CJ Y (d + 6) y_MO_goesOn [sR 0 (.inl 6), sI (nI q), sI (nI p)] σ (rN fun σ' => hdM Y d σ' Q)) : hdM Y d σ Q := by
  have vD : vp_in (σ 0 35 - 1) 400 := by rw [ht.pred]; exact vinI hD (by omega)
  refine s_MO_findFaults_21 Y (d + 6) 0 σ Q ⟨fun h0 => absurd ?_ h0, fun _ => ⟨vD, vD, ?_⟩⟩
  · rw [ht.1, show (0 : Int32) = nI 0 from rfl, i32_lt (by omega) (by omega)]
    omega
  · rw [ht.pred, cl_nI (by omega), show σ (0 + 22) D = _ from ht.2.1, show σ (0 + 23) D = _ from ht.2.2.1]
    exact h
theorem c_MO_goesOn (Y : List kd) (d : Nat) {σ : sS} {q p s : Nat} (h7 : σ 7 q = nI s) (hs : s ≤ 126) (hq : q < 25) (k : sS → Prop)
    (a33 : s = 33 ∨ s = 126 → CJ Y d y_MO_findsThere [sR 0 (.inl 6), sI (nI q), sI (nI p)] σ (rN k)) (a35 : s = 35 → CJ Y d y_MO_findsNumber [sR 0 (.inl 6), sI (nI q), sI (nI p)] σ (rN k)) (a38 : s = 38 → CJ Y d y_MO_findsAgain [sR 0 (.inl 6), sI (nI q), sI (nI p)] σ (rN k)) (a47 : s = 47 → CJ Y d y_MO_findsEither [sR 0 (.inl 6), sI (nI q), sI (nI p)] σ (rN k)) (a64 : s = 64 → CJ Y d y_MO_findsList [sR 0 (.inl 6), sI (nI q), sI (nI p)] σ (rN k)) (a94 : s = 94 → CJ Y d y_MO_looksAs [sR 0 (.inl 6), sI 0] σ (rN k)) (a123 : s = 123 → CJ Y d y_MO_findsRecord [sR 0 (.inl 6), sI (nI q), sI (nI p)] σ (rN k)) (a0 : s ≠ 33 → s ≠ 126 → s ≠ 35 → s ≠ 38 → s ≠ 47 → s ≠ 64 → s ≠ 94 → s ≠ 123 → k (up σ 0 35 (σ 0 35 - 1))) : CJ Y (d + 1) y_MO_goesOn [sR 0 (.inl 6), sI (nI q), sI (nI p)] σ (rN k) := by
  refine s_MO_goesOn_0 Y d 0 _ _ σ (rN k) ⟨vinI hq (by omega), ?_⟩
  rw [cl_nI (by omega), show σ (0 + 7) q = _ from h7, z_eq (by omega) 33 (by omega), z_eq (by omega) 35 (by omega), z_eq (by omega) 38 (by omega), z_eq (by omega) 47 (by omega), z_eq (by omega) 64 (by omega), z_eq (by omega) 94 (by omega), z_eq (by omega) 123 (by omega), z_eq (by omega) 126 (by omega)]
  exact ⟨fun h => a33 (Or.inl h), fun h1 => ⟨a35, fun h2 => ⟨a38, fun h3 => ⟨a47, fun h4 => ⟨a64, fun h5 => ⟨a94, fun h6 => ⟨a123, fun h7 => ⟨fun h => a33 (Or.inr h), fun h8 => a0 h1 h8 h2 h3 h4 h5 h6 h7⟩⟩⟩⟩⟩⟩⟩⟩
theorem c_MO_findsNumber (Y : List kd) (d : Nat) {v : VT} (w : WFV v) {c : CT} (wc : WFC c) {σ : sS} {D q p ph : Nat} (ht : Tp σ D q p ph) (hx : GM σ v c) {L : List Nat} {wt : Nat} (hf : FM σ L wt) (hl : L.length < 16384) (hq : q < cM c) (hp : p < v.1) (k : sS → Prop) (hk : ∀ σ', FM σ' (L ++ numL c v q p) wt → mF D σ σ' → σ' 0 35 = nI D → k σ') : CJ Y (d + 1) y_MO_findsNumber [sR 0 (.inl 6), sI (nI q), sI (nI p)] σ (rN k) := by
  have h20 := w.2.1
  have hm := wc.2.1
  have kd := w.2.2.2.2.2.2.2 p hp
  have cq := wc.2.2.2.2.2.2.2.1 q hq
  have nb : v.2 0 p = 0 → v.2 1 p ≤ 99 := fun z => kd.2.1 z
  have vp : vp_in (nI p) 21 := vinI (by omega) (by omega)
  have vq : vp_in (nI q) 25 := vinI (by omega) (by omega)
  obtain ⟨-, c1, c2, -⟩ := hx.2.2.2.2.1 q hq
  obtain ⟨r0, r1, -, r5⟩ := hx.1.2.1 p hp
  have fin : ∀ M, numL c v q p = M → ∀ σ', FM σ' (L ++ M) wt → fdK (up σ 0 35 (nI D)) σ' → k σ' := fun M e σ' h1 h2 => hk σ' (by rw [e]; exact h1) ((mF_pop D σ (nI D)).trans (h2.mF D)) (by rw [h2.2 35 (by omega) (by omega)]; exact up_self _ _ _ _)
  refine s_MO_findsNumber_0 Y d 0 _ _ σ (rN k) ⟨vp, ?_⟩
  rw [ht.pred]
  have e2 : up σ 0 35 (nI D) (0 + 2) (Int32.toNatClampNeg (nI p)) = nI (v.2 0 p) := by rw [up_cell _ _ (by omega), cl_nI (by omega)]; exact r0
  have e3 : v.2 0 p = 0 → up σ 0 35 (nI D) (0 + 3) (Int32.toNatClampNeg (nI p)) = nI (v.2 1 p) := by
    intro z
    rw [up_cell _ _ (by omega), cl_nI (by omega)]
    rw [if_pos z] at r1
    exact r1
  have e6 : up σ 0 35 (nI D) (0 + 6) (Int32.toNatClampNeg (nI p)) = nI (v.2 5 p) := by rw [up_cell _ _ (by omega), cl_nI (by omega)]; exact r5
  have e8 : up σ 0 35 (nI D) (0 + 8) (Int32.toNatClampNeg (nI q)) = nI (cF c 1 q) := by rw [up_cell _ _ (by omega), cl_nI (by omega)]; exact c1
  have e9 : up σ 0 35 (nI D) (0 + 9) (Int32.toNatClampNeg (nI q)) = nI (cF c 2 q) := by rw [up_cell _ _ (by omega), cl_nI (by omega)]; exact c2
  rw [e2, e6, e8, e9]
  have hf1 := hf.pop (nI D)
  refine ⟨fun he => ⟨vp, vq, ?_⟩, fun hne => ⟨vp, ?_⟩⟩
  · rw [z_eq (by omega) 0 (by omega)] at he
    have := nb he
    rw [e3 he, i32_lt (by omega) (by omega), i32_lt (by omega) (by omega)]
    refine ⟨fun h1 => ⟨vp, vq, fun h2 => ?_, fun h2 => ⟨vp, ?_⟩⟩, fun h1 => ⟨vp, ?_⟩⟩
    · refine fin [] (by unfold numL; rw [if_neg (by omega), if_neg h1, if_neg h2]) _ ?_ (fdK.refl _)
      rw [List.append_nil]
      exact hf1
    · exact c_MO_finds Y d hf1 hl (v.2 5 p) 3 (by omega) _ (fin _ (by unfold numL; rw [if_neg (by omega), if_neg h1, if_pos h2]))
    · exact c_MO_finds Y d hf1 hl (v.2 5 p) 2 (by omega) _ (fin _ (by unfold numL; rw [if_neg (by omega), if_pos h1]))
  · rw [z_eq (by omega) 0 (by omega)] at hne
    exact c_MO_finds Y d hf1 hl (v.2 5 p) 1 (by omega) _ (fin _ (by unfold numL; rw [if_pos hne]))
theorem c_MO_findsThere (Y : List kd) (d : Nat) {v : VT} (w : WFV v) {c : CT} (wc : WFC c) {σ : sS} {D q p ph : Nat} (ht : Tp σ D q p ph) (hD : D < 400) (hx : GM σ v c) {L : List Nat} {wt : Nat} (hf : FM σ L wt) (hl : L.length < 16384) (hq : q < cM c) (hp : p < v.1) (hs : cF c 0 q = 33 ∨ cF c 0 q = 126) (k : sS → Prop) (h1 : v.2 0 p = 1 → ∀ σ', FM σ' (L ++ (if cF c 0 q = 33 then [100 * v.2 5 p + 4] else [])) wt → mF D σ σ' → σ' 0 35 = nI D → k σ')
    (h2 : v.2 0 p ≠ 1 → ∀ σ', Tp σ' D (q + 1) p 0 → mF D σ σ' → FM σ' L wt → k σ') : CJ Y (d + 1) y_MO_findsThere [sR 0 (.inl 6), sI (nI q), sI (nI p)] σ (rN k) := by
  have h20 := w.2.1
  have hm := wc.2.1
  have kd := w.2.2.2.2.2.2.2 p hp
  have vp : vp_in (nI p) 21 := vinI (by omega) (by omega)
  have vq : vp_in (nI q) 25 := vinI (by omega) (by omega)
  have hc1 := wc.c1 hq (by omega)
  obtain ⟨c0, -, -, c10, -⟩ := hx.2.2.2.2.1 q hq
  have c10 := c10 (by omega) hc1.1
  obtain ⟨r0, -, -, r5⟩ := hx.1.2.1 p hp
  have fin : ∀ M, (if cF c 0 q = 33 then [100 * v.2 5 p + 4] else []) = M → v.2 0 p = 1 → ∀ σ', FM σ' (L ++ M) wt → fdK (up σ 0 35 (nI D)) σ' → k σ' := fun M e z σ' g1 g2 => h1 z σ' (by rw [e]; exact g1) ((mF_pop D σ (nI D)).trans (g2.mF D)) (by rw [g2.2 35 (by omega) (by omega)]; exact up_self _ _ _ _)
  refine s_MO_findsThere_0 Y d 0 _ _ σ (rN k) ⟨vp, ?_⟩
  rw [ht.pred]
  have e6 : up σ 0 35 (nI D) (0 + 6) (Int32.toNatClampNeg (nI p)) = nI (v.2 5 p) := by rw [up_cell _ _ (by omega), cl_nI (by omega)]; exact r5
  have e7 : up σ 0 35 (nI D) (0 + 7) (Int32.toNatClampNeg (nI q)) = nI (cF c 0 q) := by rw [up_cell _ _ (by omega), cl_nI (by omega)]; exact c0
  rw [e6, e7, cl_nI (show p < 2 ^ 31 by omega), show σ (0 + 2) p = _ from r0, z_eq (by omega) 1 (by omega), z_eq (by omega) 33 (by omega)]
  refine ⟨fun z => ⟨vq, fun hn => ?_, fun he => ⟨vp, ?_⟩⟩, fun z => ⟨vq, ?_⟩⟩
  · refine fin [] (if_neg hn) z _ ?_ (fdK.refl _)
    rw [List.append_nil]
    exact hf.pop _
  · exact c_MO_finds Y d (hf.pop _) hl (v.2 5 p) 4 (by omega) _ (fin _ (if_pos he) z)
  · rw [cl_nI (show q < 2 ^ 31 by omega), show σ (0 + 10) q = _ from c10]
    exact c_MO_looksAs Y d ht hD _ _ (fun σ' a1 a2 a3 a4 => h2 z σ' a1 a2 (hf.far a3 a4))
def RnM (Y : List kd) (d : Nat) (c : CT) (v : VT) (q p D U : Nat) (res : List Nat × Nat) : Prop := ∀ (σ : sS) (L : List Nat) (wt : Nat) (Q : Option sv → sS → Prop), Tp σ D q p 0 → GM σ v c → FM σ L wt → L.length + 6 * v.2 4 p ≤ U → (∀ σ', FM σ' (L ++ res.1) (wt + res.2) → mF D σ σ' → σ' 0 35 = nI D → hdM Y d σ' Q) → hdM Y d σ Q
theorem Tp.under {σ σ' : sS} {D q p ph : Nat} (h : σ 22 D = nI q ∧ σ 23 D = nI p ∧ σ 24 D = nI ph) (hm : mF (D + 1) σ σ') (h35 : σ' 0 35 = nI (D + 1)) : Tp σ' D q p ph := ⟨h35, by rw [hm.2.2 22 D (by omega) (by omega) (by omega)]; exact h.1, by rw [hm.2.2 23 D (by omega) (by omega) (by omega)]; exact h.2.1, by rw [hm.2.2 24 D (by omega) (by omega) (by omega)]; exact h.2.2⟩
theorem run_list (Y : List kd) (d : Nat) {v : VT} (w : WFV v) {c : CT} (wc : WFC c) {q p D U : Nat} (hU : U ≤ 6060) (hq : q < cM c) (hs : cF c 0 q = 64) (hp : p < v.1) (hD : D < 399) (res : Nat → List Nat × Nat) (hres : ∀ j, j < v.2 2 p → (res j).1.length ≤ 6 * v.2 4 (kch v p j)) (hlook : ∀ j, j < v.2 2 p → RnM Y d c v (q + 1) (kch v p j) (D + 1) U (res j)) : RnM Y d c v q p D U (if v.2 0 p = 3 then (lenL c v q p ++ (foldR res (v.2 2 p)).1, (foldR res (v.2 2 p)).2) else ([100 * v.2 5 p + 10], 0)) := by
  have h20 := w.2.1
  have hm := wc.2.1
  have hk5 := w.kids5 hp
  have kd := w.2.2.2.2.2.2.2 p hp
  have cq := wc.2.2.2.2.2.2.2.1 q hq
  have sp := w.sp20 hp
  have hc1 := wc.c1 hq (by omega)
  have vp : vp_in (nI p) 21 := vinI (by omega) (by omega)
  have vq : vp_in (nI q) 25 := vinI (by omega) (by omega)
  intro σ L wt Q ht hx hf hl hk
  have step : ∀ (σ : sS) (ph : Nat), Tp σ D q p ph → GM σ v c → CJ Y (d + 5) y_MO_findsList [sR 0 (.inl 6), sI (nI q), sI (nI p)] σ (rN fun σ' => hdM Y d σ' Q) → hdM Y d σ Q := by
    intro σ ph ht hx h
    refine itM Y d ht (by omega) Q (c_MO_goesOn Y (d + 5) (hx.2.2.2.2.1 q hq).1 (by omega) (by omega) _ (by intro z; omega) (by intro z; omega) (by intro z; omega) (by intro z; omega) (fun _ => h) (by intro z; omega) (by intro z; omega) (by intros; omega))
  by_cases h3 : v.2 0 p = 3
  · rw [if_pos h3] at hk
    -- behind the length
    have l89 : ∀ m i, i + m = v.2 2 p → ∀ τ : sS, Tp τ D q p i → GM τ v c → FM τ (L ++ (lenL c v q p ++ (foldR res i).1)) (wt + (foldR res i).2) → mF D σ τ → (foldR res i).1.length + 6 * (p + 1) ≤ 6 * kch v p i → Jd Y (d + 4 + 1) y_MO_findsList 89 [(0, sR 0 (.inl 6)), (1, sI (nI q)), (2, sI (nI p)), (3, sI (nI i))] [] τ (rN fun σ' => hdM Y d σ' Q) := by
      intro m
      induction m with
      | zero =>
        intro i hi τ t0 t1 t2 t3 t4
        have : i = v.2 2 p := by omega
        subst this
        refine s_MO_findsList_89 Y (d + 4) 0 _ _ _ τ _ ⟨vp, fun h => absurd ?_ h, fun _ => ?_⟩
        · rw [cl_nI (by omega)]
          exact (t1.1.num w hp (by omega)).symm
        · rw [t0.pred]
          exact hk _ (t2.pop _) (t3.trans (mF_pop D τ _)) (up_self _ _ _ _)
      | succ m ih =>
        intro i hi τ t0 t1 t2 t3 t4
        have hiK : i < v.2 2 p := by omega
        have hci := w.kchlt hp hiK
        have hin : kch v p i + v.2 4 (kch v p i) ≤ p + v.2 4 p := ch_in w.2.2.1 hp (k := i + 1) (by omega)
        have hl1 : (lenL c v q p).length ≤ 1 := by
          unfold lenL
          split
          · exact Nat.le_refl _
          · exact Nat.zero_le _
        have vD : vp_in (τ 0 35 - 1) 400 := by rw [t0.pred]; exact vinI (by omega) (by omega)
        refine s_MO_findsList_89 Y (d + 4) 0 _ _ _ τ _ ⟨vp, fun _ => ⟨vD, vD, vq, ?_⟩, fun h => ?_⟩
        · rw [t0.pred, cl_nI (show D < 2 ^ 31 by omega), show τ (0 + 24) D = _ from t0.2.2.2, nI_s1]
          have m1 : mF D τ (up τ (0 + 24) D (nI (i + 1))) := mF_top τ _ (by omega) (by omega)
          have x1 := t1.keptF wc m1
          refine c_MO_childOf Y (d + 4) w x1.1 hp (by omega) _ ?_
          have e10 : up τ (0 + 24) D (nI (i + 1)) (0 + 10) (Int32.toNatClampNeg (nI q)) = nI (q + 1) := by
            rw [cl_nI (by omega)]
            exact (x1.2.2.2.2.1 q hq).2.2.2.1 (by omega) hc1.1
          rw [e10]
          have t35 : up τ (0 + 24) D (nI (i + 1)) 0 35 = nI (D + 1) := by rw [up_cell _ _ (by omega)]; exact t0.1
          refine c_MO_looks Y (d + 4) t35 (by omega) _ _ _ (fun σ2 a1 a2 a3 a4 => ?_)
          have f1 : FM (up τ (0 + 24) D (nI (i + 1))) (L ++ (lenL c v q p ++ (foldR res i).1)) (wt + (foldR res i).2) := t2.top _ (by omega) (by omega)
          refine hlook i hiK σ2 _ _ Q a1 (x1.keptF wc a2) (f1.far a3 a4) ?_ (fun σ3 b1 b2 b3 => ?_)
          · rw [List.length_append, List.length_append]
            omega
          · have und : up τ (0 + 24) D (nI (i + 1)) 22 D = nI q ∧ up τ (0 + 24) D (nI (i + 1)) 23 D = nI p ∧ up τ (0 + 24) D (nI (i + 1)) 24 D = nI (i + 1) := ⟨by rw [up_cell _ _ (by omega)]; exact t0.2.1, by rw [up_cell _ _ (by omega)]; exact t0.2.2.1, up_self τ 24 _ _⟩
            have T3 : Tp σ3 D q p (i + 1) := Tp.under und (a2.trans b2) b3
            have G3 : GM σ3 v c := (x1.keptF wc a2).keptF wc b2
            refine step σ3 (i + 1) T3 G3 ?_
            have vD3 : vp_in (σ3 0 35 - 1) 400 := by rw [T3.pred]; exact vinI (by omega) (by omega)
            refine s_MO_findsList_0 Y (d + 4) 0 _ _ σ3 _ ⟨vD3, fun _ => ?_, fun h => ?_⟩
            · rw [T3.pred, cl_nI (show D < 2 ^ 31 by omega), show σ3 (0 + 24) D = _ from T3.2.2.2]
              refine s_MO_findsList_49 Y (d + 4) 0 _ _ _ σ3 _ ⟨fun _ => ?_, fun h => ?_⟩
              · refine ih (i + 1) (by omega) σ3 T3 G3 ?_ (t3.trans (m1.trans ((a2.trans b2).less (by omega)))) ?_
                · rw [foldR_succ]
                  show FM σ3 (L ++ (lenL c v q p ++ ((foldR res i).1 ++ (res i).1))) (wt + ((foldR res i).2 + (res i).2))
                  rw [← List.append_assoc (lenL c v q p), ← List.append_assoc L, ← Nat.add_assoc]
                  exact b1
                · rw [foldR_succ]
                  show ((foldR res i).1 ++ (res i).1).length + 6 * (p + 1) ≤ 6 * (kch v p i + v.2 4 (kch v p i))
                  rw [List.length_append]
                  have := hres i hiK
                  omega
              · rw [z_eq (by omega) 0 (by omega)] at h
                omega
            · rw [T3.pred, cl_nI (show D < 2 ^ 31 by omega), show σ3 (0 + 24) D = _ from T3.2.2.2, z_eq (by omega) 0 (by omega)] at h
              omega
        · rw [cl_nI (by omega), show τ (0 + 3) p = _ from t1.1.num w hp (by omega), i32_eq (by omega) (by omega)] at h
          omega
    have start : ∀ τ : sS, Tp τ D q p 0 → GM τ v c → FM τ (L ++ lenL c v q p) wt → mF D σ τ → Jd Y (d + 4 + 1) y_MO_findsList 89 [(0, sR 0 (.inl 6)), (1, sI (nI q)), (2, sI (nI p)), (3, sI (nI 0))] [] τ (rN fun σ' => hdM Y d σ' Q) := by
      intro τ t0 t1 t2 t3
      refine l89 (v.2 2 p) 0 (by omega) τ t0 t1 ?_ t3 (Nat.le_of_eq ?_)
      · show FM τ (L ++ (lenL c v q p ++ [])) wt
        rw [List.append_nil]
        exact t2
      · show 0 + 6 * (p + 1) = 6 * (p + 1)
        omega
    refine step σ 0 ht hx ?_
    have vD : vp_in (σ 0 35 - 1) 400 := by rw [ht.pred]; exact vinI (by omega) (by omega)
    obtain ⟨-, c1, c2, -⟩ := hx.2.2.2.2.1 q hq
    refine s_MO_findsList_0 Y (d + 4) 0 _ _ σ _ ⟨vD, fun h => ?_, fun _ => ⟨vp, fun _ => ?_, fun h => ?_⟩⟩
    · rw [ht.pred, cl_nI (show D < 2 ^ 31 by omega), show σ (0 + 24) D = _ from ht.2.2.2, z_eq (by omega) 0 (by omega)] at h
      omega
    · rw [ht.pred, cl_nI (show D < 2 ^ 31 by omega), show σ (0 + 24) D = _ from ht.2.2.2]
      refine s_MO_findsList_49 Y (d + 4) 0 _ _ _ σ _ ⟨fun h => absurd rfl h, fun _ => ⟨vp, vq, vq, ?_⟩⟩
      rw [cl_nI (show p < 2 ^ 31 by omega), cl_nI (show q < 2 ^ 31 by omega), show σ (0 + 3) p = _ from hx.1.num w hp (by omega), show σ (0 + 8) q = _ from c1, show σ (0 + 9) q = _ from c2]
      have hin : iIn (nI (v.2 2 p)) (nI (cF c 1 q)) (nI (cF c 2 q)) = 0 ↔ (v.2 2 p < cF c 1 q ∨ cF c 2 q < v.2 2 p) := by
        have q1 := i32_lt (show v.2 2 p < 2 ^ 31 by omega) (show cF c 1 q < 2 ^ 31 by omega)
        have q2 := i32_lt (show cF c 2 q < 2 ^ 31 by omega) (show v.2 2 p < 2 ^ 31 by omega)
        unfold iIn
        by_cases z1 : v.2 2 p < cF c 1 q
        · rw [if_pos (q1.mpr z1)]; exact ⟨fun _ => Or.inl z1, fun _ => rfl⟩
        · rw [if_neg (fun z => z1 (q1.mp z))]
          by_cases z2 : cF c 2 q < v.2 2 p
          · rw [if_pos (q2.mpr z2)]; exact ⟨fun _ => Or.inr z2, fun _ => rfl⟩
          · rw [if_neg (fun z => z2 (q2.mp z))]; exact ⟨fun z => absurd z (by decide), fun z => absurd z (by omega)⟩
      rw [hin]
      refine ⟨fun h => ?_, fun h => ⟨vp, ?_⟩⟩
      · have : lenL c v q p = [] := by unfold lenL; rw [if_neg h]
        refine start σ ht hx ?_ (mF.refl D σ)
        rw [this, List.append_nil]
        exact hf
      · rw [show σ (0 + 6) p = _ from (hx.1.2.1 p hp).2.2.2]
        refine c_MO_finds Y (d + 4) hf (by omega) _ 11 (by omega) _ (fun τ t1 t2 => start τ ?_ (hx.kept wc t2) ?_ (t2.mF D))
        · exact ⟨by rw [t2.2 35 (by omega) (by omega)]; exact ht.1, by rw [t2.1 22 (by omega) (by omega) (by omega)]; exact ht.2.1, by rw [t2.1 23 (by omega) (by omega) (by omega)]; exact ht.2.2.1, by rw [t2.1 24 (by omega) (by omega) (by omega)]; exact ht.2.2.2⟩
        · have : lenL c v q p = [100 * v.2 5 p + 11] := by unfold lenL; rw [if_pos h]
          rw [this]
          exact t1
    · rw [cl_nI (show p < 2 ^ 31 by omega), show σ (0 + 2) p = _ from (hx.1.2.1 p hp).1, z_eq (by omega) 3 (by omega)] at h
      exact absurd h3 h
  · rw [if_neg h3] at hk
    refine step σ 0 ht hx ?_
    have vD : vp_in (σ 0 35 - 1) 400 := by rw [ht.pred]; exact vinI (by omega) (by omega)
    refine s_MO_findsList_0 Y (d + 4) 0 _ _ σ _ ⟨vD, fun h => ?_, fun _ => ⟨vp, fun h => ?_, fun _ => ⟨vp, ?_⟩⟩⟩
    · rw [ht.pred, cl_nI (show D < 2 ^ 31 by omega), show σ (0 + 24) D = _ from ht.2.2.2, z_eq (by omega) 0 (by omega)] at h
      omega
    · rw [cl_nI (show p < 2 ^ 31 by omega), show σ (0 + 2) p = _ from (hx.1.2.1 p hp).1, z_eq (by omega) 3 (by omega)] at h
      exact absurd h h3
    · rw [ht.pred]
      have e6 : up σ 0 35 (nI D) (0 + 6) (Int32.toNatClampNeg (nI p)) = nI (v.2 5 p) := by rw [up_cell _ _ (by omega), cl_nI (by omega)]; exact (hx.1.2.1 p hp).2.2.2
      rw [e6]
      exact c_MO_finds Y (d + 4) (hf.pop _) (by omega) _ 10 (by omega) _ (fun τ t1 t2 => hk τ t1 ((mF_pop D σ _).trans (t2.mF D)) (by rw [t2.2 35 (by omega) (by omega)]; exact up_self _ _ _ _))
