/-! the stretches of the class -/
set_option maxRecDepth 20000 in
theorem s_GF_faults_0 (Y : List kd) (d : Nat) (t : Nat) (σ : sS) (Q : Option sv → sS → Prop)
    (h : CJ Y d y_GA_gather [sR (t + 15) (.inl 1), sR (t + 1) (.inl 3)] σ (rI fun r1 σ1 => Q (some (sI r1)) σ1)) :
    Jd Y (d + 1) y_GF_faults 0 [(0, sR t (.inl 5))] [] σ Q :=
  blk_ok (d := (d + 1)) (y := y_GF_faults) (ft := ft_GF) (ct := ct_GF) (tab := tab_GF_faults) ⟨tk_GF_faults, ft_GF_ok, ct_GF_ok Y⟩ [] 8 0 _ _ σ h
set_option maxRecDepth 20000 in
theorem s_GA_gather_0 (Y : List kd) (d : Nat) (t : Nat) (a1 : Nat) (σ : sS) (Q : Option sv → sS → Prop)
    (h : CJ Y d y_GA_look [sR t (.inl 1), sI 0, sI 0, sI 0] (up (up (up σ t 1 (nI a1)) t 3 0) t 4 0) (rN fun σ1 => Q (some (sI (σ1 t 3))) σ1)) :
    Jd Y (d + 1) y_GA_gather 0 [(0, sR t (.inl 1)), (1, sR a1 (.inl 3))] [] σ Q :=
  blk_ok (d := (d + 1)) (y := y_GA_gather) (ft := ft_GA) (ct := ct_GA) (tab := tab_GA_gather) ⟨tk_GA_gather, ft_GA_ok, ct_GA_ok Y⟩ [] 21 0 _ _ σ h
set_option maxRecDepth 20000 in
theorem s_GA_look_0 (Y : List kd) (d : Nat) (t : Nat) (v1 : Int32) (v2 : Int32) (v3 : Int32) (σ : sS) (Q : Option sv → sS → Prop)
    (h : CJ Y d y_GA_deciderOf [sR t (.inl 1), sI v1, sI v2] σ (rI fun r1 σ1 => (((128 : Int32) < v3 → Q none σ1) ∧ (¬ (128 : Int32) < v3 → ((¬ r1 < 0 → (((rd σ1 (t + 2) 24 r1) = 35 → CJ Y d y_GA_lookAtNumber [sR t (.inl 1), sI r1, sI v2] σ1 (rN fun σ9 => Q none σ9)) ∧ (¬ (rd σ1 (t + 2) 24 r1) = 35 → (((rd σ1 (t + 2) 24 r1) = 38 → CJ Y d y_GA_look [sR t (.inl 1), sI (r1 + 1), sI v2, sI (v3 + 1)] σ1 (rN fun σ7 => CJ Y d y_GA_lookForTwins [sR t (.inl 1), sI v2, sI (σ1 t 3)] σ7 (rN fun σ8 => Q none σ8))) ∧ (¬ (rd σ1 (t + 2) 24 r1) = 38 → (((rd σ1 (t + 2) 24 r1) = 47 → CJ Y d y_GA_look [sR t (.inl 1), sI (r1 + 1), sI v2, sI (v3 + 1)] σ1 (rN fun σ4 => ((¬ (σ1 t 3) < (σ4 t 3) → Q none σ4) ∧ ((σ1 t 3) < (σ4 t 3) → CJ Y d y_GA_look [sR t (.inl 1), sI ((r1 + 1) + (rd σ4 (t + 5) 24 (r1 + 1))), sI v2, sI (v3 + 1)] σ4 (rN fun σ5 => CJ Y d y_GA_keepFewer [sR t (.inl 1), sI (σ1 t 3), sI (σ4 t 3), sI (σ1 t 4), sI (σ4 t 4)] σ5 (rN fun σ6 => Q none σ6)))))) ∧ (¬ (rd σ1 (t + 2) 24 r1) = 47 → (((rd σ1 (t + 2) 24 r1) = 64 → CJ Y d y_GA_lookAtList [sR t (.inl 1), sI r1, sI v2, sI v3] σ1 (rN fun σ3 => Q none σ3)) ∧ (¬ (rd σ1 (t + 2) 24 r1) = 64 → (((rd σ1 (t + 2) 24 r1) = 123 → CJ Y d y_GA_lookAtRecord [sR t (.inl 1), sI r1, sI v2, sI v3] σ1 (rN fun σ2 => Q none σ2)) ∧ (¬ (rd σ1 (t + 2) 24 r1) = 123 → Q none σ1))))))))))) ∧ (r1 < 0 → Q none σ1)))))) :
    Jd Y (d + 1) y_GA_look 0 [(0, sR t (.inl 1)), (1, sI v1), (2, sI v2), (3, sI v3)] [] σ Q :=
  blk_ok (d := (d + 1)) (y := y_GA_look) (ft := ft_GA) (ct := ct_GA) (tab := tab_GA_look) ⟨tk_GA_look, ft_GA_ok, ct_GA_ok Y⟩ [] 100 0 _ _ σ h
set_option maxRecDepth 20000 in
theorem s_GA_deciderOf_0 (Y : List kd) (d : Nat) (t : Nat) (v1 : Int32) (v2 : Int32) (σ : sS) (Q : Option sv → sS → Prop)
    (h : Jd Y (d + 1) y_GA_deciderOf 5 [(0, sR t (.inl 1)), (2, sI v2), (3, sI v1), (4, sI 0)] [] σ Q) :
    Jd Y (d + 1) y_GA_deciderOf 0 [(0, sR t (.inl 1)), (1, sI v1), (2, sI v2)] [] σ Q :=
  blk_ok (d := (d + 1)) (y := y_GA_deciderOf) (ft := ft_GA) (ct := ct_GA) (tab := tab_GA_deciderOf) ⟨tk_GA_deciderOf, ft_GA_ok, ct_GA_ok Y⟩ [(5, [0, 2, 3, 4]), (53, [0, 2, 3, 4, 5]), (99, [0, 2, 3, 4])] 55 0 _ _ σ h
set_option maxRecDepth 20000 in
theorem s_GA_deciderOf_5 (Y : List kd) (d : Nat) (t : Nat) (v2 : Int32) (v3 : Int32) (v4 : Int32) (σ : sS) (Q : Option sv → sS → Prop)
    (h : ((¬ v4 < 48 → Q (some (sI (-1))) σ) ∧ (v4 < 48 → ((¬ (rd σ (t + 2) 24 v3) = 94 → (((rd σ (t + 2) 24 v3) = 33 → Jd Y (d + 1) y_GA_deciderOf 53 [(0, sR t (.inl 1)), (2, sI v2), (3, sI v3), (4, sI v4), (5, sI (rd σ (t + 2) 24 v3))] [] σ Q) ∧ (¬ (rd σ (t + 2) 24 v3) = 33 → (((rd σ (t + 2) 24 v3) = 126 → Jd Y (d + 1) y_GA_deciderOf 53 [(0, sR t (.inl 1)), (2, sI v2), (3, sI v3), (4, sI v4), (5, sI (rd σ (t + 2) 24 v3))] [] σ Q) ∧ (¬ (rd σ (t + 2) 24 v3) = 126 → Q (some (sI v3)) σ))))) ∧ ((rd σ (t + 2) 24 v3) = 94 → Jd Y (d + 1) y_GA_deciderOf 99 [(0, sR t (.inl 1)), (2, sI v2), (3, sI 0), (4, sI v4)] [] σ Q))))) :
    Jd Y (d + 1) y_GA_deciderOf 5 [(0, sR t (.inl 1)), (2, sI v2), (3, sI v3), (4, sI v4)] [] σ Q :=
  blk_ok (d := (d + 1)) (y := y_GA_deciderOf) (ft := ft_GA) (ct := ct_GA) (tab := tab_GA_deciderOf) ⟨tk_GA_deciderOf, ft_GA_ok, ct_GA_ok Y⟩ [(5, [0, 2, 3, 4]), (53, [0, 2, 3, 4, 5]), (99, [0, 2, 3, 4])] 55 5 _ _ σ h
set_option maxRecDepth 20000 in
theorem s_GA_deciderOf_53 (Y : List kd) (d : Nat) (t : Nat) (v2 : Int32) (v3 : Int32) (v4 : Int32) (v5 : Int32) (σ : sS) (Q : Option sv → sS → Prop)
    (h : (Y[(σ t 1).toNatClampNeg]? = some (.inl 3) ∧ (((rd σ (((σ t 1).toNatClampNeg) + 1) 20 v2) = 1 → ((¬ v5 = 33 → Q (some (sI (-1))) σ) ∧ (v5 = 33 → (Y[(σ t 1).toNatClampNeg]? = some (.inl 3) ∧ CJ Y d y_GA_add [sR t (.inl 1), sI (rd σ (((σ t 1).toNatClampNeg) + 6) 20 v2), sI 4] σ (rN fun σ1 => Q (some (sI (-1))) σ1))))) ∧ (¬ (rd σ (((σ t 1).toNatClampNeg) + 1) 20 v2) = 1 → Jd Y (d + 1) y_GA_deciderOf 99 [(0, sR t (.inl 1)), (2, sI v2), (3, sI (v3 + 1)), (4, sI v4)] [] σ Q)))) :
    Jd Y (d + 1) y_GA_deciderOf 53 [(0, sR t (.inl 1)), (2, sI v2), (3, sI v3), (4, sI v4), (5, sI v5)] [] σ Q :=
  blk_ok (d := (d + 1)) (y := y_GA_deciderOf) (ft := ft_GA) (ct := ct_GA) (tab := tab_GA_deciderOf) ⟨tk_GA_deciderOf, ft_GA_ok, ct_GA_ok Y⟩ [(5, [0, 2, 3, 4]), (53, [0, 2, 3, 4, 5]), (99, [0, 2, 3, 4])] 55 53 _ _ σ h
set_option maxRecDepth 20000 in
theorem s_GA_deciderOf_99 (Y : List kd) (d : Nat) (t : Nat) (v2 : Int32) (v3 : Int32) (v4 : Int32) (σ : sS) (Q : Option sv → sS → Prop)
    (h : Jd Y (d + 1) y_GA_deciderOf 5 [(0, sR t (.inl 1)), (2, sI v2), (3, sI v3), (4, sI (v4 + 1))] [] σ Q) :
    Jd Y (d + 1) y_GA_deciderOf 99 [(0, sR t (.inl 1)), (2, sI v2), (3, sI v3), (4, sI v4)] [] σ Q :=
  blk_ok (d := (d + 1)) (y := y_GA_deciderOf) (ft := ft_GA) (ct := ct_GA) (tab := tab_GA_deciderOf) ⟨tk_GA_deciderOf, ft_GA_ok, ct_GA_ok Y⟩ [(5, [0, 2, 3, 4]), (53, [0, 2, 3, 4, 5]), (99, [0, 2, 3, 4])] 55 99 _ _ σ h
set_option maxRecDepth 20000 in
theorem s_GA_add_0 (Y : List kd) (d : Nat) (t : Nat) (v1 : Int32) (v2 : Int32) (σ : sS) (Q : Option sv → sS → Prop)
    (h : ((¬ (σ t 3) < 6144 → Q none σ) ∧ ((σ t 3) < 6144 → Q none (up (wr σ (t + 22) 6144 (σ t 3) ((100 * v1) + v2)) t 3 (((wr σ (t + 22) 6144 (σ t 3) ((100 * v1) + v2)) t 3) + 1))))) :
    Jd Y (d + 1) y_GA_add 0 [(0, sR t (.inl 1)), (1, sI v1), (2, sI v2)] [] σ Q :=
  blk_ok (d := (d + 1)) (y := y_GA_add) (ft := ft_GA) (ct := ct_GA) (tab := tab_GA_add) ⟨tk_GA_add, ft_GA_ok, ct_GA_ok Y⟩ [] 23 0 _ _ σ h
set_option maxRecDepth 20000 in
theorem s_GA_lookAtNumber_0 (Y : List kd) (d : Nat) (t : Nat) (v1 : Int32) (v2 : Int32) (σ : sS) (Q : Option sv → sS → Prop)
    (h : (Y[(σ t 1).toNatClampNeg]? = some (.inl 3) ∧ (Y[(σ t 1).toNatClampNeg]? = some (.inl 3) ∧ (Y[(σ t 1).toNatClampNeg]? = some (.inl 3) ∧ (((rd σ (((σ t 1).toNatClampNeg) + 1) 20 v2) = 0 → ((¬ (rd σ (((σ t 1).toNatClampNeg) + 2) 20 v2) < (rd σ (t + 3) 24 v1) → ((¬ (rd σ (t + 4) 24 v1) < (rd σ (((σ t 1).toNatClampNeg) + 2) 20 v2) → Q none σ) ∧ ((rd σ (t + 4) 24 v1) < (rd σ (((σ t 1).toNatClampNeg) + 2) 20 v2) → CJ Y d y_GA_add [sR t (.inl 1), sI (rd σ (((σ t 1).toNatClampNeg) + 6) 20 v2), sI 3] σ (rN fun σ1 => Q none σ1)))) ∧ ((rd σ (((σ t 1).toNatClampNeg) + 2) 20 v2) < (rd σ (t + 3) 24 v1) → CJ Y d y_GA_add [sR t (.inl 1), sI (rd σ (((σ t 1).toNatClampNeg) + 6) 20 v2), sI 2] σ (rN fun σ2 => Q none σ2)))) ∧ (¬ (rd σ (((σ t 1).toNatClampNeg) + 1) 20 v2) = 0 → CJ Y d y_GA_add [sR t (.inl 1), sI (rd σ (((σ t 1).toNatClampNeg) + 6) 20 v2), sI 1] σ (rN fun σ3 => Q none σ3))))))) :
    Jd Y (d + 1) y_GA_lookAtNumber 0 [(0, sR t (.inl 1)), (1, sI v1), (2, sI v2)] [] σ Q :=
  blk_ok (d := (d + 1)) (y := y_GA_lookAtNumber) (ft := ft_GA) (ct := ct_GA) (tab := tab_GA_lookAtNumber) ⟨tk_GA_lookAtNumber, ft_GA_ok, ct_GA_ok Y⟩ [] 49 0 _ _ σ h
set_option maxRecDepth 20000 in
theorem s_GA_lookAtRecord_0 (Y : List kd) (d : Nat) (t : Nat) (v1 : Int32) (v2 : Int32) (v3 : Int32) (σ : sS) (Q : Option sv → sS → Prop)
    (h : (Y[(σ t 1).toNatClampNeg]? = some (.inl 3) ∧ (((rd σ (((σ t 1).toNatClampNeg) + 1) 20 v2) = 2 → CJ Y d y_GA_lookAtFields [sR t (.inl 1), sI v1, sI v2, sI v3] σ (rN fun σ1 => CJ Y d y_GA_lookForStrangers [sR t (.inl 1), sI v1, sI v2] σ1 (rN fun σ2 => Jd Y (d + 1) y_GA_lookAtRecord 80 [(0, sR t (.inl 1)), (2, sI v2), (4, sI (σ t 3)), (5, sI (rd σ2 (t + 10) 24 v1)), (6, sI (rd σ2 (t + 11) 24 v1)), (7, sI 0)] [] σ2 Q))) ∧ (¬ (rd σ (((σ t 1).toNatClampNeg) + 1) 20 v2) = 2 → (Y[(σ t 1).toNatClampNeg]? = some (.inl 3) ∧ CJ Y d y_GA_add [sR t (.inl 1), sI (rd σ (((σ t 1).toNatClampNeg) + 6) 20 v2), sI 5] σ (rN fun σ3 => Q none σ3)))))) :
    Jd Y (d + 1) y_GA_lookAtRecord 0 [(0, sR t (.inl 1)), (1, sI v1), (2, sI v2), (3, sI v3)] [] σ Q :=
  blk_ok (d := (d + 1)) (y := y_GA_lookAtRecord) (ft := ft_GA) (ct := ct_GA) (tab := tab_GA_lookAtRecord) ⟨tk_GA_lookAtRecord, ft_GA_ok, ct_GA_ok Y⟩ [(80, [0, 2, 4, 5, 6, 7])] 57 0 _ _ σ h
set_option maxRecDepth 20000 in
theorem s_GA_lookAtRecord_80 (Y : List kd) (d : Nat) (t : Nat) (v2 : Int32) (v4 : Int32) (v5 : Int32) (v6 : Int32) (v7 : Int32) (σ : sS) (Q : Option sv → sS → Prop)
    (h : ((¬ v7 < v6 → Q none σ) ∧ (v7 < v6 → CJ Y d y_GA_lookAtDependent [sR t (.inl 1), sI (v5 + v7), sI v2, sI v4] σ (rN fun σ1 => Jd Y (d + 1) y_GA_lookAtRecord 80 [(0, sR t (.inl 1)), (2, sI v2), (4, sI v4), (5, sI v5), (6, sI v6), (7, sI (v7 + 1))] [] σ1 Q)))) :
    Jd Y (d + 1) y_GA_lookAtRecord 80 [(0, sR t (.inl 1)), (2, sI v2), (4, sI v4), (5, sI v5), (6, sI v6), (7, sI v7)] [] σ Q :=
  blk_ok (d := (d + 1)) (y := y_GA_lookAtRecord) (ft := ft_GA) (ct := ct_GA) (tab := tab_GA_lookAtRecord) ⟨tk_GA_lookAtRecord, ft_GA_ok, ct_GA_ok Y⟩ [(80, [0, 2, 4, 5, 6, 7])] 57 80 _ _ σ h
set_option maxRecDepth 20000 in
theorem s_GA_lookAtFields_0 (Y : List kd) (d : Nat) (t : Nat) (v1 : Int32) (v2 : Int32) (v3 : Int32) (σ : sS) (Q : Option sv → sS → Prop)
    (h : Jd Y (d + 1) y_GA_lookAtFields 21 [(0, sR t (.inl 1)), (2, sI v2), (3, sI v3), (4, sI (rd σ (t + 8) 24 v1)), (5, sI (v1 + 1)), (6, sI 0)] [] σ Q) :
    Jd Y (d + 1) y_GA_lookAtFields 0 [(0, sR t (.inl 1)), (1, sI v1), (2, sI v2), (3, sI v3)] [] σ Q :=
  blk_ok (d := (d + 1)) (y := y_GA_lookAtFields) (ft := ft_GA) (ct := ct_GA) (tab := tab_GA_lookAtFields) ⟨tk_GA_lookAtFields, ft_GA_ok, ct_GA_ok Y⟩ [(21, [0, 2, 3, 4, 5, 6]), (111, [0, 2, 3, 4, 5, 6])] 68 0 _ _ σ h
set_option maxRecDepth 20000 in
theorem s_GA_lookAtFields_21 (Y : List kd) (d : Nat) (t : Nat) (v2 : Int32) (v3 : Int32) (v4 : Int32) (v5 : Int32) (v6 : Int32) (σ : sS) (Q : Option sv → sS → Prop)
    (h : ((¬ v6 < v4 → Q none σ) ∧ (v6 < v4 → (Y[(σ t 1).toNatClampNeg]? = some (.inl 3) ∧ CJ Y d y_TR_child [sR ((σ t 1).toNatClampNeg) (.inl 3), sI v2, sI (rd σ (t + 6) 24 v5)] σ (rI fun r1 σ1 => ((r1 < 0 → ((¬ (rd σ1 (t + 7) 24 v5) = 0 → Jd Y (d + 1) y_GA_lookAtFields 111 [(0, sR t (.inl 1)), (2, sI v2), (3, sI v3), (4, sI v4), (5, sI v5), (6, sI v6)] [] σ1 Q) ∧ ((rd σ1 (t + 7) 24 v5) = 0 → (Y[(σ1 t 1).toNatClampNeg]? = some (.inl 3) ∧ CJ Y d y_GA_add [sR t (.inl 1), sI ((10 * (rd σ1 (((σ1 t 1).toNatClampNeg) + 6) 20 v2)) + (rd σ (t + 6) 24 v5)), sI 6] σ1 (rN fun σ2 => Jd Y (d + 1) y_GA_lookAtFields 111 [(0, sR t (.inl 1)), (2, sI v2), (3, sI v3), (4, sI v4), (5, sI v5), (6, sI v6)] [] σ2 Q))))) ∧ (¬ r1 < 0 → CJ Y d y_GA_look [sR t (.inl 1), sI v5, sI r1, sI (v3 + 1)] σ1 (rN fun σ3 => Jd Y (d + 1) y_GA_lookAtFields 111 [(0, sR t (.inl 1)), (2, sI v2), (3, sI v3), (4, sI v4), (5, sI v5), (6, sI v6)] [] σ3 Q)))))))) :
    Jd Y (d + 1) y_GA_lookAtFields 21 [(0, sR t (.inl 1)), (2, sI v2), (3, sI v3), (4, sI v4), (5, sI v5), (6, sI v6)] [] σ Q :=
  blk_ok (d := (d + 1)) (y := y_GA_lookAtFields) (ft := ft_GA) (ct := ct_GA) (tab := tab_GA_lookAtFields) ⟨tk_GA_lookAtFields, ft_GA_ok, ct_GA_ok Y⟩ [(21, [0, 2, 3, 4, 5, 6]), (111, [0, 2, 3, 4, 5, 6])] 68 21 _ _ σ h
set_option maxRecDepth 20000 in
theorem s_GA_lookAtFields_111 (Y : List kd) (d : Nat) (t : Nat) (v2 : Int32) (v3 : Int32) (v4 : Int32) (v5 : Int32) (v6 : Int32) (σ : sS) (Q : Option sv → sS → Prop)
    (h : Jd Y (d + 1) y_GA_lookAtFields 21 [(0, sR t (.inl 1)), (2, sI v2), (3, sI v3), (4, sI v4), (5, sI (v5 + (rd σ (t + 5) 24 v5))), (6, sI (v6 + 1))] [] σ Q) :
    Jd Y (d + 1) y_GA_lookAtFields 111 [(0, sR t (.inl 1)), (2, sI v2), (3, sI v3), (4, sI v4), (5, sI v5), (6, sI v6)] [] σ Q :=
  blk_ok (d := (d + 1)) (y := y_GA_lookAtFields) (ft := ft_GA) (ct := ct_GA) (tab := tab_GA_lookAtFields) ⟨tk_GA_lookAtFields, ft_GA_ok, ct_GA_ok Y⟩ [(21, [0, 2, 3, 4, 5, 6]), (111, [0, 2, 3, 4, 5, 6])] 68 111 _ _ σ h
set_option maxRecDepth 20000 in
theorem s_TR_child_0 (Y : List kd) (d : Nat) (t : Nat) (v1 : Int32) (v2 : Int32) (σ : sS) (Q : Option sv → sS → Prop)
    (h : Jd Y (d + 1) y_TR_child 17 [(0, sR t (.inl 3)), (2, sI v2), (3, sI (rd σ (t + 3) 20 v1)), (4, sI (v1 + 1)), (5, sI 0)] [] σ Q) :
    Jd Y (d + 1) y_TR_child 0 [(0, sR t (.inl 3)), (1, sI v1), (2, sI v2)] [] σ Q :=
  blk_ok (d := (d + 1)) (y := y_TR_child) (ft := ft_TR) (ct := ct_TR) (tab := tab_TR_child) ⟨tk_TR_child, ft_TR_ok, ct_TR_ok Y⟩ [(17, [0, 2, 3, 4, 5])] 35 0 _ _ σ h
set_option maxRecDepth 20000 in
theorem s_TR_child_17 (Y : List kd) (d : Nat) (t : Nat) (v2 : Int32) (v3 : Int32) (v4 : Int32) (v5 : Int32) (σ : sS) (Q : Option sv → sS → Prop)
    (h : ((¬ v5 < v3 → Q (some (sI (-1))) σ) ∧ (v5 < v3 → ((¬ (rd σ (t + 4) 20 v4) = v2 → Jd Y (d + 1) y_TR_child 17 [(0, sR t (.inl 3)), (2, sI v2), (3, sI v3), (4, sI (v4 + (rd σ (t + 5) 20 v4))), (5, sI (v5 + 1))] [] σ Q) ∧ ((rd σ (t + 4) 20 v4) = v2 → Q (some (sI v4)) σ))))) :
    Jd Y (d + 1) y_TR_child 17 [(0, sR t (.inl 3)), (2, sI v2), (3, sI v3), (4, sI v4), (5, sI v5)] [] σ Q :=
  blk_ok (d := (d + 1)) (y := y_TR_child) (ft := ft_TR) (ct := ct_TR) (tab := tab_TR_child) ⟨tk_TR_child, ft_TR_ok, ct_TR_ok Y⟩ [(17, [0, 2, 3, 4, 5])] 35 17 _ _ σ h
set_option maxRecDepth 20000 in
theorem s_GA_lookForStrangers_0 (Y : List kd) (d : Nat) (t : Nat) (v1 : Int32) (v2 : Int32) (σ : sS) (Q : Option sv → sS → Prop)
    (h : (Y[(σ t 1).toNatClampNeg]? = some (.inl 3) ∧ Jd Y (d + 1) y_GA_lookForStrangers 20 [(0, sR t (.inl 1)), (1, sI v1), (3, sI (rd σ (((σ t 1).toNatClampNeg) + 3) 20 v2)), (4, sI (v2 + 1)), (5, sI 0)] [] σ Q)) :
    Jd Y (d + 1) y_GA_lookForStrangers 0 [(0, sR t (.inl 1)), (1, sI v1), (2, sI v2)] [] σ Q :=
  blk_ok (d := (d + 1)) (y := y_GA_lookForStrangers) (ft := ft_GA) (ct := ct_GA) (tab := tab_GA_lookForStrangers) ⟨tk_GA_lookForStrangers, ft_GA_ok, ct_GA_ok Y⟩ [(20, [0, 1, 3, 4, 5]), (67, [0, 1, 3, 4, 5])] 46 0 _ _ σ h
set_option maxRecDepth 20000 in
theorem s_GA_lookForStrangers_20 (Y : List kd) (d : Nat) (t : Nat) (v1 : Int32) (v3 : Int32) (v4 : Int32) (v5 : Int32) (σ : sS) (Q : Option sv → sS → Prop)
    (h : ((¬ v5 < v3 → Q none σ) ∧ (v5 < v3 → (Y[(σ t 1).toNatClampNeg]? = some (.inl 3) ∧ CJ Y d y_PL_knows [sR (t + 1) (.inl 2), sI v1, sI (rd σ (((σ t 1).toNatClampNeg) + 4) 20 v4)] σ (rI fun r1 σ1 => ((¬ r1 = 0 → Jd Y (d + 1) y_GA_lookForStrangers 67 [(0, sR t (.inl 1)), (1, sI v1), (3, sI v3), (4, sI v4), (5, sI v5)] [] σ1 Q) ∧ (r1 = 0 → (Y[(σ1 t 1).toNatClampNeg]? = some (.inl 3) ∧ CJ Y d y_GA_add [sR t (.inl 1), sI (rd σ1 (((σ1 t 1).toNatClampNeg) + 6) 20 v4), sI 7] σ1 (rN fun σ2 => Jd Y (d + 1) y_GA_lookForStrangers 67 [(0, sR t (.inl 1)), (1, sI v1), (3, sI v3), (4, sI v4), (5, sI v5)] [] σ2 Q))))))))) :
    Jd Y (d + 1) y_GA_lookForStrangers 20 [(0, sR t (.inl 1)), (1, sI v1), (3, sI v3), (4, sI v4), (5, sI v5)] [] σ Q :=
  blk_ok (d := (d + 1)) (y := y_GA_lookForStrangers) (ft := ft_GA) (ct := ct_GA) (tab := tab_GA_lookForStrangers) ⟨tk_GA_lookForStrangers, ft_GA_ok, ct_GA_ok Y⟩ [(20, [0, 1, 3, 4, 5]), (67, [0, 1, 3, 4, 5])] 46 20 _ _ σ h
set_option maxRecDepth 20000 in
theorem s_GA_lookForStrangers_67 (Y : List kd) (d : Nat) (t : Nat) (v1 : Int32) (v3 : Int32) (v4 : Int32) (v5 : Int32) (σ : sS) (Q : Option sv → sS → Prop)
    (h : (Y[(σ t 1).toNatClampNeg]? = some (.inl 3) ∧ Jd Y (d + 1) y_GA_lookForStrangers 20 [(0, sR t (.inl 1)), (1, sI v1), (3, sI v3), (4, sI (v4 + (rd σ (((σ t 1).toNatClampNeg) + 5) 20 v4))), (5, sI (v5 + 1))] [] σ Q)) :
    Jd Y (d + 1) y_GA_lookForStrangers 67 [(0, sR t (.inl 1)), (1, sI v1), (3, sI v3), (4, sI v4), (5, sI v5)] [] σ Q :=
  blk_ok (d := (d + 1)) (y := y_GA_lookForStrangers) (ft := ft_GA) (ct := ct_GA) (tab := tab_GA_lookForStrangers) ⟨tk_GA_lookForStrangers, ft_GA_ok, ct_GA_ok Y⟩ [(20, [0, 1, 3, 4, 5]), (67, [0, 1, 3, 4, 5])] 46 67 _ _ σ h
set_option maxRecDepth 20000 in
theorem s_PL_knows_0 (Y : List kd) (d : Nat) (t : Nat) (v1 : Int32) (v2 : Int32) (σ : sS) (Q : Option sv → sS → Prop)
    (h : ((¬ (((rd σ (t + 8) 24 v1) >>> (v2 &&& 31)) &&& 1) = 1 → (((0 : Int32) = 0 ∨ (0 : Int32) = 1) ∧ Q (some (sI 0)) σ)) ∧ ((((rd σ (t + 8) 24 v1) >>> (v2 &&& 31)) &&& 1) = 1 → (((1 : Int32) = 0 ∨ (1 : Int32) = 1) ∧ Q (some (sI 1)) σ)))) :
    Jd Y (d + 1) y_PL_knows 0 [(0, sR t (.inl 2)), (1, sI v1), (2, sI v2)] [] σ Q :=
  blk_ok (d := (d + 1)) (y := y_PL_knows) (ft := ft_PL) (ct := ct_PL) (tab := tab_PL_knows) ⟨tk_PL_knows, ft_PL_ok, ct_PL_ok Y⟩ [] 16 0 _ _ σ h
set_option maxRecDepth 20000 in
theorem s_GA_lookAtDependent_0 (Y : List kd) (d : Nat) (t : Nat) (v1 : Int32) (v2 : Int32) (v3 : Int32) (σ : sS) (Q : Option sv → sS → Prop)
    (h : (Y[(σ t 1).toNatClampNeg]? = some (.inl 3) ∧ CJ Y d y_TR_child [sR ((σ t 1).toNatClampNeg) (.inl 3), sI v2, sI (rd σ (t + 13) 32 v1)] σ (rI fun r1 σ1 => (Y[(σ1 t 1).toNatClampNeg]? = some (.inl 3) ∧ CJ Y d y_TR_child [sR ((σ1 t 1).toNatClampNeg) (.inl 3), sI v2, sI (rd σ1 (t + 14) 32 v1)] σ1 (rI fun r2 σ2 => ((r1 < 0 → Jd Y (d + 1) y_GA_lookAtDependent 92 [(0, sR t (.inl 1))] [] σ2 Q) ∧ (¬ r1 < 0 → ((r2 < 0 → Jd Y (d + 1) y_GA_lookAtDependent 92 [(0, sR t (.inl 1))] [] σ2 Q) ∧ (¬ r2 < 0 → (Y[(σ2 t 1).toNatClampNeg]? = some (.inl 3) ∧ CJ Y d y_GA_countBelow [sR t (.inl 1), sI (rd σ2 (((σ2 t 1).toNatClampNeg) + 6) 20 r1), sI v3] σ2 (rI fun r3 σ3 => (((0 : Int32) < r3 → Jd Y (d + 1) y_GA_lookAtDependent 92 [(0, sR t (.inl 1))] [] σ3 Q) ∧ (¬ (0 : Int32) < r3 → (Y[(σ3 t 1).toNatClampNeg]? = some (.inl 3) ∧ CJ Y d y_GA_countBelow [sR t (.inl 1), sI (rd σ3 (((σ3 t 1).toNatClampNeg) + 6) 20 r2), sI v3] σ3 (rI fun r4 σ4 => ((¬ (0 : Int32) < r4 → ((¬ (rd σ4 (t + 12) 32 v1) = 60 → (Y[(σ4 t 1).toNatClampNeg]? = some (.inl 3) ∧ CJ Y d y_TR_alike [sR ((σ4 t 1).toNatClampNeg) (.inl 3), sI r1, sI r2] σ4 (rI fun r5 σ5 => ((¬ r5 = 0 → Q none σ5) ∧ (r5 = 0 → (Y[(σ5 t 1).toNatClampNeg]? = some (.inl 3) ∧ CJ Y d y_GA_add [sR t (.inl 1), sI (rd σ5 (((σ5 t 1).toNatClampNeg) + 6) 20 r2), sI 9] σ5 (rN fun σ6 => Q none σ6))))))) ∧ ((rd σ4 (t + 12) 32 v1) = 60 → (Y[(σ4 t 1).toNatClampNeg]? = some (.inl 3) ∧ CJ Y d y_TR_less [sR ((σ4 t 1).toNatClampNeg) (.inl 3), sI r1, sI r2] σ4 (rI fun r7 σ7 => ((¬ r7 = 0 → Q none σ7) ∧ (r7 = 0 → (Y[(σ7 t 1).toNatClampNeg]? = some (.inl 3) ∧ CJ Y d y_GA_add [sR t (.inl 1), sI (rd σ7 (((σ7 t 1).toNatClampNeg) + 6) 20 r2), sI 8] σ7 (rN fun σ8 => Q none σ8))))))))) ∧ ((0 : Int32) < r4 → Jd Y (d + 1) y_GA_lookAtDependent 92 [(0, sR t (.inl 1))] [] σ4 Q))))))))))))))))) :
    Jd Y (d + 1) y_GA_lookAtDependent 0 [(0, sR t (.inl 1)), (1, sI v1), (2, sI v2), (3, sI v3)] [] σ Q :=
  blk_ok (d := (d + 1)) (y := y_GA_lookAtDependent) (ft := ft_GA) (ct := ct_GA) (tab := tab_GA_lookAtDependent) ⟨tk_GA_lookAtDependent, ft_GA_ok, ct_GA_ok Y⟩ [(92, [0])] 88 0 _ _ σ h
set_option maxRecDepth 20000 in
theorem s_GA_lookAtDependent_92 (Y : List kd) (d : Nat) (t : Nat) (σ : sS) (Q : Option sv → sS → Prop)
    (h : Q none (up σ t 4 ((σ t 4) + 1))) :
    Jd Y (d + 1) y_GA_lookAtDependent 92 [(0, sR t (.inl 1))] [] σ Q :=
  blk_ok (d := (d + 1)) (y := y_GA_lookAtDependent) (ft := ft_GA) (ct := ct_GA) (tab := tab_GA_lookAtDependent) ⟨tk_GA_lookAtDependent, ft_GA_ok, ct_GA_ok Y⟩ [(92, [0])] 88 92 _ _ σ h
set_option maxRecDepth 20000 in
theorem s_GA_countBelow_0 (Y : List kd) (d : Nat) (t : Nat) (v1 : Int32) (v2 : Int32) (σ : sS) (Q : Option sv → sS → Prop)
    (h : Jd Y (d + 1) y_GA_countBelow 5 [(0, sR t (.inl 1)), (1, sI v1), (3, sI 0), (4, sI v2)] [] σ Q) :
    Jd Y (d + 1) y_GA_countBelow 0 [(0, sR t (.inl 1)), (1, sI v1), (2, sI v2)] [] σ Q :=
  blk_ok (d := (d + 1)) (y := y_GA_countBelow) (ft := ft_GA) (ct := ct_GA) (tab := tab_GA_countBelow) ⟨tk_GA_countBelow, ft_GA_ok, ct_GA_ok Y⟩ [(5, [0, 1, 3, 4]), (36, [0, 1, 3, 4])] 24 0 _ _ σ h
set_option maxRecDepth 20000 in
theorem s_GA_countBelow_5 (Y : List kd) (d : Nat) (t : Nat) (v1 : Int32) (v3 : Int32) (v4 : Int32) (σ : sS) (Q : Option sv → sS → Prop)
    (h : ((¬ v4 < (σ t 3) → Q (some (sI v3)) σ) ∧ (v4 < (σ t 3) → (¬ (100 : Int32) = 0 ∧ CJ Y d y_GA_goesOnFrom [sI ((rd σ (t + 22) 6144 v4) / 100), sI v1] σ (rI fun r1 σ1 => ((r1 = 0 → Jd Y (d + 1) y_GA_countBelow 36 [(0, sR t (.inl 1)), (1, sI v1), (3, sI v3), (4, sI v4)] [] σ1 Q) ∧ (¬ r1 = 0 → Jd Y (d + 1) y_GA_countBelow 36 [(0, sR t (.inl 1)), (1, sI v1), (3, sI (v3 + 1)), (4, sI v4)] [] σ1 Q))))))) :
    Jd Y (d + 1) y_GA_countBelow 5 [(0, sR t (.inl 1)), (1, sI v1), (3, sI v3), (4, sI v4)] [] σ Q :=
  blk_ok (d := (d + 1)) (y := y_GA_countBelow) (ft := ft_GA) (ct := ct_GA) (tab := tab_GA_countBelow) ⟨tk_GA_countBelow, ft_GA_ok, ct_GA_ok Y⟩ [(5, [0, 1, 3, 4]), (36, [0, 1, 3, 4])] 24 5 _ _ σ h
set_option maxRecDepth 20000 in
theorem s_GA_countBelow_36 (Y : List kd) (d : Nat) (t : Nat) (v1 : Int32) (v3 : Int32) (v4 : Int32) (σ : sS) (Q : Option sv → sS → Prop)
    (h : Jd Y (d + 1) y_GA_countBelow 5 [(0, sR t (.inl 1)), (1, sI v1), (3, sI v3), (4, sI (v4 + 1))] [] σ Q) :
    Jd Y (d + 1) y_GA_countBelow 36 [(0, sR t (.inl 1)), (1, sI v1), (3, sI v3), (4, sI v4)] [] σ Q :=
  blk_ok (d := (d + 1)) (y := y_GA_countBelow) (ft := ft_GA) (ct := ct_GA) (tab := tab_GA_countBelow) ⟨tk_GA_countBelow, ft_GA_ok, ct_GA_ok Y⟩ [(5, [0, 1, 3, 4]), (36, [0, 1, 3, 4])] 24 36 _ _ σ h
set_option maxRecDepth 20000 in
theorem s_GA_goesOnFrom_0 (Y : List kd) (d : Nat) (v0 : Int32) (v1 : Int32) (σ : sS) (Q : Option sv → sS → Prop)
    (h : Jd Y d y_GA_goesOnFrom 4 [(1, sI v1), (2, sI v0), (3, sI 0)] [] σ Q) :
    Jd Y d y_GA_goesOnFrom 0 [(0, sI v0), (1, sI v1)] [] σ Q :=
  blk_ok (d := d) (y := y_GA_goesOnFrom) (ft := ft_GA) (ct := ct_GA) (tab := tab_GA_goesOnFrom) ⟨tk_GA_goesOnFrom, ft_GA_ok, ct_GA_ok Y⟩ [(4, [1, 2, 3]), (25, [1, 2])] 25 0 _ _ σ h
set_option maxRecDepth 20000 in
theorem s_GA_goesOnFrom_4 (Y : List kd) (d : Nat) (v1 : Int32) (v2 : Int32) (v3 : Int32) (σ : sS) (Q : Option sv → sS → Prop)
    (h : (((5 : Int32) < v3 → Jd Y d y_GA_goesOnFrom 25 [(1, sI v1), (2, sI v2)] [] σ Q) ∧ (¬ (5 : Int32) < v3 → ((¬ v1 < v2 → Jd Y d y_GA_goesOnFrom 25 [(1, sI v1), (2, sI v2)] [] σ Q) ∧ (v1 < v2 → (¬ (10 : Int32) = 0 ∧ Jd Y d y_GA_goesOnFrom 4 [(1, sI v1), (2, sI (v2 / 10)), (3, sI (v3 + 1))] [] σ Q)))))) :
    Jd Y d y_GA_goesOnFrom 4 [(1, sI v1), (2, sI v2), (3, sI v3)] [] σ Q :=
  blk_ok (d := d) (y := y_GA_goesOnFrom) (ft := ft_GA) (ct := ct_GA) (tab := tab_GA_goesOnFrom) ⟨tk_GA_goesOnFrom, ft_GA_ok, ct_GA_ok Y⟩ [(4, [1, 2, 3]), (25, [1, 2])] 25 4 _ _ σ h
set_option maxRecDepth 20000 in
theorem s_GA_goesOnFrom_25 (Y : List kd) (d : Nat) (v1 : Int32) (v2 : Int32) (σ : sS) (Q : Option sv → sS → Prop)
    (h : ((¬ v2 = v1 → (((0 : Int32) = 0 ∨ (0 : Int32) = 1) ∧ Q (some (sI 0)) σ)) ∧ (v2 = v1 → (((1 : Int32) = 0 ∨ (1 : Int32) = 1) ∧ Q (some (sI 1)) σ)))) :
    Jd Y d y_GA_goesOnFrom 25 [(1, sI v1), (2, sI v2)] [] σ Q :=
  blk_ok (d := d) (y := y_GA_goesOnFrom) (ft := ft_GA) (ct := ct_GA) (tab := tab_GA_goesOnFrom) ⟨tk_GA_goesOnFrom, ft_GA_ok, ct_GA_ok Y⟩ [(4, [1, 2, 3]), (25, [1, 2])] 25 25 _ _ σ h
set_option maxRecDepth 20000 in
theorem s_TR_less_0 (Y : List kd) (d : Nat) (t : Nat) (v1 : Int32) (v2 : Int32) (σ : sS) (Q : Option sv → sS → Prop)
    (h : ((¬ (rd σ (t + 1) 20 v1) = 0 → Jd Y (d + 1) y_TR_less 47 [(0, sR t (.inl 3)), (1, sI v1), (2, sI v2)] [] σ Q) ∧ ((rd σ (t + 1) 20 v1) = 0 → ((¬ (rd σ (t + 1) 20 v2) = 0 → Jd Y (d + 1) y_TR_less 47 [(0, sR t (.inl 3)), (1, sI v1), (2, sI v2)] [] σ Q) ∧ ((rd σ (t + 1) 20 v2) = 0 → ((¬ (rd σ (t + 2) 20 v1) < (rd σ (t + 2) 20 v2) → (((0 : Int32) = 0 ∨ (0 : Int32) = 1) ∧ Q (some (sI 0)) σ)) ∧ ((rd σ (t + 2) 20 v1) < (rd σ (t + 2) 20 v2) → (((1 : Int32) = 0 ∨ (1 : Int32) = 1) ∧ Q (some (sI 1)) σ)))))))) :
    Jd Y (d + 1) y_TR_less 0 [(0, sR t (.inl 3)), (1, sI v1), (2, sI v2)] [] σ Q :=
  blk_ok (d := (d + 1)) (y := y_TR_less) (ft := ft_TR) (ct := ct_TR) (tab := tab_TR_less) ⟨tk_TR_less, ft_TR_ok, ct_TR_ok Y⟩ [(47, [0, 1, 2])] 38 0 _ _ σ h
set_option maxRecDepth 20000 in
theorem s_TR_less_47 (Y : List kd) (d : Nat) (t : Nat) (v1 : Int32) (v2 : Int32) (σ : sS) (Q : Option sv → sS → Prop)
    (h : ((¬ (rd σ (t + 5) 20 v1) < (rd σ (t + 5) 20 v2) → (((0 : Int32) = 0 ∨ (0 : Int32) = 1) ∧ Q (some (sI 0)) σ)) ∧ ((rd σ (t + 5) 20 v1) < (rd σ (t + 5) 20 v2) → (((1 : Int32) = 0 ∨ (1 : Int32) = 1) ∧ Q (some (sI 1)) σ)))) :
    Jd Y (d + 1) y_TR_less 47 [(0, sR t (.inl 3)), (1, sI v1), (2, sI v2)] [] σ Q :=
  blk_ok (d := (d + 1)) (y := y_TR_less) (ft := ft_TR) (ct := ct_TR) (tab := tab_TR_less) ⟨tk_TR_less, ft_TR_ok, ct_TR_ok Y⟩ [(47, [0, 1, 2])] 38 47 _ _ σ h
set_option maxRecDepth 20000 in
theorem s_TR_alike_0 (Y : List kd) (d : Nat) (t : Nat) (v1 : Int32) (v2 : Int32) (σ : sS) (Q : Option sv → sS → Prop)
    (h : CJ Y d y_TR_alikeBelow [sR t (.inl 3), sI v1, sI v2, sI 0] σ (rI fun r1 σ1 => ((r1 = 0 ∨ r1 = 1) ∧ Q (some (sI r1)) σ1))) :
    Jd Y (d + 1) y_TR_alike 0 [(0, sR t (.inl 3)), (1, sI v1), (2, sI v2)] [] σ Q :=
  blk_ok (d := (d + 1)) (y := y_TR_alike) (ft := ft_TR) (ct := ct_TR) (tab := tab_TR_alike) ⟨tk_TR_alike, ft_TR_ok, ct_TR_ok Y⟩ [] 8 0 _ _ σ h
set_option maxRecDepth 20000 in
theorem s_TR_alikeBelow_0 (Y : List kd) (d : Nat) (t : Nat) (v1 : Int32) (v2 : Int32) (v3 : Int32) (σ : sS) (Q : Option sv → sS → Prop)
    (h : (((4 : Int32) < v3 → (((0 : Int32) = 0 ∨ (0 : Int32) = 1) ∧ Q (some (sI 0)) σ)) ∧ (¬ (4 : Int32) < v3 → ((¬ (rd σ (t + 1) 20 v1) = (rd σ (t + 1) 20 v2) → (((0 : Int32) = 0 ∨ (0 : Int32) = 1) ∧ Q (some (sI 0)) σ)) ∧ ((rd σ (t + 1) 20 v1) = (rd σ (t + 1) 20 v2) → ((¬ (rd σ (t + 2) 20 v1) = (rd σ (t + 2) 20 v2) → (((0 : Int32) = 0 ∨ (0 : Int32) = 1) ∧ Q (some (sI 0)) σ)) ∧ ((rd σ (t + 2) 20 v1) = (rd σ (t + 2) 20 v2) → ((¬ (rd σ (t + 3) 20 v1) = (rd σ (t + 3) 20 v2) → (((0 : Int32) = 0 ∨ (0 : Int32) = 1) ∧ Q (some (sI 0)) σ)) ∧ ((rd σ (t + 3) 20 v1) = (rd σ (t + 3) 20 v2) → (((rd σ (t + 5) 20 v1) = (rd σ (t + 5) 20 v2) → Jd Y (d + 1) y_TR_alikeBelow 101 [(0, sR t (.inl 3)), (2, sI v2), (3, sI v3), (4, sI (rd σ (t + 3) 20 v1)), (5, sI (v1 + 1)), (6, sI 0)] [] σ Q) ∧ (¬ (rd σ (t + 5) 20 v1) = (rd σ (t + 5) 20 v2) → (((0 : Int32) = 0 ∨ (0 : Int32) = 1) ∧ Q (some (sI 0)) σ)))))))))))) :
    Jd Y (d + 1) y_TR_alikeBelow 0 [(0, sR t (.inl 3)), (1, sI v1), (2, sI v2), (3, sI v3)] [] σ Q :=
  blk_ok (d := (d + 1)) (y := y_TR_alikeBelow) (ft := ft_TR) (ct := ct_TR) (tab := tab_TR_alikeBelow) ⟨tk_TR_alikeBelow, ft_TR_ok, ct_TR_ok Y⟩ [(101, [0, 2, 3, 4, 5, 6])] 88 0 _ _ σ h
set_option maxRecDepth 20000 in
theorem s_TR_alikeBelow_101 (Y : List kd) (d : Nat) (t : Nat) (v2 : Int32) (v3 : Int32) (v4 : Int32) (v5 : Int32) (v6 : Int32) (σ : sS) (Q : Option sv → sS → Prop)
    (h : ((¬ v6 < v4 → (((1 : Int32) = 0 ∨ (1 : Int32) = 1) ∧ Q (some (sI 1)) σ)) ∧ (v6 < v4 → CJ Y d y_TR_child [sR t (.inl 3), sI v2, sI (rd σ (t + 4) 20 v5)] σ (rI fun r1 σ1 => ((r1 < 0 → (((0 : Int32) = 0 ∨ (0 : Int32) = 1) ∧ Q (some (sI 0)) σ1)) ∧ (¬ r1 < 0 → CJ Y d y_TR_alikeBelow [sR t (.inl 3), sI v5, sI r1, sI (v3 + 1)] σ1 (rI fun r2 σ2 => ((¬ r2 = 0 → Jd Y (d + 1) y_TR_alikeBelow 101 [(0, sR t (.inl 3)), (2, sI v2), (3, sI v3), (4, sI v4), (5, sI (v5 + (rd σ2 (t + 5) 20 v5))), (6, sI (v6 + 1))] [] σ2 Q) ∧ (r2 = 0 → (((0 : Int32) = 0 ∨ (0 : Int32) = 1) ∧ Q (some (sI 0)) σ2)))))))))) :
    Jd Y (d + 1) y_TR_alikeBelow 101 [(0, sR t (.inl 3)), (2, sI v2), (3, sI v3), (4, sI v4), (5, sI v5), (6, sI v6)] [] σ Q :=
  blk_ok (d := (d + 1)) (y := y_TR_alikeBelow) (ft := ft_TR) (ct := ct_TR) (tab := tab_TR_alikeBelow) ⟨tk_TR_alikeBelow, ft_TR_ok, ct_TR_ok Y⟩ [(101, [0, 2, 3, 4, 5, 6])] 88 101 _ _ σ h
set_option maxRecDepth 20000 in
theorem s_GA_lookAtList_0 (Y : List kd) (d : Nat) (t : Nat) (v1 : Int32) (v2 : Int32) (v3 : Int32) (σ : sS) (Q : Option sv → sS → Prop)
    (h : (Y[(σ t 1).toNatClampNeg]? = some (.inl 3) ∧ (Y[(σ t 1).toNatClampNeg]? = some (.inl 3) ∧ (((rd σ (((σ t 1).toNatClampNeg) + 1) 20 v2) = 3 → (Y[(σ t 1).toNatClampNeg]? = some (.inl 3) ∧ (((rd σ (((σ t 1).toNatClampNeg) + 3) 20 v2) < (rd σ (t + 3) 24 v1) → Jd Y (d + 1) y_GA_lookAtList 82 [(0, sR t (.inl 1)), (1, sI v1), (2, sI v2), (3, sI v3), (4, sI (rd σ (((σ t 1).toNatClampNeg) + 6) 20 v2)), (5, sI (rd σ (((σ t 1).toNatClampNeg) + 3) 20 v2))] [] σ Q) ∧ (¬ (rd σ (((σ t 1).toNatClampNeg) + 3) 20 v2) < (rd σ (t + 3) 24 v1) → ((¬ (rd σ (t + 4) 24 v1) < (rd σ (((σ t 1).toNatClampNeg) + 3) 20 v2) → Jd Y (d + 1) y_GA_lookAtList 90 [(0, sR t (.inl 1)), (1, sI v1), (2, sI v2), (3, sI v3), (5, sI (rd σ (((σ t 1).toNatClampNeg) + 3) 20 v2))] [] σ Q) ∧ ((rd σ (t + 4) 24 v1) < (rd σ (((σ t 1).toNatClampNeg) + 3) 20 v2) → Jd Y (d + 1) y_GA_lookAtList 82 [(0, sR t (.inl 1)), (1, sI v1), (2, sI v2), (3, sI v3), (4, sI (rd σ (((σ t 1).toNatClampNeg) + 6) 20 v2)), (5, sI (rd σ (((σ t 1).toNatClampNeg) + 3) 20 v2))] [] σ Q)))))) ∧ (¬ (rd σ (((σ t 1).toNatClampNeg) + 1) 20 v2) = 3 → CJ Y d y_GA_add [sR t (.inl 1), sI (rd σ (((σ t 1).toNatClampNeg) + 6) 20 v2), sI 10] σ (rN fun σ1 => Q none σ1)))))) :
    Jd Y (d + 1) y_GA_lookAtList 0 [(0, sR t (.inl 1)), (1, sI v1), (2, sI v2), (3, sI v3)] [] σ Q :=
  blk_ok (d := (d + 1)) (y := y_GA_lookAtList) (ft := ft_GA) (ct := ct_GA) (tab := tab_GA_lookAtList) ⟨tk_GA_lookAtList, ft_GA_ok, ct_GA_ok Y⟩ [(82, [0, 1, 2, 3, 4, 5]), (90, [0, 1, 2, 3, 5]), (98, [0, 1, 3, 5, 6, 7])] 73 0 _ _ σ h
set_option maxRecDepth 20000 in
theorem s_GA_lookAtList_82 (Y : List kd) (d : Nat) (t : Nat) (v1 : Int32) (v2 : Int32) (v3 : Int32) (v4 : Int32) (v5 : Int32) (σ : sS) (Q : Option sv → sS → Prop)
    (h : CJ Y d y_GA_add [sR t (.inl 1), sI v4, sI 11] σ (rN fun σ1 => Jd Y (d + 1) y_GA_lookAtList 90 [(0, sR t (.inl 1)), (1, sI v1), (2, sI v2), (3, sI v3), (5, sI v5)] [] σ1 Q)) :
    Jd Y (d + 1) y_GA_lookAtList 82 [(0, sR t (.inl 1)), (1, sI v1), (2, sI v2), (3, sI v3), (4, sI v4), (5, sI v5)] [] σ Q :=
  blk_ok (d := (d + 1)) (y := y_GA_lookAtList) (ft := ft_GA) (ct := ct_GA) (tab := tab_GA_lookAtList) ⟨tk_GA_lookAtList, ft_GA_ok, ct_GA_ok Y⟩ [(82, [0, 1, 2, 3, 4, 5]), (90, [0, 1, 2, 3, 5]), (98, [0, 1, 3, 5, 6, 7])] 73 82 _ _ σ h
set_option maxRecDepth 20000 in
theorem s_GA_lookAtList_90 (Y : List kd) (d : Nat) (t : Nat) (v1 : Int32) (v2 : Int32) (v3 : Int32) (v5 : Int32) (σ : sS) (Q : Option sv → sS → Prop)
    (h : Jd Y (d + 1) y_GA_lookAtList 98 [(0, sR t (.inl 1)), (1, sI v1), (3, sI v3), (5, sI v5), (6, sI (v2 + 1)), (7, sI 0)] [] σ Q) :
    Jd Y (d + 1) y_GA_lookAtList 90 [(0, sR t (.inl 1)), (1, sI v1), (2, sI v2), (3, sI v3), (5, sI v5)] [] σ Q :=
  blk_ok (d := (d + 1)) (y := y_GA_lookAtList) (ft := ft_GA) (ct := ct_GA) (tab := tab_GA_lookAtList) ⟨tk_GA_lookAtList, ft_GA_ok, ct_GA_ok Y⟩ [(82, [0, 1, 2, 3, 4, 5]), (90, [0, 1, 2, 3, 5]), (98, [0, 1, 3, 5, 6, 7])] 73 90 _ _ σ h
set_option maxRecDepth 20000 in
theorem s_GA_lookAtList_98 (Y : List kd) (d : Nat) (t : Nat) (v1 : Int32) (v3 : Int32) (v5 : Int32) (v6 : Int32) (v7 : Int32) (σ : sS) (Q : Option sv → sS → Prop)
    (h : ((¬ v7 < v5 → Q none σ) ∧ (v7 < v5 → CJ Y d y_GA_look [sR t (.inl 1), sI (v1 + 1), sI v6, sI (v3 + 1)] σ (rN fun σ1 => (Y[(σ1 t 1).toNatClampNeg]? = some (.inl 3) ∧ Jd Y (d + 1) y_GA_lookAtList 98 [(0, sR t (.inl 1)), (1, sI v1), (3, sI v3), (5, sI v5), (6, sI (v6 + (rd σ1 (((σ1 t 1).toNatClampNeg) + 5) 20 v6))), (7, sI (v7 + 1))] [] σ1 Q))))) :
    Jd Y (d + 1) y_GA_lookAtList 98 [(0, sR t (.inl 1)), (1, sI v1), (3, sI v3), (5, sI v5), (6, sI v6), (7, sI v7)] [] σ Q :=
  blk_ok (d := (d + 1)) (y := y_GA_lookAtList) (ft := ft_GA) (ct := ct_GA) (tab := tab_GA_lookAtList) ⟨tk_GA_lookAtList, ft_GA_ok, ct_GA_ok Y⟩ [(82, [0, 1, 2, 3, 4, 5]), (90, [0, 1, 2, 3, 5]), (98, [0, 1, 3, 5, 6, 7])] 73 98 _ _ σ h
set_option maxRecDepth 20000 in
theorem s_GA_lookForTwins_0 (Y : List kd) (d : Nat) (t : Nat) (v1 : Int32) (v2 : Int32) (σ : sS) (Q : Option sv → sS → Prop)
    (h : ((¬ v2 < (σ t 3) → (Y[(σ t 1).toNatClampNeg]? = some (.inl 3) ∧ (((rd σ (((σ t 1).toNatClampNeg) + 1) 20 v1) = 3 → (Y[(σ t 1).toNatClampNeg]? = some (.inl 3) ∧ Jd Y (d + 1) y_GA_lookForTwins 50 [(0, sR t (.inl 1)), (1, sI v1), (3, sI (rd σ (((σ t 1).toNatClampNeg) + 3) 20 v1)), (4, sI 1)] [] σ Q)) ∧ (¬ (rd σ (((σ t 1).toNatClampNeg) + 1) 20 v1) = 3 → Q none σ)))) ∧ (v2 < (σ t 3) → Q none (up σ t 4 ((σ t 4) + 1))))) :
    Jd Y (d + 1) y_GA_lookForTwins 0 [(0, sR t (.inl 1)), (1, sI v1), (2, sI v2)] [] σ Q :=
  blk_ok (d := (d + 1)) (y := y_GA_lookForTwins) (ft := ft_GA) (ct := ct_GA) (tab := tab_GA_lookForTwins) ⟨tk_GA_lookForTwins, ft_GA_ok, ct_GA_ok Y⟩ [(50, [0, 1, 3, 4]), (77, [0, 1, 3, 4, 5, 6, 7]), (119, [0, 1, 3, 4, 5, 6]), (142, [0, 1, 3, 4])] 76 0 _ _ σ h
set_option maxRecDepth 20000 in
theorem s_GA_lookForTwins_50 (Y : List kd) (d : Nat) (t : Nat) (v1 : Int32) (v3 : Int32) (v4 : Int32) (σ : sS) (Q : Option sv → sS → Prop)
    (h : ((¬ v4 < v3 → Q none σ) ∧ (v4 < v3 → (Y[(σ t 1).toNatClampNeg]? = some (.inl 3) ∧ CJ Y d y_TR_child [sR ((σ t 1).toNatClampNeg) (.inl 3), sI v1, sI (6 + v4)] σ (rI fun r1 σ1 => Jd Y (d + 1) y_GA_lookForTwins 77 [(0, sR t (.inl 1)), (1, sI v1), (3, sI v3), (4, sI v4), (5, sI r1), (6, sI 0), (7, sI 0)] [] σ1 Q))))) :
    Jd Y (d + 1) y_GA_lookForTwins 50 [(0, sR t (.inl 1)), (1, sI v1), (3, sI v3), (4, sI v4)] [] σ Q :=
  blk_ok (d := (d + 1)) (y := y_GA_lookForTwins) (ft := ft_GA) (ct := ct_GA) (tab := tab_GA_lookForTwins) ⟨tk_GA_lookForTwins, ft_GA_ok, ct_GA_ok Y⟩ [(50, [0, 1, 3, 4]), (77, [0, 1, 3, 4, 5, 6, 7]), (119, [0, 1, 3, 4, 5, 6]), (142, [0, 1, 3, 4])] 76 50 _ _ σ h
set_option maxRecDepth 20000 in
theorem s_GA_lookForTwins_77 (Y : List kd) (d : Nat) (t : Nat) (v1 : Int32) (v3 : Int32) (v4 : Int32) (v5 : Int32) (v6 : Int32) (v7 : Int32) (σ : sS) (Q : Option sv → sS → Prop)
    (h : ((¬ v7 < v4 → Jd Y (d + 1) y_GA_lookForTwins 119 [(0, sR t (.inl 1)), (1, sI v1), (3, sI v3), (4, sI v4), (5, sI v5), (6, sI v6)] [] σ Q) ∧ (v7 < v4 → ((¬ v6 = 0 → Jd Y (d + 1) y_GA_lookForTwins 119 [(0, sR t (.inl 1)), (1, sI v1), (3, sI v3), (4, sI v4), (5, sI v5), (6, sI v6)] [] σ Q) ∧ (v6 = 0 → (Y[(σ t 1).toNatClampNeg]? = some (.inl 3) ∧ (Y[(σ t 1).toNatClampNeg]? = some (.inl 3) ∧ CJ Y d y_TR_child [sR ((σ t 1).toNatClampNeg) (.inl 3), sI v1, sI (6 + v7)] σ (rI fun r1 σ1 => CJ Y d y_TR_alike [sR ((σ t 1).toNatClampNeg) (.inl 3), sI r1, sI v5] σ1 (rI fun r2 σ2 => Jd Y (d + 1) y_GA_lookForTwins 77 [(0, sR t (.inl 1)), (1, sI v1), (3, sI v3), (4, sI v4), (5, sI v5), (6, sI r2), (7, sI (v7 + 1))] [] σ2 Q))))))))) :
    Jd Y (d + 1) y_GA_lookForTwins 77 [(0, sR t (.inl 1)), (1, sI v1), (3, sI v3), (4, sI v4), (5, sI v5), (6, sI v6), (7, sI v7)] [] σ Q :=
  blk_ok (d := (d + 1)) (y := y_GA_lookForTwins) (ft := ft_GA) (ct := ct_GA) (tab := tab_GA_lookForTwins) ⟨tk_GA_lookForTwins, ft_GA_ok, ct_GA_ok Y⟩ [(50, [0, 1, 3, 4]), (77, [0, 1, 3, 4, 5, 6, 7]), (119, [0, 1, 3, 4, 5, 6]), (142, [0, 1, 3, 4])] 76 77 _ _ σ h
set_option maxRecDepth 20000 in
theorem s_GA_lookForTwins_119 (Y : List kd) (d : Nat) (t : Nat) (v1 : Int32) (v3 : Int32) (v4 : Int32) (v5 : Int32) (v6 : Int32) (σ : sS) (Q : Option sv → sS → Prop)
    (h : ((v6 = 0 → Jd Y (d + 1) y_GA_lookForTwins 142 [(0, sR t (.inl 1)), (1, sI v1), (3, sI v3), (4, sI v4)] [] σ Q) ∧ (¬ v6 = 0 → (Y[(σ t 1).toNatClampNeg]? = some (.inl 3) ∧ CJ Y d y_GA_add [sR t (.inl 1), sI (rd σ (((σ t 1).toNatClampNeg) + 6) 20 v5), sI 12] σ (rN fun σ1 => Jd Y (d + 1) y_GA_lookForTwins 142 [(0, sR t (.inl 1)), (1, sI v1), (3, sI v3), (4, sI v4)] [] σ1 Q))))) :
    Jd Y (d + 1) y_GA_lookForTwins 119 [(0, sR t (.inl 1)), (1, sI v1), (3, sI v3), (4, sI v4), (5, sI v5), (6, sI v6)] [] σ Q :=
  blk_ok (d := (d + 1)) (y := y_GA_lookForTwins) (ft := ft_GA) (ct := ct_GA) (tab := tab_GA_lookForTwins) ⟨tk_GA_lookForTwins, ft_GA_ok, ct_GA_ok Y⟩ [(50, [0, 1, 3, 4]), (77, [0, 1, 3, 4, 5, 6, 7]), (119, [0, 1, 3, 4, 5, 6]), (142, [0, 1, 3, 4])] 76 119 _ _ σ h
set_option maxRecDepth 20000 in
theorem s_GA_lookForTwins_142 (Y : List kd) (d : Nat) (t : Nat) (v1 : Int32) (v3 : Int32) (v4 : Int32) (σ : sS) (Q : Option sv → sS → Prop)
    (h : Jd Y (d + 1) y_GA_lookForTwins 50 [(0, sR t (.inl 1)), (1, sI v1), (3, sI v3), (4, sI (v4 + 1))] [] σ Q) :
    Jd Y (d + 1) y_GA_lookForTwins 142 [(0, sR t (.inl 1)), (1, sI v1), (3, sI v3), (4, sI v4)] [] σ Q :=
  blk_ok (d := (d + 1)) (y := y_GA_lookForTwins) (ft := ft_GA) (ct := ct_GA) (tab := tab_GA_lookForTwins) ⟨tk_GA_lookForTwins, ft_GA_ok, ct_GA_ok Y⟩ [(50, [0, 1, 3, 4]), (77, [0, 1, 3, 4, 5, 6, 7]), (119, [0, 1, 3, 4, 5, 6]), (142, [0, 1, 3, 4])] 76 142 _ _ σ h
set_option maxRecDepth 20000 in
theorem s_GA_keepFewer_0 (Y : List kd) (d : Nat) (t : Nat) (v1 : Int32) (v2 : Int32) (v3 : Int32) (v4 : Int32) (σ : sS) (Q : Option sv → sS → Prop)
    (h : ((¬ ((σ t 3) - v2) < (v2 - v1) → Q none (up (up σ t 3 v2) t 4 v4)) ∧ (((σ t 3) - v2) < (v2 - v1) → CJ Y d y_GF_close [sR (t + 22) (.inr 6144), sI v2, sI (σ t 3), sI (v2 - v1)] σ (rN fun σ1 => Q none (up (up σ1 t 3 (v1 + ((σ t 3) - v2))) t 4 ((v3 + ((up σ1 t 3 (v1 + ((σ t 3) - v2))) t 4)) - v4)))))) :
    Jd Y (d + 1) y_GA_keepFewer 0 [(0, sR t (.inl 1)), (1, sI v1), (2, sI v2), (3, sI v3), (4, sI v4)] [] σ Q :=
  blk_ok (d := (d + 1)) (y := y_GA_keepFewer) (ft := ft_GA) (ct := ct_GA) (tab := tab_GA_keepFewer) ⟨tk_GA_keepFewer, ft_GA_ok, ct_GA_ok Y⟩ [] 42 0 _ _ σ h
set_option maxRecDepth 20000 in
theorem s_GF_fault_0 (Y : List kd) (d : Nat) (t : Nat) (v1 : Int32) (v2 : Int32) (σ : sS) (Q : Option sv → sS → Prop)
    (h : ((v2 = 0 → Jd Y (d + 1) y_GF_fault 16 [(0, sR t (.inl 5)), (1, sI v1), (2, sI v2)] [] σ Q) ∧ (¬ v2 = 0 → ((v2 = 1 → Jd Y (d + 1) y_GF_fault 16 [(0, sR t (.inl 5)), (1, sI v1), (2, sI v2)] [] σ Q) ∧ (¬ v2 = 1 → CJ Y d y_GF_refuse [sR t (.inl 5), sI (-2)] σ (rI fun r1 σ1 => Q (some (sI r1)) σ1)))))) :
    Jd Y (d + 1) y_GF_fault 0 [(0, sR t (.inl 5)), (1, sI v1), (2, sI v2)] [] σ Q :=
  blk_ok (d := (d + 1)) (y := y_GF_fault) (ft := ft_GF) (ct := ct_GF) (tab := tab_GF_fault) ⟨tk_GF_fault, ft_GF_ok, ct_GF_ok Y⟩ [(16, [0, 1, 2]), (37, [0])] 38 0 _ _ σ h
set_option maxRecDepth 20000 in
theorem s_GF_fault_16 (Y : List kd) (d : Nat) (t : Nat) (v1 : Int32) (v2 : Int32) (σ : sS) (Q : Option sv → sS → Prop)
    (h : CJ Y d y_GA_gather [sR (t + 15) (.inl 1), sR (t + 1) (.inl 3)] σ (rI fun r1 σ1 => ((v1 < 0 → Jd Y (d + 1) y_GF_fault 37 [(0, sR t (.inl 5))] [] σ1 Q) ∧ (¬ v1 < 0 → ((v1 < r1 → ((¬ v2 = 0 → CJ Y d y_GA_codeAt [sR (t + 15) (.inl 1), sI v1] σ1 (rI fun r2 σ2 => Q (some (sI r2)) σ2)) ∧ (v2 = 0 → CJ Y d y_GA_pathAt [sR (t + 15) (.inl 1), sI v1] σ1 (rI fun r3 σ3 => Q (some (sI r3)) σ3)))) ∧ (¬ v1 < r1 → Jd Y (d + 1) y_GF_fault 37 [(0, sR t (.inl 5))] [] σ1 Q)))))) :
    Jd Y (d + 1) y_GF_fault 16 [(0, sR t (.inl 5)), (1, sI v1), (2, sI v2)] [] σ Q :=
  blk_ok (d := (d + 1)) (y := y_GF_fault) (ft := ft_GF) (ct := ct_GF) (tab := tab_GF_fault) ⟨tk_GF_fault, ft_GF_ok, ct_GF_ok Y⟩ [(16, [0, 1, 2]), (37, [0])] 38 16 _ _ σ h
set_option maxRecDepth 20000 in
theorem s_GF_fault_37 (Y : List kd) (d : Nat) (t : Nat) (σ : sS) (Q : Option sv → sS → Prop)
    (h : CJ Y d y_GF_refuse [sR t (.inl 5), sI (-1)] σ (rI fun r1 σ1 => Q (some (sI r1)) σ1)) :
    Jd Y (d + 1) y_GF_fault 37 [(0, sR t (.inl 5))] [] σ Q :=
  blk_ok (d := (d + 1)) (y := y_GF_fault) (ft := ft_GF) (ct := ct_GF) (tab := tab_GF_fault) ⟨tk_GF_fault, ft_GF_ok, ct_GF_ok Y⟩ [(16, [0, 1, 2]), (37, [0])] 38 37 _ _ σ h
set_option maxRecDepth 20000 in
theorem s_GF_refuse_0 (Y : List kd) (d : Nat) (t : Nat) (v1 : Int32) (σ : sS) (Q : Option sv → sS → Prop)
    (h : Q (some (sI v1)) (wr σ (t + 66) 7 (-v1) ((rd σ (t + 66) 7 (-v1)) + 1))) :
    Jd Y (d + 1) y_GF_refuse 0 [(0, sR t (.inl 5)), (1, sI v1)] [] σ Q :=
  blk_ok (d := (d + 1)) (y := y_GF_refuse) (ft := ft_GF) (ct := ct_GF) (tab := tab_GF_refuse) ⟨tk_GF_refuse, ft_GF_ok, ct_GF_ok Y⟩ [] 16 0 _ _ σ h
set_option maxRecDepth 20000 in
theorem s_GA_pathAt_0 (Y : List kd) (d : Nat) (t : Nat) (v1 : Int32) (σ : sS) (Q : Option sv → sS → Prop)
    (h : (¬ (100 : Int32) = 0 ∧ Q (some (sI ((rd σ (t + 22) 6144 v1) / 100))) σ)) :
    Jd Y (d + 1) y_GA_pathAt 0 [(0, sR t (.inl 1)), (1, sI v1)] [] σ Q :=
  blk_ok (d := (d + 1)) (y := y_GA_pathAt) (ft := ft_GA) (ct := ct_GA) (tab := tab_GA_pathAt) ⟨tk_GA_pathAt, ft_GA_ok, ct_GA_ok Y⟩ [] 9 0 _ _ σ h
set_option maxRecDepth 20000 in
theorem s_GA_codeAt_0 (Y : List kd) (d : Nat) (t : Nat) (v1 : Int32) (σ : sS) (Q : Option sv → sS → Prop)
    (h : (¬ (100 : Int32) = 0 ∧ Q (some (sI ((rd σ (t + 22) 6144 v1) - (rd σ (t + 22) 6144 v1) / 100 * 100))) σ)) :
    Jd Y (d + 1) y_GA_codeAt 0 [(0, sR t (.inl 1)), (1, sI v1)] [] σ Q :=
  blk_ok (d := (d + 1)) (y := y_GA_codeAt) (ft := ft_GA) (ct := ct_GA) (tab := tab_GA_codeAt) ⟨tk_GA_codeAt, ft_GA_ok, ct_GA_ok Y⟩ [] 9 0 _ _ σ h
set_option maxRecDepth 20000 in
theorem s_GF_coded_0 (Y : List kd) (d : Nat) (t : Nat) (v1 : Int32) (σ : sS) (Q : Option sv → sS → Prop)
    (h : ((v1 < 1 → Jd Y (d + 1) y_GF_coded 11 [(0, sR t (.inl 5))] [] σ Q) ∧ (¬ v1 < 1 → ((¬ (12 : Int32) < v1 → CJ Y d y_GA_gather [sR (t + 15) (.inl 1), sR (t + 1) (.inl 3)] σ (rI fun r1 σ1 => CJ Y d y_GA_countCode [sR (t + 15) (.inl 1), sI v1] σ1 (rI fun r2 σ2 => Q (some (sI r2)) σ2))) ∧ ((12 : Int32) < v1 → Jd Y (d + 1) y_GF_coded 11 [(0, sR t (.inl 5))] [] σ Q))))) :
    Jd Y (d + 1) y_GF_coded 0 [(0, sR t (.inl 5)), (1, sI v1)] [] σ Q :=
  blk_ok (d := (d + 1)) (y := y_GF_coded) (ft := ft_GF) (ct := ct_GF) (tab := tab_GF_coded) ⟨tk_GF_coded, ft_GF_ok, ct_GF_ok Y⟩ [(11, [0])] 23 0 _ _ σ h
set_option maxRecDepth 20000 in
theorem s_GF_coded_11 (Y : List kd) (d : Nat) (t : Nat) (σ : sS) (Q : Option sv → sS → Prop)
    (h : CJ Y d y_GF_refuse [sR t (.inl 5), sI (-2)] σ (rI fun r1 σ1 => Q (some (sI r1)) σ1)) :
    Jd Y (d + 1) y_GF_coded 11 [(0, sR t (.inl 5))] [] σ Q :=
  blk_ok (d := (d + 1)) (y := y_GF_coded) (ft := ft_GF) (ct := ct_GF) (tab := tab_GF_coded) ⟨tk_GF_coded, ft_GF_ok, ct_GF_ok Y⟩ [(11, [0])] 23 11 _ _ σ h
set_option maxRecDepth 20000 in
theorem s_GA_countCode_0 (Y : List kd) (d : Nat) (t : Nat) (v1 : Int32) (σ : sS) (Q : Option sv → sS → Prop)
    (h : Jd Y (d + 1) y_GA_countCode 4 [(0, sR t (.inl 1)), (1, sI v1), (2, sI 0), (3, sI 0)] [] σ Q) :
    Jd Y (d + 1) y_GA_countCode 0 [(0, sR t (.inl 1)), (1, sI v1)] [] σ Q :=
  blk_ok (d := (d + 1)) (y := y_GA_countCode) (ft := ft_GA) (ct := ct_GA) (tab := tab_GA_countCode) ⟨tk_GA_countCode, ft_GA_ok, ct_GA_ok Y⟩ [(4, [0, 1, 2, 3]), (24, [0, 1, 2, 3])] 20 0 _ _ σ h
set_option maxRecDepth 20000 in
theorem s_GA_countCode_4 (Y : List kd) (d : Nat) (t : Nat) (v1 : Int32) (v2 : Int32) (v3 : Int32) (σ : sS) (Q : Option sv → sS → Prop)
    (h : ((¬ v3 < (σ t 3) → Q (some (sI v2)) σ) ∧ (v3 < (σ t 3) → CJ Y d y_GA_codeAt [sR t (.inl 1), sI v3] σ (rI fun r1 σ1 => ((¬ r1 = v1 → Jd Y (d + 1) y_GA_countCode 24 [(0, sR t (.inl 1)), (1, sI v1), (2, sI v2), (3, sI v3)] [] σ1 Q) ∧ (r1 = v1 → Jd Y (d + 1) y_GA_countCode 24 [(0, sR t (.inl 1)), (1, sI v1), (2, sI (v2 + 1)), (3, sI v3)] [] σ1 Q)))))) :
    Jd Y (d + 1) y_GA_countCode 4 [(0, sR t (.inl 1)), (1, sI v1), (2, sI v2), (3, sI v3)] [] σ Q :=
  blk_ok (d := (d + 1)) (y := y_GA_countCode) (ft := ft_GA) (ct := ct_GA) (tab := tab_GA_countCode) ⟨tk_GA_countCode, ft_GA_ok, ct_GA_ok Y⟩ [(4, [0, 1, 2, 3]), (24, [0, 1, 2, 3])] 20 4 _ _ σ h
set_option maxRecDepth 20000 in
theorem s_GA_countCode_24 (Y : List kd) (d : Nat) (t : Nat) (v1 : Int32) (v2 : Int32) (v3 : Int32) (σ : sS) (Q : Option sv → sS → Prop)
    (h : Jd Y (d + 1) y_GA_countCode 4 [(0, sR t (.inl 1)), (1, sI v1), (2, sI v2), (3, sI (v3 + 1))] [] σ Q) :
    Jd Y (d + 1) y_GA_countCode 24 [(0, sR t (.inl 1)), (1, sI v1), (2, sI v2), (3, sI v3)] [] σ Q :=
  blk_ok (d := (d + 1)) (y := y_GA_countCode) (ft := ft_GA) (ct := ct_GA) (tab := tab_GA_countCode) ⟨tk_GA_countCode, ft_GA_ok, ct_GA_ok Y⟩ [(4, [0, 1, 2, 3]), (24, [0, 1, 2, 3])] 20 24 _ _ σ h
set_option maxRecDepth 20000 in
theorem s_GF_below_0 (Y : List kd) (d : Nat) (t : Nat) (v1 : Int32) (σ : sS) (Q : Option sv → sS → Prop)
    (h : ((¬ v1 < 0 → ((¬ (99999 : Int32) < v1 → CJ Y d y_GA_gather [sR (t + 15) (.inl 1), sR (t + 1) (.inl 3)] σ (rI fun r1 σ1 => CJ Y d y_GA_countBelow [sR (t + 15) (.inl 1), sI v1, sI 0] σ1 (rI fun r2 σ2 => Q (some (sI r2)) σ2))) ∧ ((99999 : Int32) < v1 → CJ Y d y_GF_refuse [sR t (.inl 5), sI (-6)] σ (rI fun r3 σ3 => Q (some (sI r3)) σ3)))) ∧ (v1 < 0 → CJ Y d y_GF_refuse [sR t (.inl 5), sI (-4)] σ (rI fun r4 σ4 => Q (some (sI r4)) σ4)))) :
    Jd Y (d + 1) y_GF_below 0 [(0, sR t (.inl 5)), (1, sI v1)] [] σ Q :=
  blk_ok (d := (d + 1)) (y := y_GF_below) (ft := ft_GF) (ct := ct_GF) (tab := tab_GF_below) ⟨tk_GF_below, ft_GF_ok, ct_GF_ok Y⟩ [] 27 0 _ _ σ h
set_option maxRecDepth 20000 in
theorem s_GF_waits_0 (Y : List kd) (d : Nat) (t : Nat) (σ : sS) (Q : Option sv → sS → Prop)
    (h : CJ Y d y_GA_gather [sR (t + 15) (.inl 1), sR (t + 1) (.inl 3)] σ (rI fun r1 σ1 => Q (some (sI (σ1 (t + 15) 4))) σ1)) :
    Jd Y (d + 1) y_GF_waits 0 [(0, sR t (.inl 5))] [] σ Q :=
  blk_ok (d := (d + 1)) (y := y_GF_waits) (ft := ft_GF) (ct := ct_GF) (tab := tab_GF_waits) ⟨tk_GF_waits, ft_GF_ok, ct_GF_ok Y⟩ [] 12 0 _ _ σ h
set_option maxRecDepth 20000 in
theorem s_GF_first_0 (Y : List kd) (d : Nat) (t : Nat) (σ : sS) (Q : Option sv → sS → Prop)
    (h : CJ Y d y_GA_gather [sR (t + 15) (.inl 1), sR (t + 1) (.inl 3)] σ (rI fun r1 σ1 => ((¬ (0 : Int32) < r1 → Q (some (sI (-9))) σ1) ∧ ((0 : Int32) < r1 → Q (some (sI (rd σ1 (t + 37) 6144 0))) σ1)))) :
    Jd Y (d + 1) y_GF_first 0 [(0, sR t (.inl 5))] [] σ Q :=
  blk_ok (d := (d + 1)) (y := y_GF_first) (ft := ft_GF) (ct := ct_GF) (tab := tab_GF_first) ⟨tk_GF_first, ft_GF_ok, ct_GF_ok Y⟩ [] 16 0 _ _ σ h
set_option maxRecDepth 20000 in
theorem s_GF_limited_0 (Y : List kd) (d : Nat) (t : Nat) (v1 : Int32) (v2 : Int32) (σ : sS) (Q : Option sv → sS → Prop)
    (h : ((¬ v1 < 0 → ((¬ (99 : Int32) < v1 → ((v2 = 0 → Jd Y (d + 1) y_GF_limited 40 [(0, sR t (.inl 5)), (1, sI v1), (2, sI v2)] [] σ Q) ∧ (¬ v2 = 0 → ((v2 = 1 → Jd Y (d + 1) y_GF_limited 40 [(0, sR t (.inl 5)), (1, sI v1), (2, sI v2)] [] σ Q) ∧ (¬ v2 = 1 → CJ Y d y_GF_refuse [sR t (.inl 5), sI (-2)] σ (rI fun r1 σ1 => Q (some (sI r1)) σ1)))))) ∧ ((99 : Int32) < v1 → CJ Y d y_GF_refuse [sR t (.inl 5), sI (-6)] σ (rI fun r2 σ2 => Q (some (sI r2)) σ2)))) ∧ (v1 < 0 → CJ Y d y_GF_refuse [sR t (.inl 5), sI (-4)] σ (rI fun r3 σ3 => Q (some (sI r3)) σ3)))) :
    Jd Y (d + 1) y_GF_limited 0 [(0, sR t (.inl 5)), (1, sI v1), (2, sI v2)] [] σ Q :=
  blk_ok (d := (d + 1)) (y := y_GF_limited) (ft := ft_GF) (ct := ct_GF) (tab := tab_GF_limited) ⟨tk_GF_limited, ft_GF_ok, ct_GF_ok Y⟩ [(40, [0, 1, 2])] 48 0 _ _ σ h
set_option maxRecDepth 20000 in
theorem s_GF_limited_40 (Y : List kd) (d : Nat) (t : Nat) (v1 : Int32) (v2 : Int32) (σ : sS) (Q : Option sv → sS → Prop)
    (h : CJ Y d y_GA_gather [sR (t + 15) (.inl 1), sR (t + 1) (.inl 3)] σ (rI fun r1 σ1 => ((¬ v2 = 0 → ((¬ (0 : Int32) < (if r1 < v1 then r1 else v1) → Q (some (sI (-9))) σ1) ∧ ((0 : Int32) < (if r1 < v1 then r1 else v1) → Q (some (sI (rd σ1 (t + 37) 6144 ((if r1 < v1 then r1 else v1) - 1)))) σ1))) ∧ (v2 = 0 → Q (some (sI (if r1 < v1 then r1 else v1))) σ1)))) :
    Jd Y (d + 1) y_GF_limited 40 [(0, sR t (.inl 5)), (1, sI v1), (2, sI v2)] [] σ Q :=
  blk_ok (d := (d + 1)) (y := y_GF_limited) (ft := ft_GF) (ct := ct_GF) (tab := tab_GF_limited) ⟨tk_GF_limited, ft_GF_ok, ct_GF_ok Y⟩ [(40, [0, 1, 2])] 48 40 _ _ σ h
set_option maxRecDepth 20000 in
theorem s_GF_total_0 (Y : List kd) (d : Nat) (t : Nat) (σ : sS) (Q : Option sv → sS → Prop)
    (h : CJ Y d y_GA_gather [sR (t + 15) (.inl 1), sR (t + 1) (.inl 3)] σ (rI fun r1 σ1 => ((¬ (0 : Int32) < r1 → Jd Y (d + 1) y_GF_total 21 [(0, sR t (.inl 5)), (1, sI 0), (2, sI 0)] [] σ1 Q) ∧ ((0 : Int32) < r1 → Q (some (sI (-9))) σ1)))) :
    Jd Y (d + 1) y_GF_total 0 [(0, sR t (.inl 5))] [] σ Q :=
  blk_ok (d := (d + 1)) (y := y_GF_total) (ft := ft_GF) (ct := ct_GF) (tab := tab_GF_total) ⟨tk_GF_total, ft_GF_ok, ct_GF_ok Y⟩ [(21, [0, 1, 2]), (60, [0, 1, 2])] 37 0 _ _ σ h
set_option maxRecDepth 20000 in
theorem s_GF_total_21 (Y : List kd) (d : Nat) (t : Nat) (v1 : Int32) (v2 : Int32) (σ : sS) (Q : Option sv → sS → Prop)
    (h : ((¬ v2 < (σ (t + 1) 6) → Q (some (sI v1)) σ) ∧ (v2 < (σ (t + 1) 6) → ((¬ (rd σ (t + 2) 20 v2) = 0 → Jd Y (d + 1) y_GF_total 60 [(0, sR t (.inl 5)), (1, sI v1), (2, sI v2)] [] σ Q) ∧ ((rd σ (t + 2) 20 v2) = 0 → Jd Y (d + 1) y_GF_total 60 [(0, sR t (.inl 5)), (1, sI (v1 + (rd σ (t + 3) 20 v2))), (2, sI v2)] [] σ Q))))) :
    Jd Y (d + 1) y_GF_total 21 [(0, sR t (.inl 5)), (1, sI v1), (2, sI v2)] [] σ Q :=
  blk_ok (d := (d + 1)) (y := y_GF_total) (ft := ft_GF) (ct := ct_GF) (tab := tab_GF_total) ⟨tk_GF_total, ft_GF_ok, ct_GF_ok Y⟩ [(21, [0, 1, 2]), (60, [0, 1, 2])] 37 21 _ _ σ h
set_option maxRecDepth 20000 in
theorem s_GF_total_60 (Y : List kd) (d : Nat) (t : Nat) (v1 : Int32) (v2 : Int32) (σ : sS) (Q : Option sv → sS → Prop)
    (h : Jd Y (d + 1) y_GF_total 21 [(0, sR t (.inl 5)), (1, sI v1), (2, sI (v2 + 1))] [] σ Q) :
    Jd Y (d + 1) y_GF_total 60 [(0, sR t (.inl 5)), (1, sI v1), (2, sI v2)] [] σ Q :=
  blk_ok (d := (d + 1)) (y := y_GF_total) (ft := ft_GF) (ct := ct_GF) (tab := tab_GF_total) ⟨tk_GF_total, ft_GF_ok, ct_GF_ok Y⟩ [(21, [0, 1, 2]), (60, [0, 1, 2])] 37 60 _ _ σ h
set_option maxRecDepth 20000 in
theorem s_GF_same_0 (Y : List kd) (d : Nat) (t : Nat) (v1 : Int32) (v2 : Int32) (σ : sS) (Q : Option sv → sS → Prop)
    (h : CJ Y d y_TR_find [sR (t + 1) (.inl 3), sI v1] σ (rI fun r1 σ1 => CJ Y d y_TR_find [sR (t + 1) (.inl 3), sI v2] σ1 (rI fun r2 σ2 => ((r1 < 0 → Jd Y (d + 1) y_GF_same 28 [(0, sR t (.inl 5))] [] σ2 Q) ∧ (¬ r1 < 0 → ((¬ r2 < 0 → CJ Y d y_TR_alike [sR (t + 1) (.inl 3), sI r1, sI r2] σ2 (rI fun r3 σ3 => ((r3 = 0 → Q (some (sI 0)) σ3) ∧ (¬ r3 = 0 → Q (some (sI 1)) σ3)))) ∧ (r2 < 0 → Jd Y (d + 1) y_GF_same 28 [(0, sR t (.inl 5))] [] σ2 Q))))))) :
    Jd Y (d + 1) y_GF_same 0 [(0, sR t (.inl 5)), (1, sI v1), (2, sI v2)] [] σ Q :=
  blk_ok (d := (d + 1)) (y := y_GF_same) (ft := ft_GF) (ct := ct_GF) (tab := tab_GF_same) ⟨tk_GF_same, ft_GF_ok, ct_GF_ok Y⟩ [(28, [0])] 30 0 _ _ σ h
set_option maxRecDepth 20000 in
theorem s_GF_same_28 (Y : List kd) (d : Nat) (t : Nat) (σ : sS) (Q : Option sv → sS → Prop)
    (h : CJ Y d y_GF_refuse [sR t (.inl 5), sI (-1)] σ (rI fun r1 σ1 => Q (some (sI r1)) σ1)) :
    Jd Y (d + 1) y_GF_same 28 [(0, sR t (.inl 5))] [] σ Q :=
  blk_ok (d := (d + 1)) (y := y_GF_same) (ft := ft_GF) (ct := ct_GF) (tab := tab_GF_same) ⟨tk_GF_same, ft_GF_ok, ct_GF_ok Y⟩ [(28, [0])] 30 28 _ _ σ h
set_option maxRecDepth 20000 in
theorem s_TR_find_0 (Y : List kd) (d : Nat) (t : Nat) (v1 : Int32) (σ : sS) (Q : Option sv → sS → Prop)
    (h : Jd Y (d + 1) y_TR_find 2 [(0, sR t (.inl 3)), (1, sI v1), (2, sI 0)] [] σ Q) :
    Jd Y (d + 1) y_TR_find 0 [(0, sR t (.inl 3)), (1, sI v1)] [] σ Q :=
  blk_ok (d := (d + 1)) (y := y_TR_find) (ft := ft_TR) (ct := ct_TR) (tab := tab_TR_find) ⟨tk_TR_find, ft_TR_ok, ct_TR_ok Y⟩ [(2, [0, 1, 2])] 20 0 _ _ σ h
set_option maxRecDepth 20000 in
theorem s_TR_find_2 (Y : List kd) (d : Nat) (t : Nat) (v1 : Int32) (v2 : Int32) (σ : sS) (Q : Option sv → sS → Prop)
    (h : ((¬ v2 < (σ t 6) → Q (some (sI (-1))) σ) ∧ (v2 < (σ t 6) → ((¬ (rd σ (t + 6) 20 v2) = v1 → Jd Y (d + 1) y_TR_find 2 [(0, sR t (.inl 3)), (1, sI v1), (2, sI (v2 + 1))] [] σ Q) ∧ ((rd σ (t + 6) 20 v2) = v1 → Q (some (sI v2)) σ))))) :
    Jd Y (d + 1) y_TR_find 2 [(0, sR t (.inl 3)), (1, sI v1), (2, sI v2)] [] σ Q :=
  blk_ok (d := (d + 1)) (y := y_TR_find) (ft := ft_TR) (ct := ct_TR) (tab := tab_TR_find) ⟨tk_TR_find, ft_TR_ok, ct_TR_ok Y⟩ [(2, [0, 1, 2])] 20 2 _ _ σ h
set_option maxRecDepth 20000 in
theorem s_GF_image_0 (Y : List kd) (d : Nat) (t : Nat) (σ : sS) (Q : Option sv → sS → Prop)
    (h : CJ Y d y_TR_take [sR (t + 67) (.inl 3), sR (t + 1) (.inl 3)] σ (rN fun σ1 => CJ Y d y_PL_take [sR (t + 74) (.inl 2), sR (t + 16) (.inl 2)] σ1 (rN fun σ2 => (((1 : Int32) = 0 ∨ (1 : Int32) = 1) ∧ Q (some (sI ((up σ2 t 12 1) (t + 1) 6))) (up σ2 t 12 1))))) :
    Jd Y (d + 1) y_GF_image 0 [(0, sR t (.inl 5))] [] σ Q :=
  blk_ok (d := (d + 1)) (y := y_GF_image) (ft := ft_GF) (ct := ct_GF) (tab := tab_GF_image) ⟨tk_GF_image, ft_GF_ok, ct_GF_ok Y⟩ [] 20 0 _ _ σ h
set_option maxRecDepth 20000 in
theorem s_TR_take_0 (Y : List kd) (d : Nat) (t : Nat) (a1 : Nat) (σ : sS) (Q : Option sv → sS → Prop)
    (h : CJ Y d y_GF_copy [sR (a1 + 1) (.inr 20), sR (t + 1) (.inr 20)] σ (rN fun σ1 => CJ Y d y_GF_copy [sR (a1 + 2) (.inr 20), sR (t + 2) (.inr 20)] σ1 (rN fun σ2 => CJ Y d y_GF_copy [sR (a1 + 3) (.inr 20), sR (t + 3) (.inr 20)] σ2 (rN fun σ3 => CJ Y d y_GF_copy [sR (a1 + 4) (.inr 20), sR (t + 4) (.inr 20)] σ3 (rN fun σ4 => CJ Y d y_GF_copy [sR (a1 + 5) (.inr 20), sR (t + 5) (.inr 20)] σ4 (rN fun σ5 => CJ Y d y_GF_copy [sR (a1 + 6) (.inr 20), sR (t + 6) (.inr 20)] σ5 (rN fun σ6 => Q none (up σ6 t 6 (σ6 a1 6))))))))) :
    Jd Y (d + 1) y_TR_take 0 [(0, sR t (.inl 3)), (1, sR a1 (.inl 3))] [] σ Q :=
  blk_ok (d := (d + 1)) (y := y_TR_take) (ft := ft_TR) (ct := ct_TR) (tab := tab_TR_take) ⟨tk_TR_take, ft_TR_ok, ct_TR_ok Y⟩ [] 40 0 _ _ σ h
set_option maxRecDepth 20000 in
theorem s_PL_take_0 (Y : List kd) (d : Nat) (t : Nat) (a1 : Nat) (σ : sS) (Q : Option sv → sS → Prop)
    (h : CJ Y d y_GF_copy [sR (a1 + 1) (.inr 24), sR (t + 1) (.inr 24)] σ (rN fun σ1 => CJ Y d y_GF_copy [sR (a1 + 2) (.inr 24), sR (t + 2) (.inr 24)] σ1 (rN fun σ2 => CJ Y d y_GF_copy [sR (a1 + 3) (.inr 24), sR (t + 3) (.inr 24)] σ2 (rN fun σ3 => CJ Y d y_GF_copy [sR (a1 + 4) (.inr 24), sR (t + 4) (.inr 24)] σ3 (rN fun σ4 => CJ Y d y_GF_copy [sR (a1 + 5) (.inr 24), sR (t + 5) (.inr 24)] σ4 (rN fun σ5 => CJ Y d y_GF_copy [sR (a1 + 6) (.inr 24), sR (t + 6) (.inr 24)] σ5 (rN fun σ6 => CJ Y d y_GF_copy [sR (a1 + 7) (.inr 24), sR (t + 7) (.inr 24)] σ6 (rN fun σ7 => CJ Y d y_GF_copy [sR (a1 + 8) (.inr 24), sR (t + 8) (.inr 24)] σ7 (rN fun σ8 => CJ Y d y_GF_copy [sR (a1 + 9) (.inr 24), sR (t + 9) (.inr 24)] σ8 (rN fun σ9 => CJ Y d y_GF_copy [sR (a1 + 10) (.inr 24), sR (t + 10) (.inr 24)] σ9 (rN fun σ10 => CJ Y d y_GF_copy [sR (a1 + 11) (.inr 32), sR (t + 11) (.inr 32)] σ10 (rN fun σ11 => CJ Y d y_GF_copy [sR (a1 + 12) (.inr 32), sR (t + 12) (.inr 32)] σ11 (rN fun σ12 => CJ Y d y_GF_copy [sR (a1 + 13) (.inr 32), sR (t + 13) (.inr 32)] σ12 (rN fun σ13 => Q none (up (up σ13 t 13 (σ13 a1 13)) t 14 ((up σ13 t 13 (σ13 a1 13)) a1 14)))))))))))))))) :
    Jd Y (d + 1) y_PL_take 0 [(0, sR t (.inl 2)), (1, sR a1 (.inl 2))] [] σ Q :=
  blk_ok (d := (d + 1)) (y := y_PL_take) (ft := ft_PL) (ct := ct_PL) (tab := tab_PL_take) ⟨tk_PL_take, ft_PL_ok, ct_PL_ok Y⟩ [] 79 0 _ _ σ h
set_option maxRecDepth 20000 in
theorem s_GF_on_0 (Y : List kd) (d : Nat) (t : Nat) (σ : sS) (Q : Option sv → sS → Prop)
    (h : ((¬ (σ t 12) = 0 → CJ Y d y_TR_take [sR (t + 1) (.inl 3), sR (t + 67) (.inl 3)] σ (rN fun σ1 => CJ Y d y_PL_take [sR (t + 16) (.inl 2), sR (t + 74) (.inl 2)] σ1 (rN fun σ2 => Q (some (sI (σ2 (t + 1) 6))) σ2))) ∧ ((σ t 12) = 0 → CJ Y d y_GF_refuse [sR t (.inl 5), sI (-3)] σ (rI fun r3 σ3 => Q (some (sI r3)) σ3)))) :
    Jd Y (d + 1) y_GF_on 0 [(0, sR t (.inl 5))] [] σ Q :=
  blk_ok (d := (d + 1)) (y := y_GF_on) (ft := ft_GF) (ct := ct_GF) (tab := tab_GF_on) ⟨tk_GF_on, ft_GF_ok, ct_GF_ok Y⟩ [] 24 0 _ _ σ h
set_option maxRecDepth 20000 in
theorem s_GF_count_0 (Y : List kd) (d : Nat) (t : Nat) (v1 : Int32) (σ : sS) (Q : Option sv → sS → Prop)
    (h : ((v1 = 0 → Q (some (sI (σ (t + 1) 6))) σ) ∧ (¬ v1 = 0 → ((v1 = 1 → Q (some (sI (σ (t + 16) 13))) σ) ∧ (¬ v1 = 1 → ((v1 = 2 → CJ Y d y_GA_gather [sR (t + 15) (.inl 1), sR (t + 1) (.inl 3)] σ (rI fun r4 σ4 => Q (some (sI r4)) σ4)) ∧ (¬ v1 = 2 → ((v1 = 3 → CJ Y d y_GF_numbers [sR t (.inl 5)] σ (rI fun r3 σ3 => Q (some (sI r3)) σ3)) ∧ (¬ v1 = 3 → ((v1 = 4 → CJ Y d y_GF_greatestPath [sR t (.inl 5)] σ (rI fun r2 σ2 => Q (some (sI r2)) σ2)) ∧ (¬ v1 = 4 → ((v1 = 5 → CJ Y d y_GA_gather [sR (t + 15) (.inl 1), sR (t + 1) (.inl 3)] σ (rI fun r1 σ1 => Q (some (sI (σ1 (t + 15) 4))) σ1)) ∧ (¬ v1 = 5 → ((v1 = 6 → Q (some (sI (σ t 8))) σ) ∧ (¬ v1 = 6 → ((v1 = 7 → Q (some (sI (σ t 6))) σ) ∧ (¬ v1 = 7 → ((v1 < 11 → Q (some (sI (-9))) σ) ∧ (¬ v1 < 11 → (((16 : Int32) < v1 → Q (some (sI (-9))) σ) ∧ (¬ (16 : Int32) < v1 → Q (some (sI (rd σ (t + 66) 7 (v1 - 10)))) σ))))))))))))))))))))) :
    Jd Y (d + 1) y_GF_count 0 [(0, sR t (.inl 5)), (1, sI v1)] [] σ Q :=
  blk_ok (d := (d + 1)) (y := y_GF_count) (ft := ft_GF) (ct := ct_GF) (tab := tab_GF_count) ⟨tk_GF_count, ft_GF_ok, ct_GF_ok Y⟩ [] 56 0 _ _ σ h
set_option maxRecDepth 20000 in
theorem s_GF_numbers_0 (Y : List kd) (d : Nat) (t : Nat) (σ : sS) (Q : Option sv → sS → Prop)
    (h : Jd Y (d + 1) y_GF_numbers 4 [(0, sR t (.inl 5)), (1, sI 0), (2, sI 0)] [] σ Q) :
    Jd Y (d + 1) y_GF_numbers 0 [(0, sR t (.inl 5))] [] σ Q :=
  blk_ok (d := (d + 1)) (y := y_GF_numbers) (ft := ft_GF) (ct := ct_GF) (tab := tab_GF_numbers) ⟨tk_GF_numbers, ft_GF_ok, ct_GF_ok Y⟩ [(4, [0, 1, 2]), (32, [0, 1, 2])] 22 0 _ _ σ h
set_option maxRecDepth 20000 in
theorem s_GF_numbers_4 (Y : List kd) (d : Nat) (t : Nat) (v1 : Int32) (v2 : Int32) (σ : sS) (Q : Option sv → sS → Prop)
    (h : ((¬ v2 < (σ (t + 1) 6) → Q (some (sI v1)) σ) ∧ (v2 < (σ (t + 1) 6) → ((¬ (rd σ (t + 2) 20 v2) = 0 → Jd Y (d + 1) y_GF_numbers 32 [(0, sR t (.inl 5)), (1, sI v1), (2, sI v2)] [] σ Q) ∧ ((rd σ (t + 2) 20 v2) = 0 → Jd Y (d + 1) y_GF_numbers 32 [(0, sR t (.inl 5)), (1, sI (v1 + 1)), (2, sI v2)] [] σ Q))))) :
    Jd Y (d + 1) y_GF_numbers 4 [(0, sR t (.inl 5)), (1, sI v1), (2, sI v2)] [] σ Q :=
  blk_ok (d := (d + 1)) (y := y_GF_numbers) (ft := ft_GF) (ct := ct_GF) (tab := tab_GF_numbers) ⟨tk_GF_numbers, ft_GF_ok, ct_GF_ok Y⟩ [(4, [0, 1, 2]), (32, [0, 1, 2])] 22 4 _ _ σ h
set_option maxRecDepth 20000 in
theorem s_GF_numbers_32 (Y : List kd) (d : Nat) (t : Nat) (v1 : Int32) (v2 : Int32) (σ : sS) (Q : Option sv → sS → Prop)
    (h : Jd Y (d + 1) y_GF_numbers 4 [(0, sR t (.inl 5)), (1, sI v1), (2, sI (v2 + 1))] [] σ Q) :
    Jd Y (d + 1) y_GF_numbers 32 [(0, sR t (.inl 5)), (1, sI v1), (2, sI v2)] [] σ Q :=
  blk_ok (d := (d + 1)) (y := y_GF_numbers) (ft := ft_GF) (ct := ct_GF) (tab := tab_GF_numbers) ⟨tk_GF_numbers, ft_GF_ok, ct_GF_ok Y⟩ [(4, [0, 1, 2]), (32, [0, 1, 2])] 22 32 _ _ σ h
set_option maxRecDepth 20000 in
theorem s_GF_greatestPath_0 (Y : List kd) (d : Nat) (t : Nat) (σ : sS) (Q : Option sv → sS → Prop)
    (h : Jd Y (d + 1) y_GF_greatestPath 4 [(0, sR t (.inl 5)), (1, sI 0), (2, sI 0)] [] σ Q) :
    Jd Y (d + 1) y_GF_greatestPath 0 [(0, sR t (.inl 5))] [] σ Q :=
  blk_ok (d := (d + 1)) (y := y_GF_greatestPath) (ft := ft_GF) (ct := ct_GF) (tab := tab_GF_greatestPath) ⟨tk_GF_greatestPath, ft_GF_ok, ct_GF_ok Y⟩ [(4, [0, 1, 2])] 23 0 _ _ σ h
set_option maxRecDepth 20000 in
theorem s_GF_greatestPath_4 (Y : List kd) (d : Nat) (t : Nat) (v1 : Int32) (v2 : Int32) (σ : sS) (Q : Option sv → sS → Prop)
    (h : ((¬ v2 < (σ (t + 1) 6) → Q (some (sI v1)) σ) ∧ (v2 < (σ (t + 1) 6) → Jd Y (d + 1) y_GF_greatestPath 4 [(0, sR t (.inl 5)), (1, sI (if v1 < (rd σ (t + 7) 20 v2) then (rd σ (t + 7) 20 v2) else v1)), (2, sI (v2 + 1))] [] σ Q))) :
    Jd Y (d + 1) y_GF_greatestPath 4 [(0, sR t (.inl 5)), (1, sI v1), (2, sI v2)] [] σ Q :=
  blk_ok (d := (d + 1)) (y := y_GF_greatestPath) (ft := ft_GF) (ct := ct_GF) (tab := tab_GF_greatestPath) ⟨tk_GF_greatestPath, ft_GF_ok, ct_GF_ok Y⟩ [(4, [0, 1, 2])] 23 4 _ _ σ h
set_option maxRecDepth 20000 in
theorem s_GF_letter_0 (Y : List kd) (d : Nat) (t : Nat) (v1 : Int32) (σ : sS) (Q : Option sv → sS → Prop)
    (h : ((¬ v1 < 0 → (((255 : Int32) < v1 → Jd Y (d + 1) y_GF_letter 27 [(0, sR t (.inl 5))] [] σ Q) ∧ (¬ (255 : Int32) < v1 → (((σ t 6) < 96 → Q (some (sI ((up (wr σ (t + 64) 96 (σ t 6) v1) t 6 (((wr σ (t + 64) 96 (σ t 6) v1) t 6) + 1)) t 6))) (up (wr σ (t + 64) 96 (σ t 6) v1) t 6 (((wr σ (t + 64) 96 (σ t 6) v1) t 6) + 1))) ∧ (¬ (σ t 6) < 96 → Jd Y (d + 1) y_GF_letter 27 [(0, sR t (.inl 5))] [] σ Q))))) ∧ (v1 < 0 → CJ Y d y_GF_refuse [sR t (.inl 5), sI (-4)] σ (rI fun r1 σ1 => Q (some (sI r1)) σ1)))) :
    Jd Y (d + 1) y_GF_letter 0 [(0, sR t (.inl 5)), (1, sI v1)] [] σ Q :=
  blk_ok (d := (d + 1)) (y := y_GF_letter) (ft := ft_GF) (ct := ct_GF) (tab := tab_GF_letter) ⟨tk_GF_letter, ft_GF_ok, ct_GF_ok Y⟩ [(27, [0])] 34 0 _ _ σ h
set_option maxRecDepth 20000 in
theorem s_GF_letter_27 (Y : List kd) (d : Nat) (t : Nat) (σ : sS) (Q : Option sv → sS → Prop)
    (h : CJ Y d y_GF_refuse [sR t (.inl 5), sI (-6)] σ (rI fun r1 σ1 => Q (some (sI r1)) σ1)) :
    Jd Y (d + 1) y_GF_letter 27 [(0, sR t (.inl 5))] [] σ Q :=
  blk_ok (d := (d + 1)) (y := y_GF_letter) (ft := ft_GF) (ct := ct_GF) (tab := tab_GF_letter) ⟨tk_GF_letter, ft_GF_ok, ct_GF_ok Y⟩ [(27, [0])] 34 27 _ _ σ h
set_option maxRecDepth 20000 in
theorem s_GF_check_0 (Y : List kd) (d : Nat) (t : Nat) (σ : sS) (Q : Option sv → sS → Prop)
    (h : CJ Y d y_RD_read [sR (t + 47) (.inl 0), sR (t + 64) (.inr 96), sI (σ t 6)] σ (rI fun r1 σ1 => ((r1 = 0 → CJ Y d y_PL_take [sR (t + 16) (.inl 2), sR (t + 49) (.inl 2)] (up σ1 t 6 0) (rN fun σ2 => Q (some (sI (σ2 (t + 16) 13))) σ2)) ∧ (¬ r1 = 0 → Q (some (sI r1)) (up σ1 t 6 0))))) :
    Jd Y (d + 1) y_GF_check 0 [(0, sR t (.inl 5))] [] σ Q :=
  blk_ok (d := (d + 1)) (y := y_GF_check) (ft := ft_GF) (ct := ct_GF) (tab := tab_GF_check) ⟨tk_GF_check, ft_GF_ok, ct_GF_ok Y⟩ [] 29 0 _ _ σ h
set_option maxRecDepth 20000 in
theorem s_RD_readC_0 (Y : List kd) (d : Nat) (t : Nat) (a1 : Nat) (v2 : Int32) (σ : sS) (Q : Option sv → sS → Prop)
    (h : CJ Y d y_RD_stumble [sR t (.inl 0), sR a1 (.inr 96), sI v2] σ (rI fun r1 σ1 => ((r1 < 0 → CJ Y d y_CR_build [sR t (.inl 0), sR a1 (.inr 96), sI v2] (up σ1 t 1 0) (rI fun r2 σ2 => ((r2 < 0 → Q (some (sI 0)) σ2) ∧ (¬ r2 < 0 → Q (some (sI ((-2000) - r2))) σ2)))) ∧ (¬ r1 < 0 → Q (some (sI ((-1000) - r1))) σ1)))) :
    Jd Y (d + 1) y_RD_read 0 [(0, sR t (.inl 0)), (1, sR a1 (.inr 96)), (2, sI v2)] [] σ Q :=
  blk_ok (d := (d + 1)) (y := y_RD_read) (ft := ft_RD) (ct := ct_RD) (tab := tab_RD_read) ⟨tk_RD_read, ft_RD_ok, ct_RD_ok Y⟩ [] 29 0 _ _ σ h
set_option maxRecDepth 20000 in
theorem s_RD_readV_0 (Y : List kd) (d : Nat) (t : Nat) (a1 : Nat) (v2 : Int32) (σ : sS) (Q : Option sv → sS → Prop)
    (h : CJ Y d y_RD_stumble [sR t (.inl 4), sR a1 (.inr 96), sI v2] σ (rI fun r1 σ1 => ((r1 < 0 → CJ Y d y_VR_build [sR t (.inl 4), sR a1 (.inr 96), sI v2] (up σ1 t 1 0) (rI fun r2 σ2 => ((r2 < 0 → Q (some (sI 0)) σ2) ∧ (¬ r2 < 0 → Q (some (sI ((-2000) - r2))) σ2)))) ∧ (¬ r1 < 0 → Q (some (sI ((-1000) - r1))) σ1)))) :
    Jd Y (d + 1) y_RD_read 0 [(0, sR t (.inl 4)), (1, sR a1 (.inr 96)), (2, sI v2)] [] σ Q :=
  blk_ok (d := (d + 1)) (y := y_RD_read) (ft := ft_RD) (ct := ct_RD) (tab := tab_RD_read) ⟨tk_RD_read, ft_RD_ok, ct_RD_ok Y⟩ [] 29 0 _ _ σ h
set_option maxRecDepth 20000 in
theorem s_RD_stumbleC_0 (Y : List kd) (d : Nat) (t : Nat) (a1 : Nat) (v2 : Int32) (σ : sS) (Q : Option sv → sS → Prop)
    (h : (((0 : Int32) = 0 ∨ (0 : Int32) = 1) ∧ Jd Y (d + 1) y_RD_stumble 17 [(0, sR t (.inl 0)), (1, sR a1 (.inr 96)), (2, sI v2), (3, sI 0)] [] (up (up (up σ t 1 0) t 2 0) t 3 0) Q)) :
    Jd Y (d + 1) y_RD_stumble 0 [(0, sR t (.inl 0)), (1, sR a1 (.inr 96)), (2, sI v2)] [] σ Q :=
  blk_ok (d := (d + 1)) (y := y_RD_stumble) (ft := ft_RD) (ct := ct_RD) (tab := tab_RD_stumble) ⟨tk_RD_stumble, ft_RD_ok, ct_RD_ok Y⟩ [(17, [0, 1, 2, 3])] 34 0 _ _ σ h
set_option maxRecDepth 20000 in
theorem s_RD_stumbleC_17 (Y : List kd) (d : Nat) (t : Nat) (a1 : Nat) (v2 : Int32) (v3 : Int32) (σ : sS) (Q : Option sv → sS → Prop)
    (h : ((¬ v3 < v2 → ((¬ (σ t 2) = 1 → Q (some (sI v2)) σ) ∧ ((σ t 2) = 1 → Q (some (sI (-1))) σ))) ∧ (v3 < v2 → CJ Y d y_CR_goesOn [sR t (.inl 0), sI (rd σ a1 96 v3)] σ (rI fun r1 σ1 => ((¬ r1 = 0 → Jd Y (d + 1) y_RD_stumble 17 [(0, sR t (.inl 0)), (1, sR a1 (.inr 96)), (2, sI v2), (3, sI (v3 + 1))] [] σ1 Q) ∧ (r1 = 0 → Q (some (sI v3)) σ1)))))) :
    Jd Y (d + 1) y_RD_stumble 17 [(0, sR t (.inl 0)), (1, sR a1 (.inr 96)), (2, sI v2), (3, sI v3)] [] σ Q :=
  blk_ok (d := (d + 1)) (y := y_RD_stumble) (ft := ft_RD) (ct := ct_RD) (tab := tab_RD_stumble) ⟨tk_RD_stumble, ft_RD_ok, ct_RD_ok Y⟩ [(17, [0, 1, 2, 3])] 34 17 _ _ σ h
set_option maxRecDepth 20000 in
theorem s_RD_stumbleV_0 (Y : List kd) (d : Nat) (t : Nat) (a1 : Nat) (v2 : Int32) (σ : sS) (Q : Option sv → sS → Prop)
    (h : (((0 : Int32) = 0 ∨ (0 : Int32) = 1) ∧ Jd Y (d + 1) y_RD_stumble 17 [(0, sR t (.inl 4)), (1, sR a1 (.inr 96)), (2, sI v2), (3, sI 0)] [] (up (up (up σ t 1 0) t 2 0) t 3 0) Q)) :
    Jd Y (d + 1) y_RD_stumble 0 [(0, sR t (.inl 4)), (1, sR a1 (.inr 96)), (2, sI v2)] [] σ Q :=
  blk_ok (d := (d + 1)) (y := y_RD_stumble) (ft := ft_RD) (ct := ct_RD) (tab := tab_RD_stumble) ⟨tk_RD_stumble, ft_RD_ok, ct_RD_ok Y⟩ [(17, [0, 1, 2, 3])] 34 0 _ _ σ h
set_option maxRecDepth 20000 in
theorem s_RD_stumbleV_17 (Y : List kd) (d : Nat) (t : Nat) (a1 : Nat) (v2 : Int32) (v3 : Int32) (σ : sS) (Q : Option sv → sS → Prop)
    (h : ((¬ v3 < v2 → ((¬ (σ t 2) = 1 → Q (some (sI v2)) σ) ∧ ((σ t 2) = 1 → Q (some (sI (-1))) σ))) ∧ (v3 < v2 → CJ Y d y_VR_goesOn [sR t (.inl 4), sI (rd σ a1 96 v3)] σ (rI fun r1 σ1 => ((¬ r1 = 0 → Jd Y (d + 1) y_RD_stumble 17 [(0, sR t (.inl 4)), (1, sR a1 (.inr 96)), (2, sI v2), (3, sI (v3 + 1))] [] σ1 Q) ∧ (r1 = 0 → Q (some (sI v3)) σ1)))))) :
    Jd Y (d + 1) y_RD_stumble 17 [(0, sR t (.inl 4)), (1, sR a1 (.inr 96)), (2, sI v2), (3, sI v3)] [] σ Q :=
  blk_ok (d := (d + 1)) (y := y_RD_stumble) (ft := ft_RD) (ct := ct_RD) (tab := tab_RD_stumble) ⟨tk_RD_stumble, ft_RD_ok, ct_RD_ok Y⟩ [(17, [0, 1, 2, 3])] 34 17 _ _ σ h
set_option maxRecDepth 20000 in
theorem s_CR_goesOn_0 (Y : List kd) (d : Nat) (t : Nat) (v1 : Int32) (σ : sS) (Q : Option sv → sS → Prop)
    (h : (((σ t 2) = 0 → CJ Y d y_CR_begins [sR t (.inl 0), sI v1] σ (rI fun r5 σ5 => ((r5 = 0 ∨ r5 = 1) ∧ Q (some (sI r5)) σ5))) ∧ (¬ (σ t 2) = 0 → (((σ t 2) = 1 → (((0 : Int32) = 0 ∨ (0 : Int32) = 1) ∧ Q (some (sI 0)) σ)) ∧ (¬ (σ t 2) = 1 → (((σ t 2) = 2 → ((¬ ((up σ t 6 ((σ t 6) - 1)) t 6) = 0 → Jd Y (d + 1) y_CR_goesOn 75 [(1, sI v1)] [] (up σ t 6 ((σ t 6) - 1)) Q) ∧ (((up σ t 6 ((σ t 6) - 1)) t 6) = 0 → CJ Y d y_CR_goBehindDigits [sR t (.inl 0)] (up σ t 6 ((σ t 6) - 1)) (rN fun σ4 => Jd Y (d + 1) y_CR_goesOn 75 [(1, sI v1)] [] σ4 Q)))) ∧ (¬ (σ t 2) = 2 → (((σ t 2) = 3 → CJ Y d y_CR_field [sR t (.inl 0), sI v1] σ (rI fun r2 σ2 => ((¬ r2 = 0 → (((1 : Int32) = 0 ∨ (1 : Int32) = 1) ∧ Q (some (sI 1)) σ2)) ∧ (r2 = 0 → CJ Y d y_CR_last [sR t (.inl 0), sI v1] σ2 (rI fun r3 σ3 => ((r3 = 0 → (((0 : Int32) = 0 ∨ (0 : Int32) = 1) ∧ Q (some (sI 0)) σ3)) ∧ (¬ r3 = 0 → (((1 : Int32) = 0 ∨ (1 : Int32) = 1) ∧ Q (some (sI 1)) σ3)))))))) ∧ (¬ (σ t 2) = 3 → (((σ t 2) = 4 → (((iNam v1) = 0 ∨ (iNam v1) = 1) ∧ Q (some (sI (iNam v1))) (up σ t 2 0))) ∧ (¬ (σ t 2) = 4 → (((σ t 2) = 5 → CJ Y d y_CR_last [sR t (.inl 0), sI v1] σ (rI fun r1 σ1 => ((r1 = 0 ∨ r1 = 1) ∧ Q (some (sI r1)) σ1))) ∧ (¬ (σ t 2) = 5 → (((σ t 2) = 6 → ((¬ ((up σ t 6 ((σ t 6) - 1)) t 6) = 0 → Jd Y (d + 1) y_CR_goesOn 142 [(1, sI v1)] [sI 6, sR t (.inl 0)] (up σ t 6 ((σ t 6) - 1)) Q) ∧ (((up σ t 6 ((σ t 6) - 1)) t 6) = 0 → Jd Y (d + 1) y_CR_goesOn 142 [(1, sI v1)] [sI 5, sR t (.inl 0)] (up σ t 6 ((σ t 6) - 1)) Q))) ∧ (¬ (σ t 2) = 6 → (((0 : Int32) = 0 ∨ (0 : Int32) = 1) ∧ Q (some (sI 0)) σ)))))))))))))))) :
    Jd Y (d + 1) y_CR_goesOn 0 [(0, sR t (.inl 0)), (1, sI v1)] [] σ Q :=
  blk_ok (d := (d + 1)) (y := y_CR_goesOn) (ft := ft_CR) (ct := ct_CR) (tab := tab_CR_goesOn) ⟨tk_CR_goesOn, ft_CR_ok, ct_CR_ok Y⟩ [(75, [1]), (142, [1])] 64 0 _ _ σ h
set_option maxRecDepth 20000 in
theorem s_CR_goesOn_75 (Y : List kd) (d : Nat) (v1 : Int32) (σ : sS) (Q : Option sv → sS → Prop)
    (h : (((iDig v1) = 0 ∨ (iDig v1) = 1) ∧ Q (some (sI (iDig v1))) σ)) :
    Jd Y (d + 1) y_CR_goesOn 75 [(1, sI v1)] [] σ Q :=
  blk_ok (d := (d + 1)) (y := y_CR_goesOn) (ft := ft_CR) (ct := ct_CR) (tab := tab_CR_goesOn) ⟨tk_CR_goesOn, ft_CR_ok, ct_CR_ok Y⟩ [(75, [1]), (142, [1])] 64 75 _ _ σ h
set_option maxRecDepth 20000 in
theorem s_CR_goesOn_142 (Y : List kd) (d : Nat) (v1 : Int32) (s0 : Int32) (b1 : Nat) (σ : sS) (Q : Option sv → sS → Prop)
    (h : (((iNam v1) = 0 ∨ (iNam v1) = 1) ∧ Q (some (sI (iNam v1))) (up σ b1 2 s0))) :
    Jd Y (d + 1) y_CR_goesOn 142 [(1, sI v1)] [sI s0, sR b1 (.inl 0)] σ Q :=
  blk_ok (d := (d + 1)) (y := y_CR_goesOn) (ft := ft_CR) (ct := ct_CR) (tab := tab_CR_goesOn) ⟨tk_CR_goesOn, ft_CR_ok, ct_CR_ok Y⟩ [(75, [1]), (142, [1])] 64 142 _ _ σ h
set_option maxRecDepth 20000 in
theorem s_CR_begins_0 (Y : List kd) (d : Nat) (t : Nat) (v1 : Int32) (σ : sS) (Q : Option sv → sS → Prop)
    (h : ((v1 = 33 → (((1 : Int32) = 0 ∨ (1 : Int32) = 1) ∧ Q (some (sI 1)) σ)) ∧ (¬ v1 = 33 → ((v1 = 35 → ((¬ v1 = 35 → Jd Y (d + 1) y_CR_begins 107 [(0, sR t (.inl 0)), (1, sI v1)] [sI 2, sR t (.inl 0)] (up σ t 2 2) Q) ∧ (v1 = 35 → Jd Y (d + 1) y_CR_begins 107 [(0, sR t (.inl 0)), (1, sI v1)] [sI 4, sR t (.inl 0)] (up σ t 2 2) Q))) ∧ (¬ v1 = 35 → ((v1 = 38 → (((1 : Int32) = 0 ∨ (1 : Int32) = 1) ∧ Q (some (sI 1)) σ)) ∧ (¬ v1 = 38 → ((v1 = 42 → CJ Y d y_CR_ends [sR t (.inl 0)] σ (rN fun σ4 => (((1 : Int32) = 0 ∨ (1 : Int32) = 1) ∧ Q (some (sI 1)) σ4))) ∧ (¬ v1 = 42 → ((v1 = 47 → CJ Y d y_RD_push [sR t (.inl 0), sI v1] σ (rN fun σ3 => (((1 : Int32) = 0 ∨ (1 : Int32) = 1) ∧ Q (some (sI 1)) σ3))) ∧ (¬ v1 = 47 → ((v1 = 64 → ((¬ v1 = 35 → Jd Y (d + 1) y_CR_begins 107 [(0, sR t (.inl 0)), (1, sI v1)] [sI 2, sR t (.inl 0)] (up σ t 2 2) Q) ∧ (v1 = 35 → Jd Y (d + 1) y_CR_begins 107 [(0, sR t (.inl 0)), (1, sI v1)] [sI 4, sR t (.inl 0)] (up σ t 2 2) Q))) ∧ (¬ v1 = 64 → ((v1 = 94 → CJ Y d y_CR_ends [sR t (.inl 0)] σ (rN fun σ2 => (((1 : Int32) = 0 ∨ (1 : Int32) = 1) ∧ Q (some (sI 1)) σ2))) ∧ (¬ v1 = 94 → ((v1 = 123 → CJ Y d y_RD_push [sR t (.inl 0), sI v1] σ (rN fun σ1 => (((1 : Int32) = 0 ∨ (1 : Int32) = 1) ∧ Q (some (sI 1)) (up σ1 t 2 3)))) ∧ (¬ v1 = 123 → ((v1 = 126 → (((1 : Int32) = 0 ∨ (1 : Int32) = 1) ∧ Q (some (sI 1)) σ)) ∧ (¬ v1 = 126 → (((0 : Int32) = 0 ∨ (0 : Int32) = 1) ∧ Q (some (sI 0)) σ)))))))))))))))))))) :
    Jd Y (d + 1) y_CR_begins 0 [(0, sR t (.inl 0)), (1, sI v1)] [] σ Q :=
  blk_ok (d := (d + 1)) (y := y_CR_begins) (ft := ft_CR) (ct := ct_CR) (tab := tab_CR_begins) ⟨tk_CR_begins, ft_CR_ok, ct_CR_ok Y⟩ [(107, [0, 1])] 46 0 _ _ σ h
set_option maxRecDepth 20000 in
theorem s_CR_begins_107 (Y : List kd) (d : Nat) (t : Nat) (v1 : Int32) (s0 : Int32) (b1 : Nat) (σ : sS) (Q : Option sv → sS → Prop)
    (h : ((¬ v1 = 64 → (((0 : Int32) = 0 ∨ (0 : Int32) = 1) ∧ (((1 : Int32) = 0 ∨ (1 : Int32) = 1) ∧ Q (some (sI 1)) (up (up σ b1 6 s0) t 7 0)))) ∧ (v1 = 64 → (((1 : Int32) = 0 ∨ (1 : Int32) = 1) ∧ (((1 : Int32) = 0 ∨ (1 : Int32) = 1) ∧ Q (some (sI 1)) (up (up σ b1 6 s0) t 7 1)))))) :
    Jd Y (d + 1) y_CR_begins 107 [(0, sR t (.inl 0)), (1, sI v1)] [sI s0, sR b1 (.inl 0)] σ Q :=
  blk_ok (d := (d + 1)) (y := y_CR_begins) (ft := ft_CR) (ct := ct_CR) (tab := tab_CR_begins) ⟨tk_CR_begins, ft_CR_ok, ct_CR_ok Y⟩ [(107, [0, 1])] 46 107 _ _ σ h
set_option maxRecDepth 20000 in
theorem s_CR_ends_0 (Y : List kd) (d : Nat) (t : Nat) (σ : sS) (Q : Option sv → sS → Prop)
    (h : ((¬ (σ t 1) = 0 → CJ Y d y_RD_top [sR t (.inl 0)] σ (rI fun r1 σ1 => ((¬ r1 = 47 → Q none (up σ1 t 2 3)) ∧ (r1 = 47 → CJ Y d y_RD_pop [sR t (.inl 0)] σ1 (rN fun σ2 => Q none (up σ2 t 2 0)))))) ∧ ((σ t 1) = 0 → Q none (up σ t 2 1)))) :
    Jd Y (d + 1) y_CR_ends 0 [(0, sR t (.inl 0))] [] σ Q :=
  blk_ok (d := (d + 1)) (y := y_CR_ends) (ft := ft_CR) (ct := ct_CR) (tab := tab_CR_ends) ⟨tk_CR_ends, ft_CR_ok, ct_CR_ok Y⟩ [] 23 0 _ _ σ h
set_option maxRecDepth 20000 in
theorem s_RD_topC_0 (Y : List kd) (d : Nat) (t : Nat) (σ : sS) (Q : Option sv → sS → Prop)
    (h : ((¬ (0 : Int32) < (σ t 1) → Q (some (sI (-1))) σ) ∧ ((0 : Int32) < (σ t 1) → Q (some (sI (rd σ (t + 1) 96 ((σ t 1) - 1)))) σ))) :
    Jd Y (d + 1) y_RD_top 0 [(0, sR t (.inl 0))] [] σ Q :=
  blk_ok (d := (d + 1)) (y := y_RD_top) (ft := ft_RD) (ct := ct_RD) (tab := tab_RD_top) ⟨tk_RD_top, ft_RD_ok, ct_RD_ok Y⟩ [] 15 0 _ _ σ h
set_option maxRecDepth 20000 in
theorem s_RD_topV_0 (Y : List kd) (d : Nat) (t : Nat) (σ : sS) (Q : Option sv → sS → Prop)
    (h : ((¬ (0 : Int32) < (σ t 1) → Q (some (sI (-1))) σ) ∧ ((0 : Int32) < (σ t 1) → Q (some (sI (rd σ (t + 1) 96 ((σ t 1) - 1)))) σ))) :
    Jd Y (d + 1) y_RD_top 0 [(0, sR t (.inl 4))] [] σ Q :=
  blk_ok (d := (d + 1)) (y := y_RD_top) (ft := ft_RD) (ct := ct_RD) (tab := tab_RD_top) ⟨tk_RD_top, ft_RD_ok, ct_RD_ok Y⟩ [] 15 0 _ _ σ h
set_option maxRecDepth 20000 in
theorem s_RD_popC_0 (Y : List kd) (d : Nat) (t : Nat) (σ : sS) (Q : Option sv → sS → Prop)
    (h : ((¬ (0 : Int32) < (σ t 1) → Q none σ) ∧ ((0 : Int32) < (σ t 1) → Q none (up σ t 1 ((σ t 1) - 1))))) :
    Jd Y d y_RD_pop 0 [(0, sR t (.inl 0))] [] σ Q :=
  blk_ok (d := d) (y := y_RD_pop) (ft := ft_RD) (ct := ct_RD) (tab := tab_RD_pop) ⟨tk_RD_pop, ft_RD_ok, ct_RD_ok Y⟩ [] 12 0 _ _ σ h
set_option maxRecDepth 20000 in
theorem s_RD_popV_0 (Y : List kd) (d : Nat) (t : Nat) (σ : sS) (Q : Option sv → sS → Prop)
    (h : ((¬ (0 : Int32) < (σ t 1) → Q none σ) ∧ ((0 : Int32) < (σ t 1) → Q none (up σ t 1 ((σ t 1) - 1))))) :
    Jd Y d y_RD_pop 0 [(0, sR t (.inl 4))] [] σ Q :=
  blk_ok (d := d) (y := y_RD_pop) (ft := ft_RD) (ct := ct_RD) (tab := tab_RD_pop) ⟨tk_RD_pop, ft_RD_ok, ct_RD_ok Y⟩ [] 12 0 _ _ σ h
set_option maxRecDepth 20000 in
theorem s_RD_pushC_0 (Y : List kd) (d : Nat) (t : Nat) (v1 : Int32) (σ : sS) (Q : Option sv → sS → Prop)
    (h : Q none (up (wr σ (t + 1) 96 (σ t 1) v1) t 1 (((wr σ (t + 1) 96 (σ t 1) v1) t 1) + 1))) :
    Jd Y (d + 1) y_RD_push 0 [(0, sR t (.inl 0)), (1, sI v1)] [] σ Q :=
  blk_ok (d := (d + 1)) (y := y_RD_push) (ft := ft_RD) (ct := ct_RD) (tab := tab_RD_push) ⟨tk_RD_push, ft_RD_ok, ct_RD_ok Y⟩ [] 15 0 _ _ σ h
set_option maxRecDepth 20000 in
theorem s_RD_pushV_0 (Y : List kd) (d : Nat) (t : Nat) (v1 : Int32) (σ : sS) (Q : Option sv → sS → Prop)
    (h : Q none (up (wr σ (t + 1) 96 (σ t 1) v1) t 1 (((wr σ (t + 1) 96 (σ t 1) v1) t 1) + 1))) :
    Jd Y (d + 1) y_RD_push 0 [(0, sR t (.inl 4)), (1, sI v1)] [] σ Q :=
  blk_ok (d := (d + 1)) (y := y_RD_push) (ft := ft_RD) (ct := ct_RD) (tab := tab_RD_push) ⟨tk_RD_push, ft_RD_ok, ct_RD_ok Y⟩ [] 15 0 _ _ σ h
set_option maxRecDepth 20000 in
theorem s_CR_goBehindDigits_0 (Y : List kd) (d : Nat) (t : Nat) (σ : sS) (Q : Option sv → sS → Prop)
    (h : (((σ t 7) = 0 → CJ Y d y_CR_ends [sR t (.inl 0)] σ (rN fun σ1 => Q none σ1)) ∧ (¬ (σ t 7) = 0 → Q none (up σ t 2 0)))) :
    Jd Y (d + 1) y_CR_goBehindDigits 0 [(0, sR t (.inl 0))] [] σ Q :=
  blk_ok (d := (d + 1)) (y := y_CR_goBehindDigits) (ft := ft_CR) (ct := ct_CR) (tab := tab_CR_goBehindDigits) ⟨tk_CR_goBehindDigits, ft_CR_ok, ct_CR_ok Y⟩ [] 12 0 _ _ σ h
set_option maxRecDepth 20000 in
theorem s_CR_field_0 (Y : List kd) (d : Nat) (t : Nat) (v1 : Int32) (σ : sS) (Q : Option sv → sS → Prop)
    (h : ((¬ v1 = 46 → (((iNam v1) = 0 → (((0 : Int32) = 0 ∨ (0 : Int32) = 1) ∧ Q (some (sI 0)) σ)) ∧ (¬ (iNam v1) = 0 → (((1 : Int32) = 0 ∨ (1 : Int32) = 1) ∧ Q (some (sI 1)) (up σ t 2 0))))) ∧ (v1 = 46 → (((1 : Int32) = 0 ∨ (1 : Int32) = 1) ∧ Q (some (sI 1)) (up σ t 2 4))))) :
    Jd Y (d + 1) y_CR_field 0 [(0, sR t (.inl 0)), (1, sI v1)] [] σ Q :=
  blk_ok (d := (d + 1)) (y := y_CR_field) (ft := ft_CR) (ct := ct_CR) (tab := tab_CR_field) ⟨tk_CR_field, ft_CR_ok, ct_CR_ok Y⟩ [] 20 0 _ _ σ h
set_option maxRecDepth 20000 in
theorem s_CR_last_0 (Y : List kd) (d : Nat) (t : Nat) (v1 : Int32) (σ : sS) (Q : Option sv → sS → Prop)
    (h : ((v1 = 60 → Jd Y (d + 1) y_CR_last 12 [(0, sR t (.inl 0))] [] σ Q) ∧ (¬ v1 = 60 → ((¬ v1 = 61 → ((¬ v1 = 125 → (((0 : Int32) = 0 ∨ (0 : Int32) = 1) ∧ Q (some (sI 0)) σ)) ∧ (v1 = 125 → CJ Y d y_RD_pop [sR t (.inl 0)] σ (rN fun σ1 => CJ Y d y_CR_ends [sR t (.inl 0)] σ1 (rN fun σ2 => (((1 : Int32) = 0 ∨ (1 : Int32) = 1) ∧ Q (some (sI 1)) σ2)))))) ∧ (v1 = 61 → Jd Y (d + 1) y_CR_last 12 [(0, sR t (.inl 0))] [] σ Q))))) :
    Jd Y (d + 1) y_CR_last 0 [(0, sR t (.inl 0)), (1, sI v1)] [] σ Q :=
  blk_ok (d := (d + 1)) (y := y_CR_last) (ft := ft_CR) (ct := ct_CR) (tab := tab_CR_last) ⟨tk_CR_last, ft_CR_ok, ct_CR_ok Y⟩ [(12, [0])] 27 0 _ _ σ h
set_option maxRecDepth 20000 in
theorem s_CR_last_12 (Y : List kd) (d : Nat) (t : Nat) (σ : sS) (Q : Option sv → sS → Prop)
    (h : (((1 : Int32) = 0 ∨ (1 : Int32) = 1) ∧ Q (some (sI 1)) (up (up σ t 2 6) t 6 2))) :
    Jd Y (d + 1) y_CR_last 12 [(0, sR t (.inl 0))] [] σ Q :=
  blk_ok (d := (d + 1)) (y := y_CR_last) (ft := ft_CR) (ct := ct_CR) (tab := tab_CR_last) ⟨tk_CR_last, ft_CR_ok, ct_CR_ok Y⟩ [(12, [0])] 27 12 _ _ σ h
set_option maxRecDepth 20000 in
theorem s_VR_goesOn_0 (Y : List kd) (d : Nat) (t : Nat) (v1 : Int32) (σ : sS) (Q : Option sv → sS → Prop)
    (h : (((σ t 3) = 0 → Jd Y (d + 1) y_VR_goesOn 18 [(0, sR t (.inl 4)), (1, sI v1)] [] σ Q) ∧ (¬ (σ t 3) = 0 → (((iDig v1) = 0 → Jd Y (d + 1) y_VR_goesOn 18 [(0, sR t (.inl 4)), (1, sI v1)] [] σ Q) ∧ (¬ (iDig v1) = 0 → Jd Y (d + 1) y_VR_goesOn 19 [(0, sR t (.inl 4)), (1, sI v1)] [sI 1] σ Q))))) :
    Jd Y (d + 1) y_VR_goesOn 0 [(0, sR t (.inl 4)), (1, sI v1)] [] σ Q :=
  blk_ok (d := (d + 1)) (y := y_VR_goesOn) (ft := ft_VR) (ct := ct_VR) (tab := tab_VR_goesOn) ⟨tk_VR_goesOn, ft_VR_ok, ct_VR_ok Y⟩ [(18, [0, 1]), (19, [0, 1])] 66 0 _ _ σ h
set_option maxRecDepth 20000 in
theorem s_VR_goesOn_18 (Y : List kd) (d : Nat) (t : Nat) (v1 : Int32) (σ : sS) (Q : Option sv → sS → Prop)
    (h : Jd Y (d + 1) y_VR_goesOn 19 [(0, sR t (.inl 4)), (1, sI v1)] [sI 0] σ Q) :
    Jd Y (d + 1) y_VR_goesOn 18 [(0, sR t (.inl 4)), (1, sI v1)] [] σ Q :=
  blk_ok (d := (d + 1)) (y := y_VR_goesOn) (ft := ft_VR) (ct := ct_VR) (tab := tab_VR_goesOn) ⟨tk_VR_goesOn, ft_VR_ok, ct_VR_ok Y⟩ [(18, [0, 1]), (19, [0, 1])] 66 18 _ _ σ h
set_option maxRecDepth 20000 in
theorem s_VR_goesOn_19 (Y : List kd) (d : Nat) (t : Nat) (v1 : Int32) (s0 : Int32) (σ : sS) (Q : Option sv → sS → Prop)
    (h : (((0 : Int32) = 0 ∨ (0 : Int32) = 1) ∧ ((s0 = 0 → ((((up σ t 3 0) t 2) = 0 → CJ Y d y_VR_begins [sR t (.inl 4), sI v1] (up σ t 3 0) (rI fun r5 σ5 => ((r5 = 0 ∨ r5 = 1) ∧ Q (some (sI r5)) σ5))) ∧ (¬ ((up σ t 3 0) t 2) = 0 → ((((up σ t 3 0) t 2) = 1 → (((0 : Int32) = 0 ∨ (0 : Int32) = 1) ∧ Q (some (sI 0)) (up σ t 3 0))) ∧ (¬ ((up σ t 3 0) t 2) = 1 → ((((up σ t 3 0) t 2) = 2 → ((¬ v1 = 41 → (((iNam v1) = 0 ∨ (iNam v1) = 1) ∧ Q (some (sI (iNam v1))) (up (up σ t 3 0) t 2 0))) ∧ (v1 = 41 → CJ Y d y_VR_closes [sR t (.inl 4)] (up (up σ t 3 0) t 2 0) (rI fun r4 σ4 => ((r4 = 0 ∨ r4 = 1) ∧ Q (some (sI r4)) σ4))))) ∧ (¬ ((up σ t 3 0) t 2) = 2 → ((((up σ t 3 0) t 2) = 3 → ((¬ v1 = 93 → CJ Y d y_VR_begins [sR t (.inl 4), sI v1] (up σ t 3 0) (rI fun r2 σ2 => ((r2 = 0 ∨ r2 = 1) ∧ Q (some (sI r2)) σ2))) ∧ (v1 = 93 → CJ Y d y_VR_closes [sR t (.inl 4)] (up σ t 3 0) (rI fun r3 σ3 => ((r3 = 0 ∨ r3 = 1) ∧ Q (some (sI r3)) σ3))))) ∧ (¬ ((up σ t 3 0) t 2) = 3 → ((((up σ t 3 0) t 2) = 4 → ((¬ v1 = 93 → ((¬ v1 = 44 → (((0 : Int32) = 0 ∨ (0 : Int32) = 1) ∧ Q (some (sI 0)) (up (up σ t 3 0) t 2 0))) ∧ (v1 = 44 → (((1 : Int32) = 0 ∨ (1 : Int32) = 1) ∧ Q (some (sI 1)) (up (up σ t 3 0) t 2 0))))) ∧ (v1 = 93 → CJ Y d y_VR_closes [sR t (.inl 4)] (up (up σ t 3 0) t 2 0) (rI fun r1 σ1 => ((r1 = 0 ∨ r1 = 1) ∧ Q (some (sI r1)) σ1))))) ∧ (¬ ((up σ t 3 0) t 2) = 4 → (((0 : Int32) = 0 ∨ (0 : Int32) = 1) ∧ Q (some (sI 0)) (up σ t 3 0))))))))))))) ∧ (¬ s0 = 0 → (((1 : Int32) = 0 ∨ (1 : Int32) = 1) ∧ Q (some (sI 1)) (up σ t 3 0)))))) :
    Jd Y (d + 1) y_VR_goesOn 19 [(0, sR t (.inl 4)), (1, sI v1)] [sI s0] σ Q :=
  blk_ok (d := (d + 1)) (y := y_VR_goesOn) (ft := ft_VR) (ct := ct_VR) (tab := tab_VR_goesOn) ⟨tk_VR_goesOn, ft_VR_ok, ct_VR_ok Y⟩ [(18, [0, 1]), (19, [0, 1])] 66 19 _ _ σ h
set_option maxRecDepth 20000 in
theorem s_VR_begins_0 (Y : List kd) (d : Nat) (t : Nat) (v1 : Int32) (σ : sS) (Q : Option sv → sS → Prop)
    (h : ((v1 = 40 → Jd Y (d + 1) y_VR_begins 12 [(0, sR t (.inl 4)), (1, sI v1)] [] σ Q) ∧ (¬ v1 = 40 → ((¬ v1 = 91 → (((iDig v1) = 0 ∨ (iDig v1) = 1) ∧ CJ Y d y_VR_ends [sR t (.inl 4)] (up σ t 3 (iDig v1)) (rN fun σ1 => ((¬ (σ1 t 3) = 0 → (((1 : Int32) = 0 ∨ (1 : Int32) = 1) ∧ Q (some (sI 1)) σ1)) ∧ ((σ1 t 3) = 0 → ((¬ v1 = 63 → (((0 : Int32) = 0 ∨ (0 : Int32) = 1) ∧ Q (some (sI 0)) σ1)) ∧ (v1 = 63 → (((1 : Int32) = 0 ∨ (1 : Int32) = 1) ∧ Q (some (sI 1)) σ1)))))))) ∧ (v1 = 91 → Jd Y (d + 1) y_VR_begins 12 [(0, sR t (.inl 4)), (1, sI v1)] [] σ Q))))) :
    Jd Y (d + 1) y_VR_begins 0 [(0, sR t (.inl 4)), (1, sI v1)] [] σ Q :=
  blk_ok (d := (d + 1)) (y := y_VR_begins) (ft := ft_VR) (ct := ct_VR) (tab := tab_VR_begins) ⟨tk_VR_begins, ft_VR_ok, ct_VR_ok Y⟩ [(12, [0, 1])] 37 0 _ _ σ h
set_option maxRecDepth 20000 in
theorem s_VR_begins_12 (Y : List kd) (d : Nat) (t : Nat) (v1 : Int32) (σ : sS) (Q : Option sv → sS → Prop)
    (h : CJ Y d y_RD_push [sR t (.inl 4), sI v1] σ (rN fun σ1 => ((¬ v1 = 40 → (((1 : Int32) = 0 ∨ (1 : Int32) = 1) ∧ Q (some (sI 1)) (up σ1 t 2 3))) ∧ (v1 = 40 → (((1 : Int32) = 0 ∨ (1 : Int32) = 1) ∧ Q (some (sI 1)) (up σ1 t 2 2)))))) :
    Jd Y (d + 1) y_VR_begins 12 [(0, sR t (.inl 4)), (1, sI v1)] [] σ Q :=
  blk_ok (d := (d + 1)) (y := y_VR_begins) (ft := ft_VR) (ct := ct_VR) (tab := tab_VR_begins) ⟨tk_VR_begins, ft_VR_ok, ct_VR_ok Y⟩ [(12, [0, 1])] 37 12 _ _ σ h
set_option maxRecDepth 20000 in
theorem s_VR_ends_0 (Y : List kd) (d : Nat) (t : Nat) (σ : sS) (Q : Option sv → sS → Prop)
    (h : ((¬ (σ t 1) = 0 → CJ Y d y_RD_top [sR t (.inl 4)] σ (rI fun r1 σ1 => ((¬ r1 = 40 → Q none (up σ1 t 2 4)) ∧ (r1 = 40 → Q none (up σ1 t 2 2))))) ∧ ((σ t 1) = 0 → Q none (up σ t 2 1)))) :
    Jd Y (d + 1) y_VR_ends 0 [(0, sR t (.inl 4))] [] σ Q :=
  blk_ok (d := (d + 1)) (y := y_VR_ends) (ft := ft_VR) (ct := ct_VR) (tab := tab_VR_ends) ⟨tk_VR_ends, ft_VR_ok, ct_VR_ok Y⟩ [] 19 0 _ _ σ h
set_option maxRecDepth 20000 in
theorem s_VR_closes_0 (Y : List kd) (d : Nat) (t : Nat) (σ : sS) (Q : Option sv → sS → Prop)
    (h : CJ Y d y_RD_pop [sR t (.inl 4)] σ (rN fun σ1 => CJ Y d y_VR_ends [sR t (.inl 4)] σ1 (rN fun σ2 => (((1 : Int32) = 0 ∨ (1 : Int32) = 1) ∧ Q (some (sI 1)) σ2)))) :
    Jd Y (d + 1) y_VR_closes 0 [(0, sR t (.inl 4))] [] σ Q :=
  blk_ok (d := (d + 1)) (y := y_VR_closes) (ft := ft_VR) (ct := ct_VR) (tab := tab_VR_closes) ⟨tk_VR_closes, ft_VR_ok, ct_VR_ok Y⟩ [] 8 0 _ _ σ h
set_option maxRecDepth 20000 in
theorem s_CR_build_0 (Y : List kd) (d : Nat) (t : Nat) (a1 : Nat) (v2 : Int32) (σ : sS) (Q : Option sv → sS → Prop)
    (h : Jd Y (d + 1) y_CR_build 33 [(0, sR t (.inl 0)), (1, sR a1 (.inr 96)), (2, sI v2), (3, sI 0)] [] (up (up (up (up (up σ (t + 2) 13 0) (t + 2) 14 0) t 8 0) t 9 0) t 10 0) Q) :
    Jd Y (d + 1) y_CR_build 0 [(0, sR t (.inl 0)), (1, sR a1 (.inr 96)), (2, sI v2)] [] σ Q :=
  blk_ok (d := (d + 1)) (y := y_CR_build) (ft := ft_CR) (ct := ct_CR) (tab := tab_CR_build) ⟨tk_CR_build, ft_CR_ok, ct_CR_ok Y⟩ [(33, [0, 1, 2, 3])] 42 0 _ _ σ h
set_option maxRecDepth 20000 in
theorem s_CR_build_33 (Y : List kd) (d : Nat) (t : Nat) (a1 : Nat) (v2 : Int32) (v3 : Int32) (σ : sS) (Q : Option sv → sS → Prop)
    (h : ((¬ v3 < v2 → Q (some (sI (-1))) σ) ∧ (v3 < v2 → CJ Y d y_CR_takes [sR t (.inl 0), sR a1 (.inr 96), sI v3] σ (rI fun r1 σ1 => ((¬ r1 = 0 → CJ Y d y_CR_tail [sI (rd σ1 a1 96 v3)] σ1 (rI fun r2 σ2 => Jd Y (d + 1) y_CR_build 33 [(0, sR t (.inl 0)), (1, sR a1 (.inr 96)), (2, sI v2), (3, sI ((v3 + r2) + 1))] [] σ2 Q)) ∧ (r1 = 0 → Q (some (sI v3)) σ1)))))) :
    Jd Y (d + 1) y_CR_build 33 [(0, sR t (.inl 0)), (1, sR a1 (.inr 96)), (2, sI v2), (3, sI v3)] [] σ Q :=
  blk_ok (d := (d + 1)) (y := y_CR_build) (ft := ft_CR) (ct := ct_CR) (tab := tab_CR_build) ⟨tk_CR_build, ft_CR_ok, ct_CR_ok Y⟩ [(33, [0, 1, 2, 3])] 42 33 _ _ σ h
set_option maxRecDepth 20000 in
theorem s_CR_takes_0 (Y : List kd) (d : Nat) (t : Nat) (a1 : Nat) (v2 : Int32) (σ : sS) (Q : Option sv → sS → Prop)
    (h : (((rd σ a1 96 v2) = 35 → CJ Y d y_CR_two [sR a1 (.inr 96), sI (v2 + 1)] σ (rI fun r11 σ11 => CJ Y d y_CR_two [sR a1 (.inr 96), sI (v2 + 3)] σ11 (rI fun r12 σ12 => CJ Y d y_CR_adds [sR t (.inl 0), sI (rd σ a1 96 v2), sI r11, sI r12] σ12 (rI fun r13 σ13 => ((r13 = 0 ∨ r13 = 1) ∧ Q (some (sI r13)) σ13))))) ∧ (¬ (rd σ a1 96 v2) = 35 → (((rd σ a1 96 v2) = 46 → CJ Y d y_CR_addsField [sR t (.inl 0), sI (((rd σ a1 96 (v2 + 1)) - 97) + 1), sI 1] σ (rI fun r10 σ10 => ((r10 = 0 ∨ r10 = 1) ∧ Q (some (sI r10)) σ10))) ∧ (¬ (rd σ a1 96 v2) = 46 → (((rd σ a1 96 v2) = 60 → CJ Y d y_CR_addsDependent [sR t (.inl 0), sI (rd σ a1 96 v2), sI (((rd σ a1 96 (v2 + 1)) - 97) + 1), sI (((rd σ a1 96 (v2 + 2)) - 97) + 1)] σ (rI fun r9 σ9 => ((r9 = 0 ∨ r9 = 1) ∧ Q (some (sI r9)) σ9))) ∧ (¬ (rd σ a1 96 v2) = 60 → (((rd σ a1 96 v2) = 61 → CJ Y d y_CR_addsDependent [sR t (.inl 0), sI (rd σ a1 96 v2), sI (((rd σ a1 96 (v2 + 1)) - 97) + 1), sI (((rd σ a1 96 (v2 + 2)) - 97) + 1)] σ (rI fun r8 σ8 => ((r8 = 0 ∨ r8 = 1) ∧ Q (some (sI r8)) σ8))) ∧ (¬ (rd σ a1 96 v2) = 61 → (((rd σ a1 96 v2) = 64 → CJ Y d y_CR_adds [sR t (.inl 0), sI (rd σ a1 96 v2), sI ((rd σ a1 96 (v2 + 1)) - 48), sI ((rd σ a1 96 (v2 + 2)) - 48)] σ (rI fun r7 σ7 => ((r7 = 0 ∨ r7 = 1) ∧ Q (some (sI r7)) σ7))) ∧ (¬ (rd σ a1 96 v2) = 64 → (((rd σ a1 96 v2) = 125 → CJ Y d y_RD_top [sR t (.inl 0)] σ (rI fun r3 σ3 => CJ Y d y_RD_top [sR t (.inl 0)] σ3 (rI fun r4 σ4 => CJ Y d y_RD_pop [sR t (.inl 0)] (wr σ4 (t + 6) 24 r3 ((σ3 (t + 2) 13) - r4)) (rN fun σ5 => CJ Y d y_CR_settle [sR t (.inl 0)] σ5 (rN fun σ6 => (((1 : Int32) = 0 ∨ (1 : Int32) = 1) ∧ Q (some (sI 1)) σ6)))))) ∧ (¬ (rd σ a1 96 v2) = 125 → (((iNam (rd σ a1 96 v2)) = 0 → CJ Y d y_CR_adds [sR t (.inl 0), sI (rd σ a1 96 v2), sI 0, sI 0] σ (rI fun r1 σ1 => ((r1 = 0 ∨ r1 = 1) ∧ Q (some (sI r1)) σ1))) ∧ (¬ (iNam (rd σ a1 96 v2)) = 0 → CJ Y d y_CR_addsField [sR t (.inl 0), sI (((rd σ a1 96 v2) - 97) + 1), sI 0] σ (rI fun r2 σ2 => ((r2 = 0 ∨ r2 = 1) ∧ Q (some (sI r2)) σ2))))))))))))))))) :
    Jd Y (d + 1) y_CR_takes 0 [(0, sR t (.inl 0)), (1, sR a1 (.inr 96)), (2, sI v2)] [] σ Q :=
  blk_ok (d := (d + 1)) (y := y_CR_takes) (ft := ft_CR) (ct := ct_CR) (tab := tab_CR_takes) ⟨tk_CR_takes, ft_CR_ok, ct_CR_ok Y⟩ [] 99 0 _ _ σ h
set_option maxRecDepth 20000 in
theorem s_CR_settle_0 (Y : List kd) (d : Nat) (t : Nat) (σ : sS) (Q : Option sv → sS → Prop)
    (h : Jd Y (d + 1) y_CR_settle 2 [(0, sR t (.inl 0)), (1, sI 0)] [] σ Q) :
    Jd Y (d + 1) y_CR_settle 0 [(0, sR t (.inl 0))] [] σ Q :=
  blk_ok (d := (d + 1)) (y := y_CR_settle) (ft := ft_CR) (ct := ct_CR) (tab := tab_CR_settle) ⟨tk_CR_settle, ft_CR_ok, ct_CR_ok Y⟩ [(2, [0, 1])] 48 0 _ _ σ h
set_option maxRecDepth 20000 in
theorem s_CR_settle_2 (Y : List kd) (d : Nat) (t : Nat) (v1 : Int32) (σ : sS) (Q : Option sv → sS → Prop)
    (h : ((¬ v1 < 24 → Q none σ) ∧ (v1 < 24 → ((¬ (0 : Int32) < (σ t 1) → Q none σ) ∧ ((0 : Int32) < (σ t 1) → ((¬ (0 : Int32) < ((rd σ (t + 16) 96 ((σ t 1) - 1)) - 1) → CJ Y d y_RD_top [sR t (.inl 0)] (wr σ (t + 16) 96 ((σ t 1) - 1) ((rd σ (t + 16) 96 ((σ t 1) - 1)) - 1)) (rI fun r1 σ1 => CJ Y d y_RD_top [sR t (.inl 0)] σ1 (rI fun r2 σ2 => CJ Y d y_RD_pop [sR t (.inl 0)] (wr σ2 (t + 6) 24 r1 ((σ1 (t + 2) 13) - r2)) (rN fun σ3 => Jd Y (d + 1) y_CR_settle 2 [(0, sR t (.inl 0)), (1, sI (v1 + 1))] [] σ3 Q)))) ∧ ((0 : Int32) < ((rd σ (t + 16) 96 ((σ t 1) - 1)) - 1) → Q none (wr σ (t + 16) 96 ((σ t 1) - 1) ((rd σ (t + 16) 96 ((σ t 1) - 1)) - 1))))))))) :
    Jd Y (d + 1) y_CR_settle 2 [(0, sR t (.inl 0)), (1, sI v1)] [] σ Q :=
  blk_ok (d := (d + 1)) (y := y_CR_settle) (ft := ft_CR) (ct := ct_CR) (tab := tab_CR_settle) ⟨tk_CR_settle, ft_CR_ok, ct_CR_ok Y⟩ [(2, [0, 1])] 48 2 _ _ σ h
set_option maxRecDepth 20000 in
theorem s_CR_addsField_0 (Y : List kd) (d : Nat) (t : Nat) (v1 : Int32) (v2 : Int32) (σ : sS) (Q : Option sv → sS → Prop)
    (h : CJ Y d y_RD_top [sR t (.inl 0)] σ (rI fun r1 σ1 => CJ Y d y_PL_knows [sR (t + 2) (.inl 2), sI r1, sI v1] σ1 (rI fun r2 σ2 => ((r2 = 0 → (((1 : Int32) = 0 ∨ (1 : Int32) = 1) ∧ Q (some (sI 1)) (up (up (wr (wr σ2 (t + 10) 24 r1 ((rd σ2 (t + 10) 24 r1) ||| (1 <<< (v1 &&& 31)))) (t + 9) 24 r1 ((rd (wr σ2 (t + 10) 24 r1 ((rd σ2 (t + 10) 24 r1) ||| (1 <<< (v1 &&& 31)))) (t + 9) 24 r1) + 1)) t 9 v1) t 10 v2))) ∧ (¬ r2 = 0 → (((0 : Int32) = 0 ∨ (0 : Int32) = 1) ∧ Q (some (sI 0)) σ2)))))) :
    Jd Y (d + 1) y_CR_addsField 0 [(0, sR t (.inl 0)), (1, sI v1), (2, sI v2)] [] σ Q :=
  blk_ok (d := (d + 1)) (y := y_CR_addsField) (ft := ft_CR) (ct := ct_CR) (tab := tab_CR_addsField) ⟨tk_CR_addsField, ft_CR_ok, ct_CR_ok Y⟩ [] 47 0 _ _ σ h
set_option maxRecDepth 20000 in
theorem s_CR_addsDependent_0 (Y : List kd) (d : Nat) (t : Nat) (v1 : Int32) (v2 : Int32) (v3 : Int32) (σ : sS) (Q : Option sv → sS → Prop)
    (h : CJ Y d y_RD_top [sR t (.inl 0)] σ (rI fun r1 σ1 => CJ Y d y_PL_knows [sR (t + 2) (.inl 2), sI r1, sI v2] σ1 (rI fun r2 σ2 => ((r2 = 0 → (((0 : Int32) = 0 ∨ (0 : Int32) = 1) ∧ Q (some (sI 0)) σ2)) ∧ (¬ r2 = 0 → CJ Y d y_PL_knows [sR (t + 2) (.inl 2), sI r1, sI v3] σ2 (rI fun r3 σ3 => ((¬ r3 = 0 → CJ Y d y_PL_depend [sR (t + 2) (.inl 2), sI r1, sI v1, sI v2, sI v3] σ3 (rN fun σ4 => (((1 : Int32) = 0 ∨ (1 : Int32) = 1) ∧ Q (some (sI 1)) σ4))) ∧ (r3 = 0 → (((0 : Int32) = 0 ∨ (0 : Int32) = 1) ∧ Q (some (sI 0)) σ3))))))))) :
    Jd Y (d + 1) y_CR_addsDependent 0 [(0, sR t (.inl 0)), (1, sI v1), (2, sI v2), (3, sI v3)] [] σ Q :=
  blk_ok (d := (d + 1)) (y := y_CR_addsDependent) (ft := ft_CR) (ct := ct_CR) (tab := tab_CR_addsDependent) ⟨tk_CR_addsDependent, ft_CR_ok, ct_CR_ok Y⟩ [] 28 0 _ _ σ h
set_option maxRecDepth 20000 in
theorem s_PL_depend_0 (Y : List kd) (d : Nat) (t : Nat) (v1 : Int32) (v2 : Int32) (v3 : Int32) (v4 : Int32) (σ : sS) (Q : Option sv → sS → Prop)
    (h : ((¬ (rd σ (t + 10) 24 v1) = 0 → Jd Y (d + 1) y_PL_depend 23 [(0, sR t (.inl 2)), (1, sI v1), (2, sI v2), (3, sI v3), (4, sI v4)] [] σ Q) ∧ ((rd σ (t + 10) 24 v1) = 0 → Jd Y (d + 1) y_PL_depend 23 [(0, sR t (.inl 2)), (1, sI v1), (2, sI v2), (3, sI v3), (4, sI v4)] [] (wr σ (t + 9) 24 v1 (σ t 14)) Q))) :
    Jd Y (d + 1) y_PL_depend 0 [(0, sR t (.inl 2)), (1, sI v1), (2, sI v2), (3, sI v3), (4, sI v4)] [] σ Q :=
  blk_ok (d := (d + 1)) (y := y_PL_depend) (ft := ft_PL) (ct := ct_PL) (tab := tab_PL_depend) ⟨tk_PL_depend, ft_PL_ok, ct_PL_ok Y⟩ [(23, [0, 1, 2, 3, 4]), (41, [0, 2, 3, 4]), (53, [0, 3, 4]), (65, [0, 4]), (78, [0])] 48 0 _ _ σ h
set_option maxRecDepth 20000 in
theorem s_PL_depend_23 (Y : List kd) (d : Nat) (t : Nat) (v1 : Int32) (v2 : Int32) (v3 : Int32) (v4 : Int32) (σ : sS) (Q : Option sv → sS → Prop)
    (h : Jd Y (d + 1) y_PL_depend 41 [(0, sR t (.inl 2)), (2, sI v2), (3, sI v3), (4, sI v4)] [] (wr σ (t + 10) 24 v1 ((rd σ (t + 10) 24 v1) + 1)) Q) :
    Jd Y (d + 1) y_PL_depend 23 [(0, sR t (.inl 2)), (1, sI v1), (2, sI v2), (3, sI v3), (4, sI v4)] [] σ Q :=
  blk_ok (d := (d + 1)) (y := y_PL_depend) (ft := ft_PL) (ct := ct_PL) (tab := tab_PL_depend) ⟨tk_PL_depend, ft_PL_ok, ct_PL_ok Y⟩ [(23, [0, 1, 2, 3, 4]), (41, [0, 2, 3, 4]), (53, [0, 3, 4]), (65, [0, 4]), (78, [0])] 48 23 _ _ σ h
set_option maxRecDepth 20000 in
theorem s_PL_depend_41 (Y : List kd) (d : Nat) (t : Nat) (v2 : Int32) (v3 : Int32) (v4 : Int32) (σ : sS) (Q : Option sv → sS → Prop)
    (h : Jd Y (d + 1) y_PL_depend 53 [(0, sR t (.inl 2)), (3, sI v3), (4, sI v4)] [] (wr σ (t + 11) 32 (σ t 14) v2) Q) :
    Jd Y (d + 1) y_PL_depend 41 [(0, sR t (.inl 2)), (2, sI v2), (3, sI v3), (4, sI v4)] [] σ Q :=
  blk_ok (d := (d + 1)) (y := y_PL_depend) (ft := ft_PL) (ct := ct_PL) (tab := tab_PL_depend) ⟨tk_PL_depend, ft_PL_ok, ct_PL_ok Y⟩ [(23, [0, 1, 2, 3, 4]), (41, [0, 2, 3, 4]), (53, [0, 3, 4]), (65, [0, 4]), (78, [0])] 48 41 _ _ σ h
set_option maxRecDepth 20000 in
theorem s_PL_depend_53 (Y : List kd) (d : Nat) (t : Nat) (v3 : Int32) (v4 : Int32) (σ : sS) (Q : Option sv → sS → Prop)
    (h : Jd Y (d + 1) y_PL_depend 65 [(0, sR t (.inl 2)), (4, sI v4)] [] (wr σ (t + 12) 32 (σ t 14) v3) Q) :
    Jd Y (d + 1) y_PL_depend 53 [(0, sR t (.inl 2)), (3, sI v3), (4, sI v4)] [] σ Q :=
  blk_ok (d := (d + 1)) (y := y_PL_depend) (ft := ft_PL) (ct := ct_PL) (tab := tab_PL_depend) ⟨tk_PL_depend, ft_PL_ok, ct_PL_ok Y⟩ [(23, [0, 1, 2, 3, 4]), (41, [0, 2, 3, 4]), (53, [0, 3, 4]), (65, [0, 4]), (78, [0])] 48 53 _ _ σ h
set_option maxRecDepth 20000 in
theorem s_PL_depend_65 (Y : List kd) (d : Nat) (t : Nat) (v4 : Int32) (σ : sS) (Q : Option sv → sS → Prop)
    (h : Jd Y (d + 1) y_PL_depend 78 [(0, sR t (.inl 2))] [] (wr σ (t + 13) 32 (σ t 14) v4) Q) :
    Jd Y (d + 1) y_PL_depend 65 [(0, sR t (.inl 2)), (4, sI v4)] [] σ Q :=
  blk_ok (d := (d + 1)) (y := y_PL_depend) (ft := ft_PL) (ct := ct_PL) (tab := tab_PL_depend) ⟨tk_PL_depend, ft_PL_ok, ct_PL_ok Y⟩ [(23, [0, 1, 2, 3, 4]), (41, [0, 2, 3, 4]), (53, [0, 3, 4]), (65, [0, 4]), (78, [0])] 48 65 _ _ σ h
set_option maxRecDepth 20000 in
theorem s_PL_depend_78 (Y : List kd) (d : Nat) (t : Nat) (σ : sS) (Q : Option sv → sS → Prop)
    (h : Q none (up σ t 14 ((σ t 14) + 1))) :
    Jd Y (d + 1) y_PL_depend 78 [(0, sR t (.inl 2))] [] σ Q :=
  blk_ok (d := (d + 1)) (y := y_PL_depend) (ft := ft_PL) (ct := ct_PL) (tab := tab_PL_depend) ⟨tk_PL_depend, ft_PL_ok, ct_PL_ok Y⟩ [(23, [0, 1, 2, 3, 4]), (41, [0, 2, 3, 4]), (53, [0, 3, 4]), (65, [0, 4]), (78, [0])] 48 78 _ _ σ h
set_option maxRecDepth 20000 in
theorem s_CR_two_0 (Y : List kd) (d : Nat) (a0 : Nat) (v1 : Int32) (σ : sS) (Q : Option sv → sS → Prop)
    (h : Q (some (sI (((10 * ((rd σ a0 96 v1) - 48)) + (rd σ a0 96 (v1 + 1))) - 48))) σ) :
    Jd Y (d + 1) y_CR_two 0 [(0, sR a0 (.inr 96)), (1, sI v1)] [] σ Q :=
  blk_ok (d := (d + 1)) (y := y_CR_two) (ft := ft_CR) (ct := ct_CR) (tab := tab_CR_two) ⟨tk_CR_two, ft_CR_ok, ct_CR_ok Y⟩ [] 18 0 _ _ σ h
set_option maxRecDepth 20000 in
theorem s_CR_adds_0 (Y : List kd) (d : Nat) (t : Nat) (v1 : Int32) (v2 : Int32) (v3 : Int32) (σ : sS) (Q : Option sv → sS → Prop)
    (h : ((v3 < v2 → (((0 : Int32) = 0 ∨ (0 : Int32) = 1) ∧ Q (some (sI 0)) σ)) ∧ (¬ v3 < v2 → ((¬ v1 = 94 → Jd Y (d + 1) y_CR_adds 18 [(0, sR t (.inl 0)), (1, sI v1), (2, sI v2), (3, sI v3)] [] σ Q) ∧ (v1 = 94 → CJ Y d y_CR_canReturn [sR t (.inl 0)] σ (rI fun r1 σ1 => ((r1 = 0 → (((0 : Int32) = 0 ∨ (0 : Int32) = 1) ∧ Q (some (sI 0)) σ1)) ∧ (¬ r1 = 0 → Jd Y (d + 1) y_CR_adds 18 [(0, sR t (.inl 0)), (1, sI v1), (2, sI v2), (3, sI v3)] [] σ1 Q)))))))) :
    Jd Y (d + 1) y_CR_adds 0 [(0, sR t (.inl 0)), (1, sI v1), (2, sI v2), (3, sI v3)] [] σ Q :=
  blk_ok (d := (d + 1)) (y := y_CR_adds) (ft := ft_CR) (ct := ct_CR) (tab := tab_CR_adds) ⟨tk_CR_adds, ft_CR_ok, ct_CR_ok Y⟩ [(18, [0, 1, 2, 3])] 71 0 _ _ σ h
set_option maxRecDepth 20000 in
theorem s_CR_adds_18 (Y : List kd) (d : Nat) (t : Nat) (v1 : Int32) (v2 : Int32) (v3 : Int32) (σ : sS) (Q : Option sv → sS → Prop)
    (h : CJ Y d y_PL_add [sR (t + 2) (.inl 2), sI v1, sI v2, sI v3] σ (rI fun r1 σ1 => ((¬ r1 = 0 → CJ Y d y_CR_wants [sI v1] (up (up (wr (wr σ1 (t + 7) 24 ((σ1 (t + 2) 13) - 1) (σ1 t 9)) (t + 8) 24 (((wr σ1 (t + 7) 24 ((σ1 (t + 2) 13) - 1) (σ1 t 9)) (t + 2) 13) - 1) ((wr σ1 (t + 7) 24 ((σ1 (t + 2) 13) - 1) (σ1 t 9)) t 10)) t 9 0) t 10 0) (rI fun r2 σ2 => ((¬ r2 = 0 → CJ Y d y_RD_push [sR t (.inl 0), sI (((wr σ2 (t + 16) 96 (σ2 t 1) r2) (t + 2) 13) - 1)] (wr σ2 (t + 16) 96 (σ2 t 1) r2) (rN fun σ3 => (((1 : Int32) = 0 ∨ (1 : Int32) = 1) ∧ Q (some (sI 1)) σ3))) ∧ (r2 = 0 → CJ Y d y_CR_settle [sR t (.inl 0)] σ2 (rN fun σ4 => (((1 : Int32) = 0 ∨ (1 : Int32) = 1) ∧ Q (some (sI 1)) σ4)))))) ∧ (r1 = 0 → (((0 : Int32) = 0 ∨ (0 : Int32) = 1) ∧ Q (some (sI 0)) σ1))))) :
    Jd Y (d + 1) y_CR_adds 18 [(0, sR t (.inl 0)), (1, sI v1), (2, sI v2), (3, sI v3)] [] σ Q :=
  blk_ok (d := (d + 1)) (y := y_CR_adds) (ft := ft_CR) (ct := ct_CR) (tab := tab_CR_adds) ⟨tk_CR_adds, ft_CR_ok, ct_CR_ok Y⟩ [(18, [0, 1, 2, 3])] 71 18 _ _ σ h
set_option maxRecDepth 20000 in
theorem s_CR_canReturn_0 (Y : List kd) (d : Nat) (t : Nat) (σ : sS) (Q : Option sv → sS → Prop)
    (h : ((¬ (3 : Int32) < ((up σ t 8 ((σ t 8) + 1)) t 8) → Jd Y (d + 1) y_CR_canReturn 22 [(0, sR t (.inl 0)), (1, sI 0)] [] (up σ t 8 ((σ t 8) + 1)) Q) ∧ ((3 : Int32) < ((up σ t 8 ((σ t 8) + 1)) t 8) → (((0 : Int32) = 0 ∨ (0 : Int32) = 1) ∧ Q (some (sI 0)) (up σ t 8 ((σ t 8) + 1)))))) :
    Jd Y (d + 1) y_CR_canReturn 0 [(0, sR t (.inl 0))] [] σ Q :=
  blk_ok (d := (d + 1)) (y := y_CR_canReturn) (ft := ft_CR) (ct := ct_CR) (tab := tab_CR_canReturn) ⟨tk_CR_canReturn, ft_CR_ok, ct_CR_ok Y⟩ [(22, [0, 1])] 41 0 _ _ σ h
set_option maxRecDepth 20000 in
theorem s_CR_canReturn_22 (Y : List kd) (d : Nat) (t : Nat) (v1 : Int32) (σ : sS) (Q : Option sv → sS → Prop)
    (h : ((¬ v1 < (σ t 1) → (((0 : Int32) = 0 ∨ (0 : Int32) = 1) ∧ Q (some (sI 0)) σ)) ∧ (v1 < (σ t 1) → (((rd σ (t + 3) 24 (rd σ (t + 1) 96 v1)) = 123 → (((1 : Int32) = 0 ∨ (1 : Int32) = 1) ∧ Q (some (sI 1)) σ)) ∧ (¬ (rd σ (t + 3) 24 (rd σ (t + 1) 96 v1)) = 123 → ((¬ (rd σ (t + 3) 24 (rd σ (t + 1) 96 v1)) = 64 → Jd Y (d + 1) y_CR_canReturn 22 [(0, sR t (.inl 0)), (1, sI (v1 + 1))] [] σ Q) ∧ ((rd σ (t + 3) 24 (rd σ (t + 1) 96 v1)) = 64 → (((1 : Int32) = 0 ∨ (1 : Int32) = 1) ∧ Q (some (sI 1)) σ)))))))) :
    Jd Y (d + 1) y_CR_canReturn 22 [(0, sR t (.inl 0)), (1, sI v1)] [] σ Q :=
  blk_ok (d := (d + 1)) (y := y_CR_canReturn) (ft := ft_CR) (ct := ct_CR) (tab := tab_CR_canReturn) ⟨tk_CR_canReturn, ft_CR_ok, ct_CR_ok Y⟩ [(22, [0, 1])] 41 22 _ _ σ h
set_option maxRecDepth 20000 in
theorem s_PL_add_0 (Y : List kd) (d : Nat) (t : Nat) (v1 : Int32) (v2 : Int32) (v3 : Int32) (σ : sS) (Q : Option sv → sS → Prop)
    (h : (((σ t 13) < 24 → Jd Y (d + 1) y_PL_add 23 [(0, sR t (.inl 2)), (2, sI v2), (3, sI v3)] [] (wr σ (t + 1) 24 (σ t 13) v1) Q) ∧ (¬ (σ t 13) < 24 → (((0 : Int32) = 0 ∨ (0 : Int32) = 1) ∧ Q (some (sI 0)) σ)))) :
    Jd Y (d + 1) y_PL_add 0 [(0, sR t (.inl 2)), (1, sI v1), (2, sI v2), (3, sI v3)] [] σ Q :=
  blk_ok (d := (d + 1)) (y := y_PL_add) (ft := ft_PL) (ct := ct_PL) (tab := tab_PL_add) ⟨tk_PL_add, ft_PL_ok, ct_PL_ok Y⟩ [(23, [0, 2, 3]), (35, [0, 3]), (47, [0]), (59, [0]), (71, [0]), (83, [0]), (95, [0]), (107, [0]), (119, [0]), (131, [0])] 76 0 _ _ σ h
set_option maxRecDepth 20000 in
theorem s_PL_add_23 (Y : List kd) (d : Nat) (t : Nat) (v2 : Int32) (v3 : Int32) (σ : sS) (Q : Option sv → sS → Prop)
    (h : Jd Y (d + 1) y_PL_add 35 [(0, sR t (.inl 2)), (3, sI v3)] [] (wr σ (t + 2) 24 (σ t 13) v2) Q) :
    Jd Y (d + 1) y_PL_add 23 [(0, sR t (.inl 2)), (2, sI v2), (3, sI v3)] [] σ Q :=
  blk_ok (d := (d + 1)) (y := y_PL_add) (ft := ft_PL) (ct := ct_PL) (tab := tab_PL_add) ⟨tk_PL_add, ft_PL_ok, ct_PL_ok Y⟩ [(23, [0, 2, 3]), (35, [0, 3]), (47, [0]), (59, [0]), (71, [0]), (83, [0]), (95, [0]), (107, [0]), (119, [0]), (131, [0])] 76 23 _ _ σ h
set_option maxRecDepth 20000 in
theorem s_PL_add_35 (Y : List kd) (d : Nat) (t : Nat) (v3 : Int32) (σ : sS) (Q : Option sv → sS → Prop)
    (h : Jd Y (d + 1) y_PL_add 47 [(0, sR t (.inl 2))] [] (wr σ (t + 3) 24 (σ t 13) v3) Q) :
    Jd Y (d + 1) y_PL_add 35 [(0, sR t (.inl 2)), (3, sI v3)] [] σ Q :=
  blk_ok (d := (d + 1)) (y := y_PL_add) (ft := ft_PL) (ct := ct_PL) (tab := tab_PL_add) ⟨tk_PL_add, ft_PL_ok, ct_PL_ok Y⟩ [(23, [0, 2, 3]), (35, [0, 3]), (47, [0]), (59, [0]), (71, [0]), (83, [0]), (95, [0]), (107, [0]), (119, [0]), (131, [0])] 76 35 _ _ σ h
set_option maxRecDepth 20000 in
theorem s_PL_add_47 (Y : List kd) (d : Nat) (t : Nat) (σ : sS) (Q : Option sv → sS → Prop)
    (h : Jd Y (d + 1) y_PL_add 59 [(0, sR t (.inl 2))] [] (wr σ (t + 4) 24 (σ t 13) 1) Q) :
    Jd Y (d + 1) y_PL_add 47 [(0, sR t (.inl 2))] [] σ Q :=
  blk_ok (d := (d + 1)) (y := y_PL_add) (ft := ft_PL) (ct := ct_PL) (tab := tab_PL_add) ⟨tk_PL_add, ft_PL_ok, ct_PL_ok Y⟩ [(23, [0, 2, 3]), (35, [0, 3]), (47, [0]), (59, [0]), (71, [0]), (83, [0]), (95, [0]), (107, [0]), (119, [0]), (131, [0])] 76 47 _ _ σ h
set_option maxRecDepth 20000 in
theorem s_PL_add_59 (Y : List kd) (d : Nat) (t : Nat) (σ : sS) (Q : Option sv → sS → Prop)
    (h : Jd Y (d + 1) y_PL_add 71 [(0, sR t (.inl 2))] [] (wr σ (t + 5) 24 (σ t 13) 0) Q) :
    Jd Y (d + 1) y_PL_add 59 [(0, sR t (.inl 2))] [] σ Q :=
  blk_ok (d := (d + 1)) (y := y_PL_add) (ft := ft_PL) (ct := ct_PL) (tab := tab_PL_add) ⟨tk_PL_add, ft_PL_ok, ct_PL_ok Y⟩ [(23, [0, 2, 3]), (35, [0, 3]), (47, [0]), (59, [0]), (71, [0]), (83, [0]), (95, [0]), (107, [0]), (119, [0]), (131, [0])] 76 59 _ _ σ h
set_option maxRecDepth 20000 in
theorem s_PL_add_71 (Y : List kd) (d : Nat) (t : Nat) (σ : sS) (Q : Option sv → sS → Prop)
    (h : Jd Y (d + 1) y_PL_add 83 [(0, sR t (.inl 2))] [] (wr σ (t + 6) 24 (σ t 13) 0) Q) :
    Jd Y (d + 1) y_PL_add 71 [(0, sR t (.inl 2))] [] σ Q :=
  blk_ok (d := (d + 1)) (y := y_PL_add) (ft := ft_PL) (ct := ct_PL) (tab := tab_PL_add) ⟨tk_PL_add, ft_PL_ok, ct_PL_ok Y⟩ [(23, [0, 2, 3]), (35, [0, 3]), (47, [0]), (59, [0]), (71, [0]), (83, [0]), (95, [0]), (107, [0]), (119, [0]), (131, [0])] 76 71 _ _ σ h
set_option maxRecDepth 20000 in
theorem s_PL_add_83 (Y : List kd) (d : Nat) (t : Nat) (σ : sS) (Q : Option sv → sS → Prop)
    (h : Jd Y (d + 1) y_PL_add 95 [(0, sR t (.inl 2))] [] (wr σ (t + 7) 24 (σ t 13) 0) Q) :
    Jd Y (d + 1) y_PL_add 83 [(0, sR t (.inl 2))] [] σ Q :=
  blk_ok (d := (d + 1)) (y := y_PL_add) (ft := ft_PL) (ct := ct_PL) (tab := tab_PL_add) ⟨tk_PL_add, ft_PL_ok, ct_PL_ok Y⟩ [(23, [0, 2, 3]), (35, [0, 3]), (47, [0]), (59, [0]), (71, [0]), (83, [0]), (95, [0]), (107, [0]), (119, [0]), (131, [0])] 76 83 _ _ σ h
set_option maxRecDepth 20000 in
theorem s_PL_add_95 (Y : List kd) (d : Nat) (t : Nat) (σ : sS) (Q : Option sv → sS → Prop)
    (h : Jd Y (d + 1) y_PL_add 107 [(0, sR t (.inl 2))] [] (wr σ (t + 8) 24 (σ t 13) 0) Q) :
    Jd Y (d + 1) y_PL_add 95 [(0, sR t (.inl 2))] [] σ Q :=
  blk_ok (d := (d + 1)) (y := y_PL_add) (ft := ft_PL) (ct := ct_PL) (tab := tab_PL_add) ⟨tk_PL_add, ft_PL_ok, ct_PL_ok Y⟩ [(23, [0, 2, 3]), (35, [0, 3]), (47, [0]), (59, [0]), (71, [0]), (83, [0]), (95, [0]), (107, [0]), (119, [0]), (131, [0])] 76 95 _ _ σ h
set_option maxRecDepth 20000 in
theorem s_PL_add_107 (Y : List kd) (d : Nat) (t : Nat) (σ : sS) (Q : Option sv → sS → Prop)
    (h : Jd Y (d + 1) y_PL_add 119 [(0, sR t (.inl 2))] [] (wr σ (t + 9) 24 (σ t 13) 0) Q) :
    Jd Y (d + 1) y_PL_add 107 [(0, sR t (.inl 2))] [] σ Q :=
  blk_ok (d := (d + 1)) (y := y_PL_add) (ft := ft_PL) (ct := ct_PL) (tab := tab_PL_add) ⟨tk_PL_add, ft_PL_ok, ct_PL_ok Y⟩ [(23, [0, 2, 3]), (35, [0, 3]), (47, [0]), (59, [0]), (71, [0]), (83, [0]), (95, [0]), (107, [0]), (119, [0]), (131, [0])] 76 107 _ _ σ h
set_option maxRecDepth 20000 in
theorem s_PL_add_119 (Y : List kd) (d : Nat) (t : Nat) (σ : sS) (Q : Option sv → sS → Prop)
    (h : Jd Y (d + 1) y_PL_add 131 [(0, sR t (.inl 2))] [] (wr σ (t + 10) 24 (σ t 13) 0) Q) :
    Jd Y (d + 1) y_PL_add 119 [(0, sR t (.inl 2))] [] σ Q :=
  blk_ok (d := (d + 1)) (y := y_PL_add) (ft := ft_PL) (ct := ct_PL) (tab := tab_PL_add) ⟨tk_PL_add, ft_PL_ok, ct_PL_ok Y⟩ [(23, [0, 2, 3]), (35, [0, 3]), (47, [0]), (59, [0]), (71, [0]), (83, [0]), (95, [0]), (107, [0]), (119, [0]), (131, [0])] 76 119 _ _ σ h
set_option maxRecDepth 20000 in
theorem s_PL_add_131 (Y : List kd) (d : Nat) (t : Nat) (σ : sS) (Q : Option sv → sS → Prop)
    (h : (((1 : Int32) = 0 ∨ (1 : Int32) = 1) ∧ Q (some (sI 1)) (up σ t 13 ((σ t 13) + 1)))) :
    Jd Y (d + 1) y_PL_add 131 [(0, sR t (.inl 2))] [] σ Q :=
  blk_ok (d := (d + 1)) (y := y_PL_add) (ft := ft_PL) (ct := ct_PL) (tab := tab_PL_add) ⟨tk_PL_add, ft_PL_ok, ct_PL_ok Y⟩ [(23, [0, 2, 3]), (35, [0, 3]), (47, [0]), (59, [0]), (71, [0]), (83, [0]), (95, [0]), (107, [0]), (119, [0]), (131, [0])] 76 131 _ _ σ h
set_option maxRecDepth 20000 in
theorem s_CR_wants_0 (Y : List kd) (d : Nat) (v0 : Int32) (σ : sS) (Q : Option sv → sS → Prop)
    (h : ((v0 = 35 → Q (some (sI 0)) σ) ∧ (¬ v0 = 35 → ((v0 = 42 → Q (some (sI 0)) σ) ∧ (¬ v0 = 42 → ((v0 = 47 → Q (some (sI 2)) σ) ∧ (¬ v0 = 47 → ((v0 = 94 → Q (some (sI 0)) σ) ∧ (¬ v0 = 94 → ((v0 = 123 → Q (some (sI 24)) σ) ∧ (¬ v0 = 123 → Q (some (sI 1)) σ))))))))))) :
    Jd Y d y_CR_wants 0 [(0, sI v0)] [] σ Q :=
  blk_ok (d := d) (y := y_CR_wants) (ft := ft_CR) (ct := ct_CR) (tab := tab_CR_wants) ⟨tk_CR_wants, ft_CR_ok, ct_CR_ok Y⟩ [] 12 0 _ _ σ h
set_option maxRecDepth 20000 in
theorem s_CR_tail_0 (Y : List kd) (d : Nat) (v0 : Int32) (σ : sS) (Q : Option sv → sS → Prop)
    (h : ((v0 = 35 → Q (some (sI 4)) σ) ∧ (¬ v0 = 35 → ((v0 = 46 → Q (some (sI 1)) σ) ∧ (¬ v0 = 46 → ((v0 = 60 → Q (some (sI 2)) σ) ∧ (¬ v0 = 60 → ((v0 = 61 → Q (some (sI 2)) σ) ∧ (¬ v0 = 61 → ((v0 = 64 → Q (some (sI 2)) σ) ∧ (¬ v0 = 64 → Q (some (sI 0)) σ))))))))))) :
    Jd Y d y_CR_tail 0 [(0, sI v0)] [] σ Q :=
  blk_ok (d := d) (y := y_CR_tail) (ft := ft_CR) (ct := ct_CR) (tab := tab_CR_tail) ⟨tk_CR_tail, ft_CR_ok, ct_CR_ok Y⟩ [] 12 0 _ _ σ h
set_option maxRecDepth 20000 in
theorem s_VR_build_0 (Y : List kd) (d : Nat) (t : Nat) (a1 : Nat) (v2 : Int32) (σ : sS) (Q : Option sv → sS → Prop)
    (h : Jd Y (d + 1) y_VR_build 15 [(0, sR t (.inl 4)), (1, sR a1 (.inr 96)), (2, sI v2), (3, sI 0)] [] (up (up σ (t + 2) 6 0) t 5 0) Q) :
    Jd Y (d + 1) y_VR_build 0 [(0, sR t (.inl 4)), (1, sR a1 (.inr 96)), (2, sI v2)] [] σ Q :=
  blk_ok (d := (d + 1)) (y := y_VR_build) (ft := ft_VR) (ct := ct_VR) (tab := tab_VR_build) ⟨tk_VR_build, ft_VR_ok, ct_VR_ok Y⟩ [(15, [0, 1, 2, 3]), (66, [0, 1, 2, 3, 4, 7]), (92, [0, 1, 2, 3, 4, 7]), (112, [0, 1, 2, 3, 4, 6])] 75 0 _ _ σ h
set_option maxRecDepth 20000 in
theorem s_VR_build_15 (Y : List kd) (d : Nat) (t : Nat) (a1 : Nat) (v2 : Int32) (v3 : Int32) (σ : sS) (Q : Option sv → sS → Prop)
    (h : ((¬ v3 < v2 → CJ Y d y_TR_link [sR (t + 2) (.inl 3)] σ (rN fun σ1 => Q (some (sI (-1))) σ1)) ∧ (v3 < v2 → (((iDig (rd σ a1 96 v3)) = 0 → CJ Y d y_VR_takes [sR t (.inl 4), sI (rd σ a1 96 v3)] σ (rI fun r2 σ2 => Jd Y (d + 1) y_VR_build 112 [(0, sR t (.inl 4)), (1, sR a1 (.inr 96)), (2, sI v2), (3, sI v3), (4, sI v3), (6, sI r2)] [] σ2 Q)) ∧ (¬ (iDig (rd σ a1 96 v3)) = 0 → ((¬ (v3 + 1) < v2 → Jd Y (d + 1) y_VR_build 66 [(0, sR t (.inl 4)), (1, sR a1 (.inr 96)), (2, sI v2), (3, sI v3), (4, sI v3), (7, sI ((rd σ a1 96 v3) - 48))] [sI 0] σ Q) ∧ ((v3 + 1) < v2 → Jd Y (d + 1) y_VR_build 66 [(0, sR t (.inl 4)), (1, sR a1 (.inr 96)), (2, sI v2), (3, sI v3), (4, sI v3), (7, sI ((rd σ a1 96 v3) - 48))] [sI (rd σ a1 96 (v3 + 1))] σ Q))))))) :
    Jd Y (d + 1) y_VR_build 15 [(0, sR t (.inl 4)), (1, sR a1 (.inr 96)), (2, sI v2), (3, sI v3)] [] σ Q :=
  blk_ok (d := (d + 1)) (y := y_VR_build) (ft := ft_VR) (ct := ct_VR) (tab := tab_VR_build) ⟨tk_VR_build, ft_VR_ok, ct_VR_ok Y⟩ [(15, [0, 1, 2, 3]), (66, [0, 1, 2, 3, 4, 7]), (92, [0, 1, 2, 3, 4, 7]), (112, [0, 1, 2, 3, 4, 6])] 75 15 _ _ σ h
set_option maxRecDepth 20000 in
theorem s_VR_build_66 (Y : List kd) (d : Nat) (t : Nat) (a1 : Nat) (v2 : Int32) (v3 : Int32) (v4 : Int32) (v7 : Int32) (s0 : Int32) (σ : sS) (Q : Option sv → sS → Prop)
    (h : (((iDig s0) = 0 → Jd Y (d + 1) y_VR_build 92 [(0, sR t (.inl 4)), (1, sR a1 (.inr 96)), (2, sI v2), (3, sI v3), (4, sI v4), (7, sI v7)] [] σ Q) ∧ (¬ (iDig s0) = 0 → Jd Y (d + 1) y_VR_build 92 [(0, sR t (.inl 4)), (1, sR a1 (.inr 96)), (2, sI v2), (3, sI (v3 + 1)), (4, sI v4), (7, sI (((10 * v7) + s0) - 48))] [] σ Q))) :
    Jd Y (d + 1) y_VR_build 66 [(0, sR t (.inl 4)), (1, sR a1 (.inr 96)), (2, sI v2), (3, sI v3), (4, sI v4), (7, sI v7)] [sI s0] σ Q :=
  blk_ok (d := (d + 1)) (y := y_VR_build) (ft := ft_VR) (ct := ct_VR) (tab := tab_VR_build) ⟨tk_VR_build, ft_VR_ok, ct_VR_ok Y⟩ [(15, [0, 1, 2, 3]), (66, [0, 1, 2, 3, 4, 7]), (92, [0, 1, 2, 3, 4, 7]), (112, [0, 1, 2, 3, 4, 6])] 75 66 _ _ σ h
set_option maxRecDepth 20000 in
theorem s_VR_build_92 (Y : List kd) (d : Nat) (t : Nat) (a1 : Nat) (v2 : Int32) (v3 : Int32) (v4 : Int32) (v7 : Int32) (σ : sS) (Q : Option sv → sS → Prop)
    (h : CJ Y d y_VR_adds [sR t (.inl 4), sI 0, sI v7] σ (rI fun r1 σ1 => Jd Y (d + 1) y_VR_build 112 [(0, sR t (.inl 4)), (1, sR a1 (.inr 96)), (2, sI v2), (3, sI v3), (4, sI v4), (6, sI r1)] [] σ1 Q)) :
    Jd Y (d + 1) y_VR_build 92 [(0, sR t (.inl 4)), (1, sR a1 (.inr 96)), (2, sI v2), (3, sI v3), (4, sI v4), (7, sI v7)] [] σ Q :=
  blk_ok (d := (d + 1)) (y := y_VR_build) (ft := ft_VR) (ct := ct_VR) (tab := tab_VR_build) ⟨tk_VR_build, ft_VR_ok, ct_VR_ok Y⟩ [(15, [0, 1, 2, 3]), (66, [0, 1, 2, 3, 4, 7]), (92, [0, 1, 2, 3, 4, 7]), (112, [0, 1, 2, 3, 4, 6])] 75 92 _ _ σ h
set_option maxRecDepth 20000 in
theorem s_VR_build_112 (Y : List kd) (d : Nat) (t : Nat) (a1 : Nat) (v2 : Int32) (v3 : Int32) (v4 : Int32) (v6 : Int32) (σ : sS) (Q : Option sv → sS → Prop)
    (h : ((¬ v6 = 0 → Jd Y (d + 1) y_VR_build 15 [(0, sR t (.inl 4)), (1, sR a1 (.inr 96)), (2, sI v2), (3, sI (v3 + 1))] [] σ Q) ∧ (v6 = 0 → Q (some (sI v4)) σ))) :
    Jd Y (d + 1) y_VR_build 112 [(0, sR t (.inl 4)), (1, sR a1 (.inr 96)), (2, sI v2), (3, sI v3), (4, sI v4), (6, sI v6)] [] σ Q :=
  blk_ok (d := (d + 1)) (y := y_VR_build) (ft := ft_VR) (ct := ct_VR) (tab := tab_VR_build) ⟨tk_VR_build, ft_VR_ok, ct_VR_ok Y⟩ [(15, [0, 1, 2, 3]), (66, [0, 1, 2, 3, 4, 7]), (92, [0, 1, 2, 3, 4, 7]), (112, [0, 1, 2, 3, 4, 6])] 75 112 _ _ σ h
set_option maxRecDepth 20000 in
theorem s_VR_adds_0 (Y : List kd) (d : Nat) (t : Nat) (v1 : Int32) (v2 : Int32) (σ : sS) (Q : Option sv → sS → Prop)
    (h : CJ Y d y_RD_top [sR t (.inl 4)] σ (rI fun r1 σ1 => ((r1 < 0 → Jd Y (d + 1) y_VR_adds 69 [(0, sR t (.inl 4)), (1, sI v1), (2, sI v2)] [] σ1 Q) ∧ (¬ r1 < 0 → ((¬ (rd σ1 (t + 3) 20 r1) = 3 → Jd Y (d + 1) y_VR_adds 54 [(0, sR t (.inl 4)), (1, sI v1), (2, sI v2), (3, sI r1), (4, sI (rd σ1 (t + 5) 20 r1))] [] σ1 Q) ∧ ((rd σ1 (t + 3) 20 r1) = 3 → (((rd σ1 (t + 5) 20 r1) < 4 → Jd Y (d + 1) y_VR_adds 54 [(0, sR t (.inl 4)), (1, sI v1), (2, sI v2), (3, sI r1), (4, sI (rd σ1 (t + 5) 20 r1))] [] (up σ1 t 5 (6 + (rd σ1 (t + 5) 20 r1))) Q) ∧ (¬ (rd σ1 (t + 5) 20 r1) < 4 → (((0 : Int32) = 0 ∨ (0 : Int32) = 1) ∧ Q (some (sI 0)) σ1))))))))) :
    Jd Y (d + 1) y_VR_adds 0 [(0, sR t (.inl 4)), (1, sI v1), (2, sI v2)] [] σ Q :=
  blk_ok (d := (d + 1)) (y := y_VR_adds) (ft := ft_VR) (ct := ct_VR) (tab := tab_VR_adds) ⟨tk_VR_adds, ft_VR_ok, ct_VR_ok Y⟩ [(54, [0, 1, 2, 3, 4]), (69, [0, 1, 2]), (105, [0])] 67 0 _ _ σ h
set_option maxRecDepth 20000 in
theorem s_VR_adds_54 (Y : List kd) (d : Nat) (t : Nat) (v1 : Int32) (v2 : Int32) (v3 : Int32) (v4 : Int32) (σ : sS) (Q : Option sv → sS → Prop)
    (h : Jd Y (d + 1) y_VR_adds 69 [(0, sR t (.inl 4)), (1, sI v1), (2, sI v2)] [] (wr σ (t + 5) 20 v3 (v4 + 1)) Q) :
    Jd Y (d + 1) y_VR_adds 54 [(0, sR t (.inl 4)), (1, sI v1), (2, sI v2), (3, sI v3), (4, sI v4)] [] σ Q :=
  blk_ok (d := (d + 1)) (y := y_VR_adds) (ft := ft_VR) (ct := ct_VR) (tab := tab_VR_adds) ⟨tk_VR_adds, ft_VR_ok, ct_VR_ok Y⟩ [(54, [0, 1, 2, 3, 4]), (69, [0, 1, 2]), (105, [0])] 67 54 _ _ σ h
set_option maxRecDepth 20000 in
theorem s_VR_adds_69 (Y : List kd) (d : Nat) (t : Nat) (v1 : Int32) (v2 : Int32) (σ : sS) (Q : Option sv → sS → Prop)
    (h : (((4 : Int32) < (σ t 1) → (((0 : Int32) = 0 ∨ (0 : Int32) = 1) ∧ Q (some (sI 0)) σ)) ∧ (¬ (4 : Int32) < (σ t 1) → CJ Y d y_TR_add [sR (t + 2) (.inl 3), sI v1, sI v2, sI (σ t 5)] σ (rI fun r1 σ1 => ((¬ r1 = 0 → ((v1 = 2 → Jd Y (d + 1) y_VR_adds 105 [(0, sR t (.inl 4))] [] σ1 Q) ∧ (¬ v1 = 2 → ((¬ v1 = 3 → (((1 : Int32) = 0 ∨ (1 : Int32) = 1) ∧ Q (some (sI 1)) σ1)) ∧ (v1 = 3 → Jd Y (d + 1) y_VR_adds 105 [(0, sR t (.inl 4))] [] σ1 Q))))) ∧ (r1 = 0 → (((0 : Int32) = 0 ∨ (0 : Int32) = 1) ∧ Q (some (sI 0)) σ1))))))) :
    Jd Y (d + 1) y_VR_adds 69 [(0, sR t (.inl 4)), (1, sI v1), (2, sI v2)] [] σ Q :=
  blk_ok (d := (d + 1)) (y := y_VR_adds) (ft := ft_VR) (ct := ct_VR) (tab := tab_VR_adds) ⟨tk_VR_adds, ft_VR_ok, ct_VR_ok Y⟩ [(54, [0, 1, 2, 3, 4]), (69, [0, 1, 2]), (105, [0])] 67 69 _ _ σ h
set_option maxRecDepth 20000 in
theorem s_VR_adds_105 (Y : List kd) (d : Nat) (t : Nat) (σ : sS) (Q : Option sv → sS → Prop)
    (h : CJ Y d y_RD_push [sR t (.inl 4), sI ((σ (t + 2) 6) - 1)] σ (rN fun σ1 => (((1 : Int32) = 0 ∨ (1 : Int32) = 1) ∧ Q (some (sI 1)) σ1))) :
    Jd Y (d + 1) y_VR_adds 105 [(0, sR t (.inl 4))] [] σ Q :=
  blk_ok (d := (d + 1)) (y := y_VR_adds) (ft := ft_VR) (ct := ct_VR) (tab := tab_VR_adds) ⟨tk_VR_adds, ft_VR_ok, ct_VR_ok Y⟩ [(54, [0, 1, 2, 3, 4]), (69, [0, 1, 2]), (105, [0])] 67 105 _ _ σ h
set_option maxRecDepth 20000 in
theorem s_TR_add_0 (Y : List kd) (d : Nat) (t : Nat) (v1 : Int32) (v2 : Int32) (v3 : Int32) (σ : sS) (Q : Option sv → sS → Prop)
    (h : (((σ t 6) < 20 → Jd Y (d + 1) y_TR_add 23 [(0, sR t (.inl 3)), (2, sI v2), (3, sI v3)] [] (wr σ (t + 1) 20 (σ t 6) v1) Q) ∧ (¬ (σ t 6) < 20 → (((0 : Int32) = 0 ∨ (0 : Int32) = 1) ∧ Q (some (sI 0)) σ)))) :
    Jd Y (d + 1) y_TR_add 0 [(0, sR t (.inl 3)), (1, sI v1), (2, sI v2), (3, sI v3)] [] σ Q :=
  blk_ok (d := (d + 1)) (y := y_TR_add) (ft := ft_TR) (ct := ct_TR) (tab := tab_TR_add) ⟨tk_TR_add, ft_TR_ok, ct_TR_ok Y⟩ [(23, [0, 2, 3]), (35, [0, 3]), (47, [0, 3]), (59, [0]), (71, [0])] 46 0 _ _ σ h
set_option maxRecDepth 20000 in
theorem s_TR_add_23 (Y : List kd) (d : Nat) (t : Nat) (v2 : Int32) (v3 : Int32) (σ : sS) (Q : Option sv → sS → Prop)
    (h : Jd Y (d + 1) y_TR_add 35 [(0, sR t (.inl 3)), (3, sI v3)] [] (wr σ (t + 2) 20 (σ t 6) v2) Q) :
    Jd Y (d + 1) y_TR_add 23 [(0, sR t (.inl 3)), (2, sI v2), (3, sI v3)] [] σ Q :=
  blk_ok (d := (d + 1)) (y := y_TR_add) (ft := ft_TR) (ct := ct_TR) (tab := tab_TR_add) ⟨tk_TR_add, ft_TR_ok, ct_TR_ok Y⟩ [(23, [0, 2, 3]), (35, [0, 3]), (47, [0, 3]), (59, [0]), (71, [0])] 46 23 _ _ σ h
set_option maxRecDepth 20000 in
theorem s_TR_add_35 (Y : List kd) (d : Nat) (t : Nat) (v3 : Int32) (σ : sS) (Q : Option sv → sS → Prop)
    (h : Jd Y (d + 1) y_TR_add 47 [(0, sR t (.inl 3)), (3, sI v3)] [] (wr σ (t + 3) 20 (σ t 6) 0) Q) :
    Jd Y (d + 1) y_TR_add 35 [(0, sR t (.inl 3)), (3, sI v3)] [] σ Q :=
  blk_ok (d := (d + 1)) (y := y_TR_add) (ft := ft_TR) (ct := ct_TR) (tab := tab_TR_add) ⟨tk_TR_add, ft_TR_ok, ct_TR_ok Y⟩ [(23, [0, 2, 3]), (35, [0, 3]), (47, [0, 3]), (59, [0]), (71, [0])] 46 35 _ _ σ h
set_option maxRecDepth 20000 in
theorem s_TR_add_47 (Y : List kd) (d : Nat) (t : Nat) (v3 : Int32) (σ : sS) (Q : Option sv → sS → Prop)
    (h : Jd Y (d + 1) y_TR_add 59 [(0, sR t (.inl 3))] [] (wr σ (t + 4) 20 (σ t 6) v3) Q) :
    Jd Y (d + 1) y_TR_add 47 [(0, sR t (.inl 3)), (3, sI v3)] [] σ Q :=
  blk_ok (d := (d + 1)) (y := y_TR_add) (ft := ft_TR) (ct := ct_TR) (tab := tab_TR_add) ⟨tk_TR_add, ft_TR_ok, ct_TR_ok Y⟩ [(23, [0, 2, 3]), (35, [0, 3]), (47, [0, 3]), (59, [0]), (71, [0])] 46 47 _ _ σ h
set_option maxRecDepth 20000 in
theorem s_TR_add_59 (Y : List kd) (d : Nat) (t : Nat) (σ : sS) (Q : Option sv → sS → Prop)
    (h : Jd Y (d + 1) y_TR_add 71 [(0, sR t (.inl 3))] [] (wr σ (t + 5) 20 (σ t 6) 1) Q) :
    Jd Y (d + 1) y_TR_add 59 [(0, sR t (.inl 3))] [] σ Q :=
  blk_ok (d := (d + 1)) (y := y_TR_add) (ft := ft_TR) (ct := ct_TR) (tab := tab_TR_add) ⟨tk_TR_add, ft_TR_ok, ct_TR_ok Y⟩ [(23, [0, 2, 3]), (35, [0, 3]), (47, [0, 3]), (59, [0]), (71, [0])] 46 59 _ _ σ h
set_option maxRecDepth 20000 in
theorem s_TR_add_71 (Y : List kd) (d : Nat) (t : Nat) (σ : sS) (Q : Option sv → sS → Prop)
    (h : (((1 : Int32) = 0 ∨ (1 : Int32) = 1) ∧ Q (some (sI 1)) (up σ t 6 ((σ t 6) + 1)))) :
    Jd Y (d + 1) y_TR_add 71 [(0, sR t (.inl 3))] [] σ Q :=
  blk_ok (d := (d + 1)) (y := y_TR_add) (ft := ft_TR) (ct := ct_TR) (tab := tab_TR_add) ⟨tk_TR_add, ft_TR_ok, ct_TR_ok Y⟩ [(23, [0, 2, 3]), (35, [0, 3]), (47, [0, 3]), (59, [0]), (71, [0])] 46 71 _ _ σ h
set_option maxRecDepth 20000 in
theorem s_VR_takes_0 (Y : List kd) (d : Nat) (t : Nat) (v1 : Int32) (σ : sS) (Q : Option sv → sS → Prop)
    (h : ((v1 = 40 → CJ Y d y_VR_adds [sR t (.inl 4), sI 2, sI 0] σ (rI fun r11 σ11 => ((r11 = 0 ∨ r11 = 1) ∧ Q (some (sI r11)) σ11))) ∧ (¬ v1 = 40 → ((v1 = 41 → CJ Y d y_RD_top [sR t (.inl 4)] σ (rI fun r8 σ8 => CJ Y d y_RD_top [sR t (.inl 4)] σ8 (rI fun r9 σ9 => CJ Y d y_RD_pop [sR t (.inl 4)] (wr σ9 (t + 7) 20 r8 ((σ8 (t + 2) 6) - r9)) (rN fun σ10 => (((1 : Int32) = 0 ∨ (1 : Int32) = 1) ∧ Q (some (sI 1)) σ10))))) ∧ (¬ v1 = 41 → ((v1 = 44 → (((1 : Int32) = 0 ∨ (1 : Int32) = 1) ∧ Q (some (sI 1)) σ)) ∧ (¬ v1 = 44 → ((v1 = 63 → CJ Y d y_VR_adds [sR t (.inl 4), sI 1, sI 0] σ (rI fun r7 σ7 => ((r7 = 0 ∨ r7 = 1) ∧ Q (some (sI r7)) σ7))) ∧ (¬ v1 = 63 → ((v1 = 91 → CJ Y d y_VR_adds [sR t (.inl 4), sI 3, sI 0] σ (rI fun r6 σ6 => ((r6 = 0 ∨ r6 = 1) ∧ Q (some (sI r6)) σ6))) ∧ (¬ v1 = 91 → ((v1 = 93 → CJ Y d y_RD_top [sR t (.inl 4)] σ (rI fun r3 σ3 => CJ Y d y_RD_top [sR t (.inl 4)] σ3 (rI fun r4 σ4 => CJ Y d y_RD_pop [sR t (.inl 4)] (wr σ4 (t + 7) 20 r3 ((σ3 (t + 2) 6) - r4)) (rN fun σ5 => (((1 : Int32) = 0 ∨ (1 : Int32) = 1) ∧ Q (some (sI 1)) σ5))))) ∧ (¬ v1 = 93 → CJ Y d y_RD_top [sR t (.inl 4)] (up σ t 5 ((v1 - 97) + 1)) (rI fun r1 σ1 => CJ Y d y_TR_child [sR (t + 2) (.inl 3), sI r1, sI (σ1 t 5)] σ1 (rI fun r2 σ2 => ((¬ r2 < 0 → (((0 : Int32) = 0 ∨ (0 : Int32) = 1) ∧ Q (some (sI 0)) σ2)) ∧ (r2 < 0 → (((1 : Int32) = 0 ∨ (1 : Int32) = 1) ∧ Q (some (sI 1)) σ2)))))))))))))))))) :
    Jd Y (d + 1) y_VR_takes 0 [(0, sR t (.inl 4)), (1, sI v1)] [] σ Q :=
  blk_ok (d := (d + 1)) (y := y_VR_takes) (ft := ft_VR) (ct := ct_VR) (tab := tab_VR_takes) ⟨tk_VR_takes, ft_VR_ok, ct_VR_ok Y⟩ [] 53 0 _ _ σ h
set_option maxRecDepth 20000 in
theorem s_TR_link_0 (Y : List kd) (d : Nat) (t : Nat) (σ : sS) (Q : Option sv → sS → Prop)
    (h : Jd Y (d + 1) y_TR_link 11 [(0, sR t (.inl 3)), (1, sI 0)] [] (wr σ (t + 6) 20 0 0) Q) :
    Jd Y (d + 1) y_TR_link 0 [(0, sR t (.inl 3))] [] σ Q :=
  blk_ok (d := (d + 1)) (y := y_TR_link) (ft := ft_TR) (ct := ct_TR) (tab := tab_TR_link) ⟨tk_TR_link, ft_TR_ok, ct_TR_ok Y⟩ [(11, [0, 1]), (35, [0, 1, 2, 3, 4]), (66, [0, 1, 2, 3, 4])] 67 0 _ _ σ h
set_option maxRecDepth 20000 in
theorem s_TR_link_11 (Y : List kd) (d : Nat) (t : Nat) (v1 : Int32) (σ : sS) (Q : Option sv → sS → Prop)
    (h : ((¬ v1 < (σ t 6) → Q none σ) ∧ (v1 < (σ t 6) → Jd Y (d + 1) y_TR_link 35 [(0, sR t (.inl 3)), (1, sI v1), (2, sI (rd σ (t + 3) 20 v1)), (3, sI (v1 + 1)), (4, sI 0)] [] σ Q))) :
    Jd Y (d + 1) y_TR_link 11 [(0, sR t (.inl 3)), (1, sI v1)] [] σ Q :=
  blk_ok (d := (d + 1)) (y := y_TR_link) (ft := ft_TR) (ct := ct_TR) (tab := tab_TR_link) ⟨tk_TR_link, ft_TR_ok, ct_TR_ok Y⟩ [(11, [0, 1]), (35, [0, 1, 2, 3, 4]), (66, [0, 1, 2, 3, 4])] 67 11 _ _ σ h
set_option maxRecDepth 20000 in
theorem s_TR_link_35 (Y : List kd) (d : Nat) (t : Nat) (v1 : Int32) (v2 : Int32) (v3 : Int32) (v4 : Int32) (σ : sS) (Q : Option sv → sS → Prop)
    (h : ((¬ v4 < v2 → Jd Y (d + 1) y_TR_link 11 [(0, sR t (.inl 3)), (1, sI (v1 + 1))] [] σ Q) ∧ (v4 < v2 → ((¬ (rd σ (t + 1) 20 v1) = 3 → Jd Y (d + 1) y_TR_link 66 [(0, sR t (.inl 3)), (1, sI v1), (2, sI v2), (3, sI v3), (4, sI v4)] [] σ Q) ∧ ((rd σ (t + 1) 20 v1) = 3 → Jd Y (d + 1) y_TR_link 66 [(0, sR t (.inl 3)), (1, sI v1), (2, sI v2), (3, sI v3), (4, sI v4)] [] (wr σ (t + 4) 20 v3 (6 + v4)) Q))))) :
    Jd Y (d + 1) y_TR_link 35 [(0, sR t (.inl 3)), (1, sI v1), (2, sI v2), (3, sI v3), (4, sI v4)] [] σ Q :=
  blk_ok (d := (d + 1)) (y := y_TR_link) (ft := ft_TR) (ct := ct_TR) (tab := tab_TR_link) ⟨tk_TR_link, ft_TR_ok, ct_TR_ok Y⟩ [(11, [0, 1]), (35, [0, 1, 2, 3, 4]), (66, [0, 1, 2, 3, 4])] 67 35 _ _ σ h
set_option maxRecDepth 20000 in
theorem s_TR_link_66 (Y : List kd) (d : Nat) (t : Nat) (v1 : Int32) (v2 : Int32) (v3 : Int32) (v4 : Int32) (σ : sS) (Q : Option sv → sS → Prop)
    (h : Jd Y (d + 1) y_TR_link 35 [(0, sR t (.inl 3)), (1, sI v1), (2, sI v2), (3, sI (v3 + (rd (wr σ (t + 6) 20 v3 ((10 * (rd σ (t + 6) 20 v1)) + (rd σ (t + 4) 20 v3))) (t + 5) 20 v3))), (4, sI (v4 + 1))] [] (wr σ (t + 6) 20 v3 ((10 * (rd σ (t + 6) 20 v1)) + (rd σ (t + 4) 20 v3))) Q) :
    Jd Y (d + 1) y_TR_link 66 [(0, sR t (.inl 3)), (1, sI v1), (2, sI v2), (3, sI v3), (4, sI v4)] [] σ Q :=
  blk_ok (d := (d + 1)) (y := y_TR_link) (ft := ft_TR) (ct := ct_TR) (tab := tab_TR_link) ⟨tk_TR_link, ft_TR_ok, ct_TR_ok Y⟩ [(11, [0, 1]), (35, [0, 1, 2, 3, 4]), (66, [0, 1, 2, 3, 4])] 67 66 _ _ σ h
set_option maxRecDepth 20000 in
theorem s_GF_value_0 (Y : List kd) (d : Nat) (t : Nat) (σ : sS) (Q : Option sv → sS → Prop)
    (h : CJ Y d y_RD_read [sR (t + 38) (.inl 4), sR (t + 64) (.inr 96), sI (σ t 6)] σ (rI fun r1 σ1 => ((r1 = 0 → CJ Y d y_TR_take [sR (t + 1) (.inl 3), sR (t + 40) (.inl 3)] (up σ1 t 6 0) (rN fun σ2 => Q (some (sI (σ2 (t + 1) 6))) σ2)) ∧ (¬ r1 = 0 → Q (some (sI r1)) (up σ1 t 6 0))))) :
    Jd Y (d + 1) y_GF_value 0 [(0, sR t (.inl 5))] [] σ Q :=
  blk_ok (d := (d + 1)) (y := y_GF_value) (ft := ft_GF) (ct := ct_GF) (tab := tab_GF_value) ⟨tk_GF_value, ft_GF_ok, ct_GF_ok Y⟩ [] 27 0 _ _ σ h
